/-! PURE: the reference's limits. -/
def rowI (f : Nat → Nat → Int32) (k : Nat) (V : Nat → Int32) (m : Nat) : Nat → Nat → Int32 := fun a b => if a = 38 ∧ 5 * k ≤ b ∧ b < 5 * k + m then V (b - 5 * k) else f a b
theorem rowI_0 (f : Nat → Nat → Int32) (k : Nat) (V : Nat → Int32) : rowI f k V 0 = f := by
  funext a b
  unfold rowI
  rw [if_neg (by omega)]
theorem rowI_S (f : Nat → Nat → Int32) (k : Nat) (V : Nat → Int32) (m : Nat) : upI (rowI f k V m) 38 (5 * k + m) (V m) = rowI f k V (m + 1) := by
  funext a b
  unfold rowI upI
  by_cases h : a = 38 ∧ b = 5 * k + m
  · rw [if_pos h, if_pos (by omega), h.2, show 5 * k + m - 5 * k = m by omega]
  · rw [if_neg h]
    dsimp only
    by_cases h2 : a = 38 ∧ 5 * k ≤ b ∧ b < 5 * k + m
    · rw [if_pos h2, if_pos (by omega)]
    · rw [if_neg h2, if_neg (by omega)]
theorem rowI_ne {f : Nat → Nat → Int32} {k : Nat} {V : Nat → Int32} {m a : Nat} (h : a ≠ 38) (b : Nat) : rowI f k V m a b = f a b := by
  unfold rowI
  rw [if_neg (by omega)]
theorem rowI_at {f : Nat → Nat → Int32} {k : Nat} {V : Nat → Int32} {m c : Nat} (h : c < m) : rowI f k V m 38 (5 * k + c) = V c := by
  unfold rowI
  rw [if_pos (by omega), show 5 * k + c - 5 * k = c by omega]
theorem rowI_far {f : Nat → Nat → Int32} {k k' : Nat} {V : Nat → Int32} {c : Nat} (h : k' ≠ k) (hc : c < 5) : rowI f k V 5 38 (5 * k' + c) = f 38 (5 * k' + c) := by
  unfold rowI
  rw [if_neg (by omega)]
/-- a rule's coefficient of a lot, before its sign -/
def cfI (μ : Mem) (r : Nat) (x5 : Int32) (c : Nat) : Int32 := if r < 5 then μ.1 30 (5 * c + r) else if 7 ≤ r then 1 else μ.1 33 r * μ.1 30 (5 * c + (μ.1 34 r).toNatClampNeg) - x5 * μ.1 30 (5 * c + (μ.1 35 r).toNatClampNeg)
def vI (μ : Mem) (n r : Nat) (x4 x5 : Int32) (c : Nat) : Int32 := if c < 4 then (if n ≤ c then 0 else x4 * cfI μ r x5 c) else if r < 5 ∨ 7 ≤ r then x4 * x5 else 0
theorem five_nI (k c : Nat) : (5 : Int32) * nI k + nI c = nI (5 * k + c) := by
  have : (5 : Int32) * nI k = nI (5 * k) := by
    show Int32.ofNat 5 * Int32.ofNat k = Int32.ofNat (5 * k)
    exact (Int32.ofNat_mul 5 k).symm
  rw [this, nI_add]
theorem lim_col {N m n r k c : Nat} {x4 x5 : Int32} {μ : Mem} (hX : InvX μ) (hr : r < 8) (hk : k < 24) (hc : c < 4) (hn : n ≤ 4) (h7 : μ.1 7 0 = nI n) :
    M_Mo_setLimit_47 N (m + 1) (nI k) (nI r) x4 x5 (nI c) μ = M_Mo_setLimit_47 N m (nI k) (nI r) x4 x5 (nI (c + 1)) (upI μ.1 38 (5 * k + c) (vI μ n r x4 x5 c), μ.2) := by
  have n4 : ¬ (4 : Int32) ≤ nI c := nI_ge (a := c) (b := 4) hc (by omega)
  have tail : ∀ x7 : Int32, x7 = cfI μ r x5 c → M_Mo_setLimit_131 N (M_Mo_setLimit_47 N m) (nI k) (nI r) x4 x5 (nI c) x7 μ = M_Mo_setLimit_47 N m (nI k) (nI r) x4 x5 (nI (c + 1)) (upI μ.1 38 (5 * k + c) (vI μ n r x4 x5 c), μ.2) := by
    intro x7 e7
    unfold M_Mo_setLimit_131 M_Mo_setLimit_159
    rw [h7, five_nI]
    by_cases hnc : n ≤ c
    · rw [if_pos (nI_le hnc (by omega)), stI_n (by decide) (by decide) (by show 5 * k + c < 120; omega) (by decide), bs, nI_1, vI, if_pos hc, if_pos hnc]
    · rw [if_neg (nI_ge (a := c) (b := n) (by omega) (by omega)), stI_n (by decide) (by decide) (by show 5 * k + c < 120; omega) (by decide), bs, nI_1, vI, if_pos hc, if_neg hnc, e7]
  rw [M_Mo_setLimit_47, if_neg n4]
  by_cases h5 : r < 5
  · have g5 : ¬ (5 : Int32) ≤ nI r := nI_ge (a := r) (b := 5) h5 (by omega)
    rw [if_neg g5, five_nI, ldI_n (by decide) (by decide) (by show 5 * c + r < 20; omega) (by decide), bs]
    exact tail _ (by unfold cfI; rw [if_pos h5])
  · have g5 : (5 : Int32) ≤ nI r := nI_le (a := 5) (b := r) (by omega) (by omega)
    rw [if_pos g5]
    by_cases h7' : 7 ≤ r
    · have g7 : (7 : Int32) ≤ nI r := nI_le (a := 7) (b := r) (by omega) (by omega)
      rw [if_pos g7]
      exact tail _ (by unfold cfI; rw [if_neg h5, if_pos h7'])
    · have g7 : ¬ (7 : Int32) ≤ nI r := nI_ge (a := r) (b := 7) (by omega) (by omega)
      obtain ⟨f, g, hf, hg, e34, e35⟩ := hX r (by omega)
      rw [if_neg g7, ldI_n (by decide) (by decide) (by show r < 8; omega) (by decide), bs, ldI_n (by decide) (by decide) (by show r < 8; omega) (by decide), bs, e34, five_nI, ldI_n (by decide) (by decide) (by show 5 * c + f < 20; omega) (by decide), bs, ldI_n (by decide) (by decide) (by show r < 8; omega) (by decide), bs, e35, five_nI, ldI_n (by decide) (by decide) (by show 5 * c + g < 20; omega) (by decide), bs, nm_eq]
      exact tail _ (by unfold cfI; rw [if_neg h5, if_neg h7', e34, e35, nI_clamp (by omega), nI_clamp (by omega)])
theorem InvX_up {μ : Mem} (h : InvX μ) {k j : Nat} {v : Int32} (hk : k ≠ 34 ∧ k ≠ 35) : InvX (upI μ.1 k j v, μ.2) := by
  intro r hr
  dsimp only
  rw [upI_ne (by omega), upI_ne (by omega)]
  exact h r hr
theorem vI_congr {μ μ' : Mem} {n r : Nat} {x4 x5 : Int32} (h : ∀ a b, 30 ≤ a → a < 36 → μ'.1 a b = μ.1 a b) : vI μ' n r x4 x5 = vI μ n r x4 x5 := by
  funext c
  unfold vI cfI
  rw [h 30 _ (by omega) (by omega), h 33 _ (by omega) (by omega), h 34 _ (by omega) (by omega), h 35 _ (by omega) (by omega), h 30 _ (by omega) (by omega), h 30 _ (by omega) (by omega)]
theorem lim_row {N n r k : Nat} {x4 x5 : Int32} {μ : Mem} (hN : 5 ≤ N) (hX : InvX μ) (hr : r < 8) (hk : k < 24) (hn : n ≤ 4) (h7 : μ.1 7 0 = nI n) :
    M_Mo_setLimit_47 N N (nI k) (nI r) x4 x5 0 μ = some (rowI μ.1 k (vI μ n r x4 x5) 5, μ.2) := by
  have st : ∀ c, c ≤ 4 → ∀ m, M_Mo_setLimit_47 N (m + c) (nI k) (nI r) x4 x5 (nI 0) μ = M_Mo_setLimit_47 N m (nI k) (nI r) x4 x5 (nI c) (rowI μ.1 k (vI μ n r x4 x5) c, μ.2) := by
    intro c
    induction c with
    | zero => intro _ m; rw [rowI_0]; rfl
    | succ c ih =>
      intro hc m
      have hX' : InvX (rowI μ.1 k (vI μ n r x4 x5) c, μ.2) := fun q hq => by
        dsimp only
        rw [rowI_ne (by omega), rowI_ne (by omega)]
        exact hX q hq
      rw [show m + (c + 1) = m + 1 + c by omega, ih (by omega) (m + 1), lim_col hX' hr hk (by omega) hn (by dsimp only; rw [rowI_ne (by omega)]; exact h7)]
      dsimp only
      rw [vI_congr (μ := μ) (μ' := (rowI μ.1 k (vI μ n r x4 x5) c, μ.2)) (fun a b h1 h2 => rowI_ne (a := a) (by omega) b), rowI_S]
  obtain ⟨m, rfl⟩ : ∃ m, N = m + 1 + 4 := ⟨N - 5, by omega⟩
  have e0 : (0 : Int32) = nI 0 := rfl
  rw [e0, st 4 (by omega) (m + 1), M_Mo_setLimit_47, if_pos (by decide)]
  have f4 : (5 : Int32) * nI k + 4 = nI (5 * k + 4) := five_nI k 4
  by_cases h5 : r < 5
  · have g5 : nI r < (5 : Int32) := nI_lt (a := r) (b := 5) h5 (by omega)
    rw [if_pos g5, M_Mo_setLimit_190, f4, stI_n (by decide) (by decide) (by show 5 * k + 4 < 120; omega) (by decide), bs]
    dsimp only
    rw [← rowI_S _ _ _ 4]
    rw [show vI μ n r x4 x5 4 = x4 * x5 by unfold vI; rw [if_neg (by decide), if_pos (Or.inl h5)]]
  · have g5 : ¬ nI r < (5 : Int32) := nI_nlt (a := r) (b := 5) (by omega) (by omega)
    rw [if_neg g5]
    by_cases h7' : 7 ≤ r
    · have g7 : (7 : Int32) ≤ nI r := nI_le (a := 7) (b := r) (by omega) (by omega)
      rw [if_pos g7, M_Mo_setLimit_190, f4, stI_n (by decide) (by decide) (by show 5 * k + 4 < 120; omega) (by decide), bs]
      dsimp only
      rw [← rowI_S _ _ _ 4]
      rw [show vI μ n r x4 x5 4 = x4 * x5 by unfold vI; rw [if_neg (by decide), if_pos (Or.inr h7')]]
    · have g7 : ¬ (7 : Int32) ≤ nI r := nI_ge (a := r) (b := 7) (by omega) (by omega)
      rw [if_neg g7, f4, stI_n (by decide) (by decide) (by show 5 * k + 4 < 120; omega) (by decide), bs]
      dsimp only
      rw [← rowI_S _ _ _ 4]
      rw [show vI μ n r x4 x5 4 = 0 by unfold vI; rw [if_neg (by decide), if_neg (by omega)]]
/-- the value that stands in a limit's column, and whether it is a limit -/
def LV (μ : Mem) (n k c : Nat) : Int32 :=
  if k < 16 then vI μ n (k / 2) (if k % 2 = 0 then 1 else -1) (if k % 2 = 0 then μ.1 31 (k / 2) else μ.1 32 (k / 2)) c
  else if c < 4 then (if c = (k - 16) / 2 then 1 - 2 * nI (k % 2) else 0) else if k % 2 = 1 ∧ (k - 16) / 2 < n then -μ.1 28 ((k - 16) / 2) else 0
def LB (μ : Mem) (n k : Nat) : Int32 := if k < 16 then μ.1 14 (k / 2) else if (k - 16) / 2 < n ∨ k % 2 = 0 then 1 else 0
def WIl (k : Nat) : Prop := k = 15 ∨ k = 38
def WJn (k : Nat) : Prop := False ∧ k = k
def LimK (μ μ' : Mem) (n K : Nat) : Prop := eqO WIl WJn μ μ' ∧ ∀ k, k < K → (∀ c, c < 5 → μ'.1 38 (5 * k + c) = LV μ n k c) ∧ μ'.1 15 k = LB μ n k
theorem LimK.add {μ μ' : Mem} {n K : Nat} (h : LimK μ μ' n K) : LimK μ (rowI (upI μ'.1 15 K (LB μ n K)) K (LV μ n K) 5, μ'.2) n (K + 1) := by
  refine ⟨⟨fun a b q => ?_, h.1.2⟩, fun k hk => ⟨fun c hc => ?_, ?_⟩⟩
  · dsimp only
    rw [rowI_ne (fun e => q (Or.inr e)), upI_ne (fun e => q (Or.inl e))]
    exact h.1.1 a b q
  · dsimp only
    by_cases e : k = K
    · rw [e, rowI_at hc]
    · rw [rowI_far e hc, upI_ne (by omega)]
      exact (h.2 k (by omega)).1 c hc
  · dsimp only
    rw [rowI_ne (by omega)]
    by_cases e : k = K
    · rw [e, upI_at]
    · rw [upI_pl e]
      exact (h.2 k (by omega)).2
theorem told01 {μ : Mem} (hR : InvR μ) {r : Nat} (hr : r < 8) : μ.1 14 r = 0 ∨ μ.1 14 r = 1 := by
  obtain ⟨T, -, -, h, -⟩ := hR
  rw [h r hr]
  by_cases q : T.testBit r = true
  · rw [if_pos q]; exact Or.inr rfl
  · rw [if_neg q]; exact Or.inl rfl
theorem lim_one {N n r : Nat} {s : Nat} {μ μ' : Mem} (hN : 5 ≤ N) (hX : InvX μ) (hR : InvR μ) (hr : r < 8) (hs : s < 2) (hn : n ≤ 4) (h7 : μ.1 7 0 = nI n) (h : LimK μ μ' n (2 * r + s)) :
    ∃ μ2, M_Mo_setLimit N (nI (2 * r + s)) (nI r) (nI s) μ' = some μ2 ∧ LimK μ μ2 n (2 * r + s + 1) := by
  refine ⟨_, ?_, h.add⟩
  have q1 : ∀ a b, a ≠ 15 → a ≠ 38 → μ'.1 a b = μ.1 a b := fun a b h1 h2 => h.1.1 a b (fun q => by rcases q with q | q <;> omega)
  have hX' : InvX μ' := fun q hq => by rw [q1 _ _ (by omega) (by omega), q1 _ _ (by omega) (by omega)]; exact hX q hq
  have h7' : μ'.1 7 0 = nI n := by rw [q1 _ _ (by omega) (by omega)]; exact h7
  have e2 : (2 * r + s) / 2 = r := by omega
  have key : ∀ x4 x5 : Int32, x4 = (if (2 * r + s) % 2 = 0 then (1 : Int32) else -1) → x5 = (if (2 * r + s) % 2 = 0 then μ.1 31 r else μ.1 32 r) → M_Mo_setLimit_30 N (nI (2 * r + s)) (nI r) x4 x5 μ' = some (rowI (upI μ'.1 15 (2 * r + s) (LB μ n (2 * r + s))) (2 * r + s) (LV μ n (2 * r + s)) 5, μ'.2) := by
    intro x4 x5 e4 e5
    unfold M_Mo_setLimit_30
    have t01 : μ'.1 14 r = 0 ∨ μ'.1 14 r = 1 := by rw [q1 _ _ (by omega) (by omega)]; exact told01 hR hr
    rw [ldZ_n (by decide) (by decide) (by show r < 8; omega) (by decide), bs, stZ_n (by decide) (by decide) t01 (by show 2 * r + s < 24; omega) (by decide), bs, lim_row hN (InvX_up hX' (by omega)) hr (by omega) hn (by dsimp only; rw [upI_ne (by omega)]; exact h7')]
    dsimp only
    have eL : LV μ n (2 * r + s) = vI (upI μ'.1 15 (2 * r + s) (μ'.1 14 r), μ'.2) n r x4 x5 := by
      rw [vI_congr (μ := μ) (fun a b h1 h2 => by dsimp only; rw [upI_ne (by omega), q1 _ _ (by omega) (by omega)])]
      funext c
      unfold LV
      rw [if_pos (by omega), e2, e4, e5]
    rw [eL, show LB μ n (2 * r + s) = μ'.1 14 r by unfold LB; rw [if_pos (by omega), e2, q1 _ _ (by omega) (by omega)]]
  unfold M_Mo_setLimit M_Mo_setLimit_9
  rcases (by omega : s = 0 ∨ s = 1) with rfl | rfl
  · rw [if_pos (by rfl), if_pos (by rfl), ldI_n (by decide) (by decide) (by show r < 8; omega) (by decide), bs]
    exact key _ _ (by rw [if_pos (by omega)]) (by rw [if_pos (by omega), q1 _ _ (by omega) (by omega)])
  · rw [if_neg (by decide), if_neg (by decide), ldI_n (by decide) (by decide) (by show r < 8; omega) (by decide), bs]
    exact key _ _ (by rw [if_neg (by omega)]) (by rw [if_neg (by omega), q1 _ _ (by omega) (by omega)])
theorem lim_rules {N n : Nat} {μ : Mem} (hN : 9 ≤ N) (hX : InvX μ) (hR : InvR μ) (hn : n ≤ 4) (h7 : μ.1 7 0 = nI n) : ∀ (k m : Nat) (μ' : Mem), k ≤ 8 → LimK μ μ' n (2 * (8 - k)) →
    ∃ μ2, M_Mo_setLimits_2 N (m + k + 1) (nI (8 - k)) μ' = M_Mo_setLimits_36 N N 0 μ2 ∧ LimK μ μ2 n 16 := by
  intro k
  induction k with
  | zero =>
    intro m μ' _ h
    refine ⟨μ', ?_, h⟩
    rw [M_Mo_setLimits_2, if_pos (by decide)]
  | succ k ih =>
    intro m μ' hk h
    have n8 : ¬ (8 : Int32) ≤ nI (8 - (k + 1)) := nI_ge (a := 8 - (k + 1)) (b := 8) (by omega) (by omega)
    obtain ⟨μ1, a1, a2⟩ := lim_one (N := N) (s := 0) (r := 8 - (k + 1)) (by omega) hX hR (by omega) (by omega) hn h7 h
    obtain ⟨μ2, b1, b2⟩ := lim_one (N := N) (s := 1) (r := 8 - (k + 1)) (by omega) hX hR (by omega) (by omega) hn h7 a2
    have e : 2 * (8 - (k + 1)) + 1 + 1 = 2 * (8 - k) := by omega
    rw [e] at b2
    obtain ⟨μ3, c1, c2⟩ := ih m μ2 (by omega) b2
    refine ⟨μ3, ?_, c2⟩
    have t2 : (2 : Int32) * nI (8 - (k + 1)) = nI (2 * (8 - (k + 1))) := (Int32.ofNat_mul 2 _).symm
    rw [show m + (k + 1) + 1 = (m + k + 1) + 1 by omega, M_Mo_setLimits_2, if_neg n8, t2]
    have a1' : M_Mo_setLimit N (nI (2 * (8 - (k + 1)))) (nI (8 - (k + 1))) 0 μ' = some μ1 := a1
    rw [a1', bs, nI_1]
    have b1' : M_Mo_setLimit N (nI (2 * (8 - (k + 1)) + 1)) (nI (8 - (k + 1))) 1 μ1 = some μ2 := b1
    rw [b1', bs, nI_1, show 8 - (k + 1) + 1 = 8 - k by omega]
    exact c1
theorem box_col {N m n lot s c : Nat} {K36 : Int32 → Mem → Option Mem} {K43 : Int32 → Int32 → Mem → Option Mem} {μ : Mem} (hl : lot < 4) (hs : s < 2) (hc : c < 4) :
    M_Mo_setLimits_83 N K36 K43 (m + 1) (nI lot) (nI s) (nI (16 + 2 * lot + s)) (nI c) μ = M_Mo_setLimits_83 N K36 K43 m (nI lot) (nI s) (nI (16 + 2 * lot + s)) (nI (c + 1)) (upI μ.1 38 (5 * (16 + 2 * lot + s) + c) (LV μ n (16 + 2 * lot + s) c), μ.2) := by
  have n4 : ¬ (4 : Int32) ≤ nI c := nI_ge (a := c) (b := 4) hc (by omega)
  have e1 : (16 + 2 * lot + s - 16) / 2 = lot := by omega
  have e2 : (16 + 2 * lot + s) % 2 = s := by omega
  rw [M_Mo_setLimits_83, if_neg n4, five_nI]
  unfold M_Mo_setLimits_114
  by_cases h : c = lot
  · subst h
    rw [if_pos rfl, stI_n (by decide) (by decide) (by show 5 * (16 + 2 * c + s) + c < 120; omega) (by decide), bs, nI_1]
    unfold LV
    rw [if_neg (by omega), if_pos hc, e1, e2, if_pos rfl]
  · rw [if_neg (fun q => h ((nI_eq (by omega) (by omega)).1 q)), stI_n (by decide) (by decide) (by show 5 * (16 + 2 * lot + s) + c < 120; omega) (by decide), bs, nI_1]
    unfold LV
    rw [if_neg (by omega), if_pos hc, e1, if_neg h]
theorem box_row {N n lot s : Nat} {K36 : Int32 → Mem → Option Mem} {K43 : Int32 → Int32 → Mem → Option Mem} {μ : Mem} (hN : 5 ≤ N) (hl : lot < 4) (hs : s < 2) (hn : n ≤ 4) (h7 : μ.1 7 0 = nI n) :
    M_Mo_setLimits_83 N K36 K43 N (nI lot) (nI s) (nI (16 + 2 * lot + s)) 0 μ = K43 (nI lot) (nI (s + 1)) (rowI μ.1 (16 + 2 * lot + s) (LV μ n (16 + 2 * lot + s)) 5, μ.2) := by
  have e1 : (16 + 2 * lot + s - 16) / 2 = lot := by omega
  have e2 : (16 + 2 * lot + s) % 2 = s := by omega
  have eLV : ∀ c, c < 4 → ∀ f : Nat → Nat → Int32, LV (f, μ.2) n (16 + 2 * lot + s) c = LV μ n (16 + 2 * lot + s) c := fun c hc f => by
    have k16 : ¬ 16 + 2 * lot + s < 16 := by omega
    unfold LV
    rw [if_neg k16, if_neg k16, if_pos hc, if_pos hc]
  have st : ∀ c, c ≤ 4 → ∀ m, M_Mo_setLimits_83 N K36 K43 (m + c) (nI lot) (nI s) (nI (16 + 2 * lot + s)) (nI 0) μ = M_Mo_setLimits_83 N K36 K43 m (nI lot) (nI s) (nI (16 + 2 * lot + s)) (nI c) (rowI μ.1 (16 + 2 * lot + s) (LV μ n (16 + 2 * lot + s)) c, μ.2) := by
    intro c
    induction c with
    | zero => intro _ m; rw [rowI_0]; rfl
    | succ c ih =>
      intro hc m
      rw [show m + (c + 1) = m + 1 + c by omega, ih (by omega) (m + 1), box_col (n := n) hl hs (by omega)]
      dsimp only
      rw [eLV c (by omega), rowI_S]
  obtain ⟨m, rfl⟩ : ∃ m, N = m + 1 + 4 := ⟨N - 5, by omega⟩
  have e0 : (0 : Int32) = nI 0 := rfl
  rw [e0, st 4 (by omega) (m + 1), M_Mo_setLimits_83, if_pos (by decide)]
  have f4 : (5 : Int32) * nI (16 + 2 * lot + s) + 4 = nI (5 * (16 + 2 * lot + s) + 4) := five_nI _ 4
  have r7 : rowI μ.1 (16 + 2 * lot + s) (LV μ n (16 + 2 * lot + s)) 4 7 0 = nI n := by rw [rowI_ne (by omega)]; exact h7
  rw [f4]
  unfold M_Mo_setLimits_142 M_Mo_setLimits_153
  have fin : ∀ v : Int32, v = LV μ n (16 + 2 * lot + s) 4 → ((stI (rowI μ.1 (16 + 2 * lot + s) (LV μ n (16 + 2 * lot + s)) 4, μ.2) 38 (nI (5 * (16 + 2 * lot + s) + 4)) v).bind fun μ153 => K43 (nI lot) (nI s + 1) μ153) = K43 (nI lot) (nI (s + 1)) (rowI μ.1 (16 + 2 * lot + s) (LV μ n (16 + 2 * lot + s)) 5, μ.2) := by
    intro v hv
    rw [stI_n (by decide) (by decide) (by show 5 * (16 + 2 * lot + s) + 4 < 120; omega) (by decide), bs, nI_1, hv]
    dsimp only
    rw [rowI_S]
  by_cases h0 : s = 0
  · subst h0
    rw [if_pos (show nI 0 = 0 from rfl)]
    exact fin _ (by unfold LV; rw [if_neg (by omega), if_neg (by decide), if_neg (by omega)])
  · rw [if_neg (nI_ne0 (by omega) (by omega))]
    by_cases hln : lot < n
    · rw [if_pos (show nI lot < (rowI μ.1 (16 + 2 * lot + s) (LV μ n (16 + 2 * lot + s)) 4) 7 0 by rw [r7]; exact nI_lt hln (by omega)), ldI_n (by decide) (by decide) (by show lot < 4; omega) (by decide), bs]
      dsimp only
      rw [rowI_ne (by omega)]
      exact fin _ (by unfold LV; rw [if_neg (by omega), if_neg (by decide), if_pos (by omega), e1])
    · rw [if_neg (show ¬ nI lot < (rowI μ.1 (16 + 2 * lot + s) (LV μ n (16 + 2 * lot + s)) 4) 7 0 by rw [r7]; exact nI_nlt (by omega) (by omega))]
      exact fin _ (by unfold LV; rw [if_neg (by omega), if_neg (by decide), if_neg (by omega)])
theorem box_one {N m n lot s : Nat} {K36 : Int32 → Mem → Option Mem} {μ μ' : Mem} (hN : 5 ≤ N) (hl : lot < 4) (hs : s < 2) (hn : n ≤ 4) (h7 : μ.1 7 0 = nI n) (h : LimK μ μ' n (16 + 2 * lot + s)) :
    ∃ μ2, M_Mo_setLimits_43 N K36 (m + 1) (nI lot) (nI s) μ' = M_Mo_setLimits_43 N K36 m (nI lot) (nI (s + 1)) μ2 ∧ LimK μ μ2 n (16 + 2 * lot + s + 1) := by
  refine ⟨_, ?_, h.add⟩
  have q1 : ∀ a b, a ≠ 15 → a ≠ 38 → μ'.1 a b = μ.1 a b := fun a b h1 h2 => h.1.1 a b (fun q => by rcases q with q | q <;> omega)
  have e1 : (16 + 2 * lot + s - 16) / 2 = lot := by omega
  have e2 : (16 + 2 * lot + s) % 2 = s := by omega
  have n2 : ¬ (2 : Int32) ≤ nI s := nI_ge (a := s) (b := 2) hs (by omega)
  have t2 : (16 : Int32) + (2 : Int32) * nI lot + nI s = nI (16 + 2 * lot + s) := by
    have : (2 : Int32) * nI lot = nI (2 * lot) := (Int32.ofNat_mul 2 _).symm
    rw [this, show (16 : Int32) = nI 16 from rfl, nI_add, nI_add]
  have eLB : ∀ v : Int32, v = LB μ n (16 + 2 * lot + s) → M_Mo_setLimits_79 N K36 (M_Mo_setLimits_43 N K36 m) (nI lot) (nI s) (nI (16 + 2 * lot + s)) (nI (16 + 2 * lot + s)) v μ' = M_Mo_setLimits_43 N K36 m (nI lot) (nI (s + 1)) (rowI (upI μ'.1 15 (16 + 2 * lot + s) (LB μ n (16 + 2 * lot + s))) (16 + 2 * lot + s) (LV μ n (16 + 2 * lot + s)) 5, μ'.2) := by
    intro v hv
    have v01 : v = 0 ∨ v = 1 := by
      rw [hv]
      unfold LB
      rw [if_neg (by omega)]
      by_cases q : (16 + 2 * lot + s - 16) / 2 < n ∨ (16 + 2 * lot + s) % 2 = 0
      · rw [if_pos q]; exact Or.inr rfl
      · rw [if_neg q]; exact Or.inl rfl
    unfold M_Mo_setLimits_79
    rw [stZ_n (by decide) (by decide) v01 (by show 16 + 2 * lot + s < 24; omega) (by decide), bs, box_row hN hl hs hn (by dsimp only; rw [upI_ne (by omega), q1 _ _ (by omega) (by omega)]; exact h7)]
    dsimp only
    rw [hv]
    have : LV (upI μ'.1 15 (16 + 2 * lot + s) (LB μ n (16 + 2 * lot + s)), μ'.2) n (16 + 2 * lot + s) = LV μ n (16 + 2 * lot + s) := by
      have k16 : ¬ 16 + 2 * lot + s < 16 := by omega
      funext c
      unfold LV
      rw [if_neg k16, if_neg k16]
      dsimp only
      rw [upI_ne (by omega), q1 _ _ (by omega) (by omega)]
    rw [this]
  rw [M_Mo_setLimits_43, if_neg n2, t2, nm_eq, q1 _ _ (by omega) (by omega), h7]
  unfold M_Mo_setLimits_74
  by_cases hln : lot < n
  · rw [if_pos (nI_lt hln (by omega))]
    exact eLB _ (by unfold LB; rw [if_neg (by omega), if_pos (by omega)])
  · rw [if_neg (nI_nlt (by omega) (by omega))]
    by_cases h0 : s = 0
    · subst h0
      rw [if_pos (show nI 0 = 0 from rfl)]
      exact eLB _ (by unfold LB; rw [if_neg (by omega), if_pos (by omega)])
    · rw [if_neg (nI_ne0 (by omega) (by omega))]
      exact eLB _ (by unfold LB; rw [if_neg (by omega), if_neg (by omega)])
theorem lim_box {N n : Nat} {μ : Mem} (hN : 9 ≤ N) (hn : n ≤ 4) (h7 : μ.1 7 0 = nI n) : ∀ (k m : Nat) (μ' : Mem), k ≤ 4 → LimK μ μ' n (16 + 2 * (4 - k)) →
    ∃ μ2, M_Mo_setLimits_36 N (m + k + 1) (nI (4 - k)) μ' = some μ2 ∧ LimK μ μ2 n 24 := by
  intro k
  induction k with
  | zero =>
    intro m μ' _ h
    refine ⟨μ', ?_, h⟩
    rw [M_Mo_setLimits_36, if_pos (by decide)]
  | succ k ih =>
    intro m μ' hk h
    have n4 : ¬ (4 : Int32) ≤ nI (4 - (k + 1)) := nI_ge (a := 4 - (k + 1)) (b := 4) (by omega) (by omega)
    obtain ⟨M, rfl⟩ : ∃ M, N = M + 1 + 1 + 1 := ⟨N - 3, by omega⟩
    obtain ⟨μ1, a1, a2⟩ := box_one (N := M + 1 + 1 + 1) (m := M + 1 + 1) (s := 0) (lot := 4 - (k + 1)) (K36 := M_Mo_setLimits_36 (M + 1 + 1 + 1) (m + k + 1)) (by omega) (by omega) (by omega) hn h7 h
    obtain ⟨μ2, b1, b2⟩ := box_one (N := M + 1 + 1 + 1) (m := M + 1) (s := 1) (lot := 4 - (k + 1)) (K36 := M_Mo_setLimits_36 (M + 1 + 1 + 1) (m + k + 1)) (by omega) (by omega) (by omega) hn h7 a2
    have e : 16 + 2 * (4 - (k + 1)) + 1 + 1 = 16 + 2 * (4 - k) := by omega
    rw [e] at b2
    obtain ⟨μ3, c1, c2⟩ := ih m μ2 (by omega) b2
    refine ⟨μ3, ?_, c2⟩
    rw [show m + (k + 1) + 1 = (m + k + 1) + 1 by omega, M_Mo_setLimits_36, if_neg n4]
    have a1' : M_Mo_setLimits_43 (M + 1 + 1 + 1) (M_Mo_setLimits_36 (M + 1 + 1 + 1) (m + k + 1)) (M + 1 + 1 + 1) (nI (4 - (k + 1))) 0 μ' = _ := a1
    rw [a1', b1, M_Mo_setLimits_43, if_pos (by decide), nI_1, show 4 - (k + 1) + 1 = 4 - k by omega]
    exact c1
theorem s_setLimits {N n : Nat} {μ : Mem} (hN : 9 ≤ N) (hX : InvX μ) (hR : InvR μ) (hn : n ≤ 4) (h7 : μ.1 7 0 = nI n) : ∃ μ', M_Mo_setLimits N μ = some μ' ∧ LimK μ μ' n 24 := by
  obtain ⟨m, rfl⟩ : ∃ m, N = m + 9 := ⟨N - 9, by omega⟩
  obtain ⟨μ1, a1, a2⟩ := lim_rules (N := m + 9) (by omega) hX hR hn h7 8 m μ (by omega) ⟨eqO.refl .., fun k hk => absurd hk (by omega)⟩
  obtain ⟨μ2, b1, b2⟩ := lim_box (N := m + 9) (by omega) hn h7 4 (m + 4) μ1 (by omega) a2
  refine ⟨μ2, ?_, b2⟩
  unfold M_Mo_setLimits
  exact a1.trans b1
