/-! THE CONSTRUCTORS. The cells come one behind another: the i-th one that is made is cell al i, at the address base + i. A reference field shows null until it is written (the place 100 + j of its object's ints is then 1). -/
def alL : List Nat := [0, 1, 17, 42, 8, 47, 48, 49, 50, 51, 52, 53, 2, 18, 19, 20, 21, 22, 3, 23, 9, 54, 55, 56, 57, 58, 59, 60, 61, 62, 63, 64, 65, 66, 67, 68, 69, 4, 10, 70, 71, 72, 73, 74, 43, 44, 13, 24, 5, 11, 75, 76, 77, 78, 79, 12, 80, 81, 82, 83, 84, 45, 25, 26, 6, 27, 40, 41, 7, 28, 29, 30, 14, 31, 32, 33, 34, 35, 36, 37, 38, 15, 39, 46, 16]
def al (i : Nat) : Nat := alL.getD i 0
theorem al_inj : ∀ i, i < 85 → ∀ j, j < 85 → al i = al j → i = j := by decide +kernel
def rfc (G : Gw) (μ : Mem) (k j a : Nat) : Value := if μ.1 k (100 + j) = 0 then .null else .ref (G.2.1 0 + a)
def obK (G : Gw) (μ : Mem) : Nat → List Value
  | 0 => [rfc G μ 0 0 1, rfc G μ 0 1 12, rfc G μ 0 2 18, rfc G μ 0 3 37, rfc G μ 0 4 48, rfc G μ 0 5 64, rfc G μ 0 6 66, rfc G μ 0 7 67]
  | 1 => [.int (μ.1 1 0), rfc G μ 1 1 2, rfc G μ 1 2 3, rfc G μ 1 3 4]
  | 2 => [.int (μ.1 2 0), rfc G μ 2 1 13, rfc G μ 2 2 14, rfc G μ 2 3 15, rfc G μ 2 4 16, rfc G μ 2 5 17]
  | 3 => [.int (μ.1 3 0), rfc G μ 3 1 19, rfc G μ 3 2 20]
  | 4 => [rfc G μ 4 0 1, rfc G μ 4 1 12, rfc G μ 4 2 18, rfc G μ 4 3 38, rfc G μ 4 4 44, rfc G μ 4 5 45, rfc G μ 4 6 46, rfc G μ 4 7 47, .int (μ.1 4 8), .int (μ.1 4 9), .int (μ.1 4 10), .long (μ.2 4 11), .long (μ.2 4 12)]
  | 5 => [rfc G μ 5 0 1, rfc G μ 5 1 18, rfc G μ 5 2 49, rfc G μ 5 3 55, rfc G μ 5 4 61, rfc G μ 5 5 62, .int (μ.1 5 6), .long (μ.2 5 7), rfc G μ 5 8 63]
  | 6 => [.int (μ.1 6 0), .int (μ.1 6 1), rfc G μ 6 2 65, .long (μ.2 6 3), .int (μ.1 6 4), .long (μ.2 6 5), .long (μ.2 6 6), .int (μ.1 6 7)]
  | _ => [.int (μ.1 7 0), rfc G μ 7 1 69, rfc G μ 7 2 70, rfc G μ 7 3 71, rfc G μ 7 4 72, rfc G μ 7 5 73, rfc G μ 7 6 74, rfc G μ 7 7 75, rfc G μ 7 8 76, rfc G μ 7 9 77, .int (μ.1 7 10), .int (μ.1 7 11), rfc G μ 7 12 78, .long (μ.2 7 13), .long (μ.2 7 14), .long (μ.2 7 15), .int (μ.1 7 16), rfc G μ 7 17 79, rfc G μ 7 18 80, rfc G μ 7 19 81, rfc G μ 7 20 82, rfc G μ 7 21 83, .long (μ.2 7 22), rfc G μ 7 23 84]
def outA (k : Nat) : Nat := if k < 9 then 5 else if k < 10 then 21 else if k < 11 then 39 else if k < 12 then 50 else 56
def entC (G : Gw) (μ : Mem) (k : Nat) : va_E :=
  if k < 8 then .inr (obC k, obK G μ k)
  else if k < 13 then .inl (G.2.2.1.2.2.2, outN k, .inr (.inr (.inr (.inr (fun i => some (G.2.1 0 + (outA k + i)))))))
  else ent G μ k
def WG (G : Gw) (μ : Mem) (n : Nat) : va_W := (List.range n).map fun i => (G.2.1 0 + i, entC G μ (al i))
theorem WG_get {G : Gw} {μ : Mem} {n i : Nat} (h : i < n) : (WG G μ n)[i]? = some (G.2.1 0 + i, entC G μ (al i)) := by simp [WG, h]
theorem WG_len {G : Gw} {μ : Mem} {n : Nat} : (WG G μ n).length = n := by simp [WG]
theorem WG_D {G : Gw} {μ : Mem} {n : Nat} : va_D (fun q => G.2.1 0 ≤ q) (WG G μ n) := by
  refine ⟨fun i j p q hi hj e => ?_, fun k q hk => ?_⟩
  · have h1 : i < n := by rw [← WG_len (G := G) (μ := μ) (n := n)]; exact (List.getElem?_eq_some_iff.mp hi).1
    have h2 : j < n := by rw [← WG_len (G := G) (μ := μ) (n := n)]; exact (List.getElem?_eq_some_iff.mp hj).1
    rw [WG_get h1] at hi
    rw [WG_get h2] at hj
    cases hi
    cases hj
    have e' : G.2.1 0 + i = G.2.1 0 + j := e
    omega
  · have h1 : k < n := by rw [← WG_len (G := G) (μ := μ) (n := n)]; exact (List.getElem?_eq_some_iff.mp hk).1
    rw [WG_get h1] at hk
    cases hk
    exact Nat.le_add_right _ _
theorem obK_congr {G : Gw} {μ μ' : Mem} {k : Nat} (h8 : k < 8) (h1 : ∀ b, μ'.1 k b = μ.1 k b) (h2 : ∀ b, μ'.2 k b = μ.2 k b) : obK G μ' k = obK G μ k := by
  match k, h8 with
  | 0, _ => simp [obK, rfc, h1, h2]
  | 1, _ => simp [obK, rfc, h1, h2]
  | 2, _ => simp [obK, rfc, h1, h2]
  | 3, _ => simp [obK, rfc, h1, h2]
  | 4, _ => simp [obK, rfc, h1, h2]
  | 5, _ => simp [obK, rfc, h1, h2]
  | 6, _ => simp [obK, rfc, h1, h2]
  | 7, _ => simp [obK, rfc, h1, h2]
theorem entC_congr {G : Gw} {μ μ' : Mem} {k : Nat} (h1 : ∀ b, μ'.1 k b = μ.1 k b) (h2 : ∀ b, μ'.2 k b = μ.2 k b) : entC G μ' k = entC G μ k := by
  unfold entC
  by_cases h8 : k < 8
  · rw [if_pos h8, if_pos h8, obK_congr h8 h1 h2]
  · rw [if_neg h8, if_neg h8, ent_congr h1 h2]
theorem WG_set {G : Gw} {μ μ' : Mem} {n i : Nat} {e : va_E} (hn : n ≤ 85) (hi : i < n) (he : e = entC G μ' (al i)) (ho : ∀ a, a ≠ al i → (∀ b, μ'.1 a b = μ.1 a b) ∧ ∀ b, μ'.2 a b = μ.2 a b) : (WG G μ n).set i (G.2.1 0 + i, e) = WG G μ' n := by
  apply List.ext_getElem?
  intro j
  rw [List.getElem?_set]
  by_cases hij : i = j
  · subst hij
    rw [if_pos rfl, if_pos (by rw [WG_len]; exact hi), WG_get hi, he]
  · rw [if_neg hij]
    by_cases hj : j < n
    · have hne : al j ≠ al i := fun q => hij (al_inj i (by omega) j (by omega) q.symm)
      rw [WG_get hj, WG_get hj, entC_congr (ho _ hne).1 (ho _ hne).2]
    · rw [List.getElem?_eq_none (by rw [WG_len]; omega), List.getElem?_eq_none (by rw [WG_len]; omega)]
theorem WG_succ {G : Gw} {μ : Mem} {n : Nat} : WG G μ (n + 1) = WG G μ n ++ [(G.2.1 0 + n, entC G μ (al n))] := by simp [WG, List.range_succ]
abbrev AWc (G : Gw) : Nat → Prop := fun q => G.2.1 0 ≤ q
def Zr (μ : Mem) (n : Nat) : Prop := ∀ i, n ≤ i → i < 85 → ∀ b, μ.1 (al i) b = 0 ∧ μ.2 (al i) b = 0
def WdC (G : Gw) (n : Nat) (μ : Mem) (U : State) : Prop := U.heap.size = G.2.1 0 + n ∧ va_P G.1 vwCl (WG G μ n) U.heap ∧ va_K G.1 vwCl (tyG G) U ∧ Zr μ n ∧ (Cond.arrayOver (.array .long)).before #[] U = true
def Wc (G : Gw) (s : State) (n : Nat) (μ : Mem) (H : Heap) (locs : List Loc) : Prop := H.size = G.2.1 0 + n ∧ va_P G.1 vwCl (WG G μ n) H ∧ va_S (AWc G) s.heap H locs ∧ Zr μ n
def QCc (G : Gw) (n : Nat) (μ' : Mem) : Array Value → State → Outcome → State → Prop := fun _ st oc t => (oc = .returned none ∧ t.heap.size = G.2.1 0 + n ∧ va_P G.1 vwCl (WG G μ' n) t.heap ∧ Zr μ' n) ∧ va_F (AWc G) st t
abbrev CTc (l : Launch) (y : MethodName) (ws : List Cond) (rm : Room) (av : List Value) (G : Gw) (n : Nat) (μ : Mem) (n' : Nat) (μ' : Mem) (mc ms : Nat) : Prop := Met l y ws rm (va_Pc av (WdC G n μ)) (QCc G n' μ') mc ms (AWc G)
def CxC (G : Gw) (p : Program) (s : State) (m : MethodId) (args : Array Value) (meth : Method) (c : Code) (cc : ByteArray) (maxL : Nat) (ret : Option FieldType) (own : String) (ws : List Cond) (n0 : Nat) : Prop :=
  p.tables.exec = Jvm.exec ∧ c.code = cc ∧ meth.sig.returnType = ret ∧ c.maxLocals = maxL ∧ s.vm.findClass own = some m.cls ∧ (∀ w ∈ ws, w.before args s = true) ∧ meth.locks = false ∧ va_K G.1 vwCl (tyG G) s ∧ s.heap.size = G.2.1 0 + n0 ∧ (Cond.arrayOver (.array .long)).before #[] s = true ∧ meth.name = "<init>"
section CW
variable {p : Program} {l : Launch} {e : Env} {R : Room} {s : State} {m : MethodId} {args : Array Value} {below : List Frame} {meth : Method} {c : Code} {H : Heap} {locs : List Loc} {cells slots : Nat} {Q : State → Prop}
variable {cc : ByteArray} {pc n : Nat} {ls : Array Slot} {rest : List Value} {G : Gw} {μ μ1 μ' : Mem}
theorem Zr.mono {n n' : Nat} (h : Zr μ n) (hn : n ≤ n') : Zr μ n' := fun i h1 h2 => h i (by omega) h2
theorem Zr.put {n i : Nat} (hn : n ≤ 85) (hi : i < n) (h : Zr μ n) (ho : ∀ a, a ≠ al i → (∀ b, μ1.1 a b = μ.1 a b) ∧ ∀ b, μ1.2 a b = μ.2 a b) : Zr μ1 n := fun j h1 h2 b => by
  have hne : al j ≠ al i := fun q => by have := al_inj j h2 i (by omega) q; omega
  rw [(ho _ hne).1 b, (ho _ hne).2 b]
  exact h j h1 h2 b
/-- a cell is made: the world with it -/
theorem wc_push {H1 : Heap} (hw : Wc G s n μ H locs) (hs : s.heap.size = G.2.1 0 + n ∨ G.2.1 0 ≤ s.heap.size) (e1 : va_at G.1 vwCl (G.2.1 0 + n, entC G μ (al n)) H1) (z1 : H1.size = H.size + 1) (o1 : ∀ q, q < H.size → H1[q]? = H[q]?) : Wc G s (n + 1) μ H1 locs := by
  obtain ⟨h1, h2, h3, h4⟩ := hw
  refine ⟨by omega, ?_, ⟨Nat.le_trans h3.1 (by omega), fun q q1 q2 => (o1 q (Nat.lt_of_lt_of_le q1 h3.1)).trans (h3.2.1 q q1 q2), h3.2.2⟩, h4.mono (Nat.le_succ n)⟩
  rw [WG_succ]
  refine (h2.kept (fun k q hq => o1 q.1 ((h2 k q hq).lt))).app (fun k q hk => ?_)
  have hz : k < 1 := (List.getElem?_eq_some_iff.mp hk).1
  rw [show k = 0 by omega] at hk
  cases hk
  exact e1
theorem m_cnew {own C : String} {T : u_T} {N ci index : Nat} {Ts : List Cond} (hx : p.tables.exec = Jvm.exec) (hb : c.code = cc) (hts : ∀ w ∈ Ts, w.before args s = true) (hin : ∀ w ∈ u_ws C T N, w ∈ Ts) (ty : Nat → FieldType) (hty : ∀ k, k < N → parseFieldDescriptor (T k).2.2.1 = some (ty k)) (hown : s.vm.findClass own = some m.cls) (hcl : (Cond.classLink own index C).before args s = true) (hinst : (Cond.instantiable C N).before args s = true) (hini : (Cond.initialized C).before args s = true)
    (hK : va_K G.1 vwCl (tyG G) s) (hw : Wc G s n μ H locs) (hs : G.2.1 0 ≤ s.heap.size) (hn : n < 85) (hk : al n = ci) (h8 : ci < 8) (hc : vwCl[ci]? = some (C, T, N)) (hfs : (∀ b, μ.1 ci b = 0 ∧ μ.2 ci b = 0) → ∀ j, j < N → defaultValue (ty j) = vp_V (obK G μ ci) j) (hcells : cells + 1 ≤ R.cells) (hslots : slots + N ≤ R.slots) (hdg : decode cc pc = .ok (.new index, 3))
    (kk : ∀ (H1 : Heap), Wc G s (n + 1) μ H1 locs → W p l e R s m args below meth c H1 locs (cells + 1) (slots + N) Q (F0 m (pc + 3) ls (.ref (G.2.1 0 + n) :: rest))) : W p l e R s m args below meth c H locs cells slots Q (F0 m pc ls rest) := by
  have hKn := hK.1 ci _ hc
  refine W.newcK hx hb hown hcl hinst hini rfl hdg hcells hslots hKn.2.1 hw.1 fun H1 kC hkC e1 z1 o1 => ?_
  refine kk H1 (wc_push hw (Or.inr hs) ?_ (by rw [hw.1]; exact z1) (fun q hq => o1 q (by rw [← hw.1]; exact hq)))
  have hz := hw.2.2.2 n (Nat.le_refl n) hn
  rw [hk] at hz ⊢
  unfold entC
  rw [if_pos h8]
  exact ⟨_, hc, (u_born ty hts hin hKn hkC e1 hty).to (hfs hz)⟩
theorem m_cnewi (hx : p.tables.exec = Jvm.exec) (hb : c.code = cc) (harr : (Cond.arrayClass .int).before args s = true) (hK : va_K G.1 vwCl (tyG G) s) (hw : Wc G s n μ H locs) (hs : G.2.1 0 ≤ s.heap.size) (hn : n < 85) {k N : Nat} {i : Int32} (hk : al n = k) (h1 : 17 ≤ k) (h2 : k < 40) (hN : lnI k = N) (hi : ¬ i < 0) (hiN : i.toNatClampNeg = N) (hbytes : N * componentBytes .int ≤ 536870912) (hcells : cells + 1 ≤ R.cells) (hslots : slots + N ≤ R.slots) (hdg : decode cc pc = .ok (.newarray .int, 2))
    (kk : ∀ (H1 : Heap), Wc G s (n + 1) μ H1 locs → W p l e R s m args below meth c H1 locs (cells + 1) (slots + N) Q (F0 m (pc + 2) ls (.ref (G.2.1 0 + n) :: rest))) : W p l e R s m args below meth c H locs cells slots Q (F0 m pc ls (.int i :: rest)) := by
  refine va_newaK (atype := .int) hx hb harr rfl hdg rfl hi hiN hbytes hcells hslots hw.1 fun H1 cA e1 z1 o1 hAr hNm => ?_
  refine kk H1 (wc_push hw (Or.inr hs) ?_ (by rw [hw.1]; exact z1) (fun q hq => o1 q (by rw [← hw.1]; exact hq)))
  have hz := hw.2.2.2 n (Nat.le_refl n) hn
  rw [hk] at hz ⊢
  have hc : cA = G.2.2.1.1 := Option.some.inj (hNm.symm.trans (hK.2 0 _ rfl).2)
  unfold entC
  rw [if_neg (by omega), if_neg (by omega), ent_I h1 h2, ← hc, hN, show μ.1 k = fun _ => 0 from funext fun b => (hz b).1]
  exact e1
theorem m_cnewz (hx : p.tables.exec = Jvm.exec) (hb : c.code = cc) (harr : (Cond.arrayClass .boolean).before args s = true) (hK : va_K G.1 vwCl (tyG G) s) (hw : Wc G s n μ H locs) (hs : G.2.1 0 ≤ s.heap.size) (hn : n < 85) {k N : Nat} {i : Int32} (hk : al n = k) (h1 : 13 ≤ k) (h2 : k < 17) (hN : lnI k = N) (hi : ¬ i < 0) (hiN : i.toNatClampNeg = N) (hbytes : N * componentBytes .boolean ≤ 536870912) (hcells : cells + 1 ≤ R.cells) (hslots : slots + N ≤ R.slots) (hdg : decode cc pc = .ok (.newarray .boolean, 2))
    (kk : ∀ (H1 : Heap), Wc G s (n + 1) μ H1 locs → W p l e R s m args below meth c H1 locs (cells + 1) (slots + N) Q (F0 m (pc + 2) ls (.ref (G.2.1 0 + n) :: rest))) : W p l e R s m args below meth c H locs cells slots Q (F0 m pc ls (.int i :: rest)) := by
  refine va_newaK (atype := .boolean) hx hb harr rfl hdg rfl hi hiN hbytes hcells hslots hw.1 fun H1 cA e1 z1 o1 hAr hNm => ?_
  refine kk H1 (wc_push hw (Or.inr hs) ?_ (by rw [hw.1]; exact z1) (fun q hq => o1 q (by rw [← hw.1]; exact hq)))
  have hz := hw.2.2.2 n (Nat.le_refl n) hn
  rw [hk] at hz ⊢
  have hc : cA = G.2.2.1.2.2.1 := Option.some.inj (hNm.symm.trans (hK.2 2 _ rfl).2)
  unfold entC
  rw [if_neg (by omega), if_neg (by omega), ent_Z h1 h2, ← hc, hN, show μ.1 k = fun _ => 0 from funext fun b => (hz b).1]
  exact e1
theorem m_cnewj (hx : p.tables.exec = Jvm.exec) (hb : c.code = cc) (harr : (Cond.arrayClass .long).before args s = true) (hK : va_K G.1 vwCl (tyG G) s) (hw : Wc G s n μ H locs) (hs : G.2.1 0 ≤ s.heap.size) (hn : n < 85) {k N : Nat} {i : Int32} (hk : al n = k) (h1 : 40 ≤ k) (hN : lnJ k = N) (hi : ¬ i < 0) (hiN : i.toNatClampNeg = N) (hbytes : N * componentBytes .long ≤ 536870912) (hcells : cells + 1 ≤ R.cells) (hslots : slots + N ≤ R.slots) (hdg : decode cc pc = .ok (.newarray .long, 2))
    (kk : ∀ (H1 : Heap), Wc G s (n + 1) μ H1 locs → W p l e R s m args below meth c H1 locs (cells + 1) (slots + N) Q (F0 m (pc + 2) ls (.ref (G.2.1 0 + n) :: rest))) : W p l e R s m args below meth c H locs cells slots Q (F0 m pc ls (.int i :: rest)) := by
  refine va_newaK (atype := .long) hx hb harr rfl hdg rfl hi hiN hbytes hcells hslots hw.1 fun H1 cA e1 z1 o1 hAr hNm => ?_
  refine kk H1 (wc_push hw (Or.inr hs) ?_ (by rw [hw.1]; exact z1) (fun q hq => o1 q (by rw [← hw.1]; exact hq)))
  have hz := hw.2.2.2 n (Nat.le_refl n) hn
  rw [hk] at hz ⊢
  have hc : cA = G.2.2.1.2.1 := Option.some.inj (hNm.symm.trans (hK.2 1 _ rfl).2)
  unfold entC
  rw [if_neg (by omega), if_neg (by omega), ent_J h1, ← hc, hN, show μ.2 k = fun _ => 0 from funext fun b => (hz b).2]
  exact e1
theorem arrV_ext {c : ClassId} {N : Nat} {f g : Nat → Value} (h : ∀ j, j < N → f j = g j) : arrV c N f = arrV c N g := by
  unfold arrV
  congr 1
  exact congrArg Array.ofFn (funext fun j => h j.1 j.2)
theorem outer_arr (c : ClassId) (N h0 : Nat) : ∀ i : Nat, Jvm.Free.Multi.outerC c N h0 i = arrV c N (fun j => if j < i then .ref (h0 + 1 + j) else .null) := by
  intro i
  induction i with
  | zero =>
    show ({ cls := c, slots := Array.replicate N .null, vm := .none } : Cell) = _
    rw [arrV_new]
    exact arrV_ext (fun j _ => by simp)
  | succ i ih =>
    show (Jvm.Free.Multi.outerC c N h0 i).setSlot i (.ref (h0 + 1 + i)) = _
    rw [ih, arrV_store]
    refine arrV_ext (fun j _ => ?_)
    by_cases e : j = i
    · subst e
      simp [updV]
    · by_cases h : j < i
      · simp [updV, e, h, Nat.lt_succ_of_lt h]
      · simp [updV, e, h, show ¬ j < i + 1 by omega]
theorem m_cmulti (hx : p.tables.exec = Jvm.exec) (hb : c.code = cc) {own : String} {index : Nat} (hown : s.vm.findClass own = some m.cls) (hclink : (Cond.classLink own index "[[J").before args s = true) (hover : (Cond.arrayOver (.array .long)).before #[] s = true) (harr : (Cond.arrayClass .long).before args s = true)
    (hK : va_K G.1 vwCl (tyG G) s) (hw : Wc G s n μ H locs) (hs : G.2.1 0 ≤ s.heap.size) {k N K : Nat} {i j : Int32} (hn : n + 1 + N ≤ 85) (hk : al n = k) (h1 : 8 ≤ k) (h2 : k < 13) (hN : outN k = N) (hA : outA k = n + 1) (hrow : ∀ a, a < N → 40 ≤ al (n + 1 + a) ∧ lnJ (al (n + 1 + a)) = K) (hi : ¬ i < 0) (hj : ¬ j < 0) (hiN : i.toNatClampNeg = N) (hjK : j.toNatClampNeg = K)
    (hb1 : N * 4 ≤ 536870912) (hb2 : K * 8 ≤ 536870912) (hcells : cells + (1 + N) ≤ R.cells) (hslots : slots + (N + N * K) ≤ R.slots) (hdg : decode cc pc = .ok (.multianewarray index 2, 4))
    (kk : ∀ (H1 : Heap), Wc G s (n + 1 + N) μ H1 locs → W p l e R s m args below meth c H1 locs (cells + 1 + N) (slots + N + N * K) Q (F0 m (pc + 4) ls (.ref (G.2.1 0 + n) :: rest))) : W p l e R s m args below meth c H locs cells slots Q (F0 m pc ls (.int j :: .int i :: rest)) := by
  subst hiN
  subst hjK
  intro T hT Xs
  obtain ⟨vm₁, cA, comp, -, fA, fC, hO, -, X', step⟩ := Xs.multianewarray2F hx hown hclink (over_moved (Vm.Alike.refl s.vm) hover) harr (g := F0 m pc ls (.int j :: .int i :: rest)) rfl (by rw [hb]; exact hdg) rfl hi hj hb1 hb2 (by omega) rfl rfl hcells hslots
  generalize hF : Jvm.Free.Multi.fill (T.setVm vm₁) cA comp i.toNatClampNeg j.toNatClampNeg (defaultValue .long) i.toNatClampNeg = F at X' step
  have hTh : (T.setVm vm₁).heap = H := hT
  obtain ⟨f1, f2, -, -⟩ := Jvm.Free.Multi.fill_facts (T.setVm vm₁) cA comp i.toNatClampNeg j.toNatClampNeg (defaultValue .long) i.toNatClampNeg
  rw [hF, hTh] at f1 f2
  have hold : ∀ x : Nat, x < H.size → F.heap[x]? = H[x]? := fun x hx => by
    have := Jvm.Free.Multi.fill_old (T.setVm vm₁) cA comp i.toNatClampNeg j.toNatClampNeg (defaultValue .long) (a := x) (by rw [hTh]; exact hx) i.toNatClampNeg
    rw [hF, hTh] at this
    exact this
  have hin : ∀ a : Nat, a < i.toNatClampNeg → F.heap[H.size + 1 + a]? = some (Jvm.Free.Multi.innerC comp j.toNatClampNeg (defaultValue .long)) := fun a ha => by
    have := Jvm.Free.Multi.fill_inner (T.setVm vm₁) cA comp i.toNatClampNeg j.toNatClampNeg (defaultValue .long) i.toNatClampNeg a ha
    rw [hF, hTh] at this
    exact this
  obtain ⟨w1, w2, w3, w4⟩ := hw
  have hcA : cA = G.2.2.1.2.2.2 := Option.some.inj (fA.symm.trans (hK.2 3 _ rfl).2)
  have hcm : comp = G.2.2.1.2.1 := Option.some.inj (fC.symm.trans (hK.2 1 _ rfl).2)
  have hWc : Wc G s (n + 1 + i.toNatClampNeg) μ F.heap locs := by
    refine ⟨by omega, ?_, ⟨Nat.le_trans w3.1 (by omega), fun q q1 q2 => (hold q (Nat.lt_of_lt_of_le q1 w3.1)).trans (w3.2.1 q q1 q2), w3.2.2⟩, w4.mono (by omega)⟩
    intro b q hq
    have hb' : b < n + 1 + i.toNatClampNeg := by rw [← WG_len (G := G) (μ := μ) (n := n + 1 + i.toNatClampNeg)]; exact (List.getElem?_eq_some_iff.mp hq).1
    rw [WG_get hb'] at hq
    cases hq
    rcases Nat.lt_trichotomy b n with hlt | heq | hgt
    · exact (w2 b _ (WG_get hlt)).kept (hold _ (by show G.2.1 0 + b < _; omega))
    · subst heq
      rw [hk]
      unfold entC
      rw [if_neg (by omega), if_pos h2]
      show F.heap[G.2.1 0 + b]? = some (vp_cell _ _)
      rw [vp_cell_q, ← w1, f2, outer_arr, hcA, hN]
      refine congrArg some (arrV_ext (fun x hx => ?_))
      rw [if_pos hx, hA]
      have e9 : H.size + 1 + x = G.2.1 0 + (b + 1 + x) := by omega
      show Value.ref (H.size + 1 + x) = Value.ref (G.2.1 0 + (b + 1 + x))
      rw [e9]
    · obtain ⟨a, rfl⟩ : ∃ a, b = n + 1 + a := ⟨b - (n + 1), by omega⟩
      have ha : a < i.toNatClampNeg := by omega
      obtain ⟨r1, r2⟩ := hrow a ha
      have hz := w4 (n + 1 + a) (by omega) (by omega)
      unfold entC
      rw [if_neg (by omega), if_neg (by omega), ent_J r1, r2, show μ.2 (al (n + 1 + a)) = fun _ => 0 from funext fun b => (hz b).2]
      show F.heap[G.2.1 0 + (n + 1 + a)]? = some (vp_cell _ _)
      rw [vp_cell_l, show G.2.1 0 + (n + 1 + a) = H.size + 1 + a by omega, hin a ha, ← hcm]
      show some ({ cls := comp, slots := Array.replicate _ _, vm := .none } : Cell) = _
      rw [arrV_new]
      rfl
  obtain ⟨t, a1, b1⟩ := kk F.heap hWc F rfl X'
  refine ⟨t, step t ?_, b1⟩
  have e : T.heap.size = G.2.1 0 + n := by rw [hT]; exact w1
  rw [e]
  exact a1
theorem WG_obj {i ci : Nat} (hi : i < n) (hal : al i = ci) (h8 : ci < 8) : (WG G μ n)[i]? = some (G.2.1 0 + i, .inr (ci, obK G μ ci)) := by
  rw [WG_get hi, hal]
  unfold entC
  rw [if_pos h8]
  rfl
theorem m_cputF {own C ref : String} {T : u_T} {N ci index i : Nat} {Ts : List Cond} (hx : p.tables.exec = Jvm.exec) (hb : c.code = cc) (hts : ∀ w ∈ Ts, w.before args s = true) (hin : ∀ w ∈ u_ws C T N, w ∈ Ts) (ty0 : Nat → FieldType) (hty : ∀ k, k < N → parseFieldDescriptor (T k).2.2.1 = some (ty0 k)) (hnm : ∀ a, a < N → ∀ b, b < N → a ≠ b → (T a).2.1 ≠ (T b).2.1) (hown : s.vm.findClass own = some m.cls) (hK : va_K G.1 vwCl (tyG G) s) (hw : Wc G s n μ H locs)
    (hn : n ≤ 85) (hi : i < n) (hal : al i = ci) (h8 : ci < 8) (hc : vwCl[ci]? = some (C, T, N)) (k : Nat) (hk : k < N) (hlink : (Cond.fieldLink own index ref (T k).2.1 (T k).2.2.1).before args s = true) (hsame : ∀ x, s.fieldFound? (T k).1 (T k).2.1 (T k).2.2.1 = some x → s.fieldFound? ref (T k).2.1 (T k).2.2.1 = some x) (hfin : (T k).2.2.2 = true) (hin2 : meth.name = "<init>") (hdecl : (T k).1 = own) {ty : FieldType} {v : Value} (hd : parseFieldDescriptor (T k).2.2.1 = some ty) (hnv : narrow ty v = v) (hfit : fits ty v = true) (hl : k < (obK G μ ci).length)
    (hset : (obK G μ ci).set k v = obK G μ1 ci) (ho : ∀ a, a ≠ ci → (∀ b, μ1.1 a b = μ.1 a b) ∧ ∀ b, μ1.2 a b = μ.2 a b) (hdg : decode cc pc = .ok (.putfield index, 3))
    (kk : ∀ (H1 : Heap) (locs1 : List Loc), Wc G s n μ1 H1 locs1 → W p l e R s m args below meth c H1 locs1 cells slots Q (F0 m (pc + 3) ls rest)) : W p l e R s m args below meth c H locs cells slots Q (F0 m pc ls (v :: .ref (G.2.1 0 + i) :: rest)) := by
  have hap := va_apart (own := own) hts hin ty0 hty hnm hK hc
  have hP := hw.2.1
  have he : (WG G μ n)[i]? = some (G.2.1 0 + i, .inr (ci, obK G μ ci)) := WG_obj hi hal h8
  obtain ⟨r, h1, cell, q1, q2, q3, q4⟩ := hP i _ he
  have hr : r = (C, T, N) := Option.some.inj (h1.symm.trans hc)
  subst hr
  obtain ⟨hS, hfc, kC, hkC, hkind⟩ := hK.1 ci _ hc
  obtain ⟨cf, kf, fi, f, hf, hsl⟩ := hS k hk
  have hlay := hts _ (hin _ (u_in_lay hk))
  unfold u_lay at hlay
  rw [if_pos hfin] at hlay
  have hst := (u_facts hfc hkC (u_lays hts hin hk) hf).1
  have hcf : m.cls = cf := by
    obtain ⟨_, _, c', _, _, _, -, -, hf', -, -, -, hown2, -⟩ := Cond.laysFinal_spec hlay
    have e1 : c' = cf := by have := hf.symm.trans hf'; simp at this; exact this.1.symm
    rw [hdecl] at hown2
    rw [← e1]; exact Option.some.inj (hown.symm.trans hown2)
  have h6 := u_fits hfc hkC hkind (Or.inr hlay) hf hd hnv hfit
  refine W.putFinK hx hb hown hlink (hsame _ hf) hst hcf hin2 (by rw [q2]; exact h6) q1 q3 (by rw [hsl]; exact k2_hasslot (q4 k hk)) rfl rfl hdg fun H' e1 e2 e3 => ?_
  rw [hsl] at e1 ⊢
  have ho' : ∀ a, a ≠ al i → (∀ b, μ1.1 a b = μ.1 a b) ∧ ∀ b, μ1.2 a b = μ.2 a b := by rw [hal]; exact ho
  have hP' := hP.set WG_D he (e := .inr (ci, (obK G μ ci).set k v)) ⟨_, hc, t_OB.to (V := updV (vp_V (obK G μ ci)) k v) ⟨_, e1, q2, q3, t_set q4 hap hk v⟩ (fun j _ => vp_updV_set hl v j)⟩ e3
  rw [WG_set (μ' := μ1) hn hi (by rw [hal]; unfold entC; rw [if_pos h8, hset]; rfl) ho'] at hP'
  exact kk H' _ ⟨by rw [e2]; exact hw.1, hP', hw.2.2.1.put e2 e3 (Nat.le_add_right _ _), hw.2.2.2.put hn hi ho'⟩
theorem m_cputI {own C ref : String} {T : u_T} {N ci index i : Nat} {Ts : List Cond} (hx : p.tables.exec = Jvm.exec) (hb : c.code = cc) (hts : ∀ w ∈ Ts, w.before args s = true) (hin : ∀ w ∈ u_ws C T N, w ∈ Ts) (ty0 : Nat → FieldType) (hty : ∀ k, k < N → parseFieldDescriptor (T k).2.2.1 = some (ty0 k)) (hnm : ∀ a, a < N → ∀ b, b < N → a ≠ b → (T a).2.1 ≠ (T b).2.1) (hown : s.vm.findClass own = some m.cls) (hK : va_K G.1 vwCl (tyG G) s) (hw : Wc G s n μ H locs)
    (hn : n ≤ 85) (hi : i < n) (hal : al i = ci) (h8 : ci < 8) (hc : vwCl[ci]? = some (C, T, N)) (k : Nat) (hk : k < N) (hlink : (Cond.fieldLink own index ref (T k).2.1 (T k).2.2.1).before args s = true) (hsame : ∀ x, s.fieldFound? (T k).1 (T k).2.1 (T k).2.2.1 = some x → s.fieldFound? ref (T k).2.1 (T k).2.2.1 = some x) (hfin : (T k).2.2.2 = false) {ty : FieldType} {v : Value} (hd : parseFieldDescriptor (T k).2.2.1 = some ty) (hnv : narrow ty v = v) (hfit : fits ty v = true) (hl : k < (obK G μ ci).length)
    (hset : (obK G μ ci).set k v = obK G μ1 ci) (ho : ∀ a, a ≠ ci → (∀ b, μ1.1 a b = μ.1 a b) ∧ ∀ b, μ1.2 a b = μ.2 a b) (hdg : decode cc pc = .ok (.putfield index, 3))
    (kk : ∀ (H1 : Heap) (locs1 : List Loc), Wc G s n μ1 H1 locs1 → W p l e R s m args below meth c H1 locs1 cells slots Q (F0 m (pc + 3) ls rest)) : W p l e R s m args below meth c H locs cells slots Q (F0 m pc ls (v :: .ref (G.2.1 0 + i) :: rest)) := by
  have hap := va_apart (own := own) hts hin ty0 hty hnm hK hc
  have hP := hw.2.1
  have he : (WG G μ n)[i]? = some (G.2.1 0 + i, .inr (ci, obK G μ ci)) := WG_obj hi hal h8
  obtain ⟨r, h1, cell, q1, q2, q3, q4⟩ := hP i _ he
  have hr : r = (C, T, N) := Option.some.inj (h1.symm.trans hc)
  subst hr
  obtain ⟨hS, hfc, kC, hkC, hkind⟩ := hK.1 ci _ hc
  obtain ⟨cf, kf, fi, f, hf, hsl⟩ := hS k hk
  have hlay := hts _ (hin _ (u_in_lay hk))
  unfold u_lay at hlay
  rw [if_neg (by rw [hfin]; decide)] at hlay
  have hst := (u_facts hfc hkC (u_lays hts hin hk) hf).1
  have h6 := u_store hfc hkC hkind hlay hf hd hnv hfit
  refine W.putK hx hb (f := f) ⟨hown, hlink, ⟨_, _, _, hsame _ hf⟩, hst⟩ (by rw [q2]; exact h6) q1 q3 (by rw [hsl]; exact k2_hasslot (q4 k hk)) rfl rfl hdg fun H' e1 e2 e3 => ?_
  rw [hsl] at e1 ⊢
  have ho' : ∀ a, a ≠ al i → (∀ b, μ1.1 a b = μ.1 a b) ∧ ∀ b, μ1.2 a b = μ.2 a b := by rw [hal]; exact ho
  have hP' := hP.set WG_D he (e := .inr (ci, (obK G μ ci).set k v)) ⟨_, hc, t_OB.to (V := updV (vp_V (obK G μ ci)) k v) ⟨_, e1, q2, q3, t_set q4 hap hk v⟩ (fun j _ => vp_updV_set hl v j)⟩ e3
  rw [WG_set (μ' := μ1) hn hi (by rw [hal]; unfold entC; rw [if_pos h8, hset]; rfl) ho'] at hP'
  exact kk H' _ ⟨by rw [e2]; exact hw.1, hP', hw.2.2.1.put e2 e3 (Nat.le_add_right _ _), hw.2.2.2.put hn hi ho'⟩
theorem m_caald (hx : p.tables.exec = Jvm.exec) (hb : c.code = cc) (hK : va_K G.1 vwCl (tyG G) s) (hw : Wc G s n μ H locs) {i k a : Nat} {j : Int32} (hi : i < n) (hal : al i = k) (h1 : 8 ≤ k) (h2 : k < 13) (hj : ¬ (j < 0 ∨ outN k ≤ j.toNatClampNeg)) (ha : outA k + j.toNatClampNeg = a) (hdg : decode cc pc = .ok (.aaload, 1))
    (kk : W p l e R s m args below meth c H locs cells slots Q (F0 m (pc + 1) ls (.ref (G.2.1 0 + a) :: rest))) : W p l e R s m args below meth c H locs cells slots Q (F0 m pc ls (.int j :: .ref (G.2.1 0 + i) :: rest)) := by
  subst ha
  have hlt : j.toNatClampNeg < outN k := Nat.not_le.mp fun q => hj (Or.inr q)
  have hc := hw.2.1 i _ (WG_get (G := G) (μ := μ) hi)
  rw [hal] at hc
  unfold entC at hc
  rw [if_neg (by omega), if_pos h2] at hc
  exact W.aald (v := .ref (G.2.1 0 + (outA k + j.toNatClampNeg))) (ty := .array .long) hx hb hc ((hK.2 3 _ rfl).1 (outN k) (fun j => va_rf (some (G.2.1 0 + (outA k + j))))) rfl (fun q => by cases q) (by show ¬ (j < 0 ∨ (arrV _ _ _).slots.size ≤ _); rw [arrV_size]; exact hj) (by show (arrV _ _ _).slots[_]? = _; rw [arrV_read _ _ hlt]; rfl) rfl rfl hdg kk
theorem m_clast (hx : p.tables.exec = Jvm.exec) (hb : c.code = cc) (hK : va_K G.1 vwCl (tyG G) s) (hw : Wc G s n μ H locs) {i k : Nat} {j : Int32} {v : Int64} (hn : n ≤ 85) (hi : i < n) (hal : al i = k) (h1 : 40 ≤ k) (hj : ¬ (j < 0 ∨ lnJ k ≤ j.toNatClampNeg)) (hdg : decode cc pc = .ok (.lastore, 1))
    (kk : ∀ (H1 : Heap) (locs1 : List Loc), Wc G s n (μ.1, upJ μ.2 k j.toNatClampNeg v) H1 locs1 → W p l e R s m args below meth c H1 locs1 cells slots Q (F0 m (pc + 1) ls rest)) : W p l e R s m args below meth c H locs cells slots Q (F0 m pc ls (.long v :: .int j :: .ref (G.2.1 0 + i) :: rest)) := by
  have he : (WG G μ n)[i]? = some (G.2.1 0 + i, .inl (G.2.2.1.2.1, lnJ k, .inr (.inl (μ.2 k)))) := by
    rw [WG_get hi, hal]
    unfold entC
    rw [if_neg (by omega), if_neg (by omega), ent_J h1]
  refine W.last hx hb (hw.2.1 i _ he) ((hK.2 1 _ rfl).1 (lnJ k) (fun j => .long (μ.2 k j))) (fun q => by cases q) (by show ¬ (j < 0 ∨ (arrV _ _ _).slots.size ≤ _); rw [arrV_size]; exact hj) rfl rfl hdg fun H1 e z oq => ?_
  have ho' : ∀ a, a ≠ al i → (∀ b, (μ.1, upJ μ.2 k j.toNatClampNeg v).1 a b = μ.1 a b) ∧ ∀ b, (μ.1, upJ μ.2 k j.toNatClampNeg v).2 a b = μ.2 a b := by
    rw [hal]
    exact fun a ha => ⟨fun _ => rfl, upJ_ne ha⟩
  have hP' := hw.2.1.set WG_D he (H1 := H1) (e := .inl (G.2.2.1.2.1, lnJ k, .inr (.inl (vp_updL (μ.2 k) j.toNatClampNeg v)))) (by
    show H1[_]? = some (vp_cell _ _)
    rw [e, vp_cell_l, vp_cell_l, arrV_store]
    refine congrArg some (arrV_ext (fun x _ => ?_))
    by_cases hq : x = j.toNatClampNeg
    · subst hq
      simp [updV, vp_updL]
    · simp [updV, vp_updL, hq]) oq
  rw [WG_set (μ' := (μ.1, upJ μ.2 k j.toNatClampNeg v)) hn hi (by rw [hal]; unfold entC; rw [if_neg (by omega), if_neg (by omega), ent_J h1]; dsimp only; rw [upJ_self]) ho'] at hP'
  exact kk H1 _ ⟨by rw [z]; exact hw.1, hP', hw.2.2.1.put z oq (Nat.le_add_right _ _), hw.2.2.2.put hn hi ho'⟩
theorem m_cvret {mc ms : Nat} (hx : p.tables.exec = Jvm.exec) (hb : c.code = cc) (hr : meth.sig.returnType = none) (hlk : meth.locks = false) (hw : Wc G s n μ H locs) (hdg : decode cc pc = .ok (.return_, 1)) : W p l e R s m args below meth c H locs mc ms (MQ below (QCc G n μ) args s mc ms (AWc G)) (F0 m pc ls []) :=
  W.vret hx hb hr (fun t ht hW => ⟨⟨rfl, by rw [ht]; exact hw.1, by rw [ht]; exact hw.2.1, hw.2.2.2⟩, hw.2.2.1.F ht⟩) hw.2.2.1.2.2 hdg hlk
theorem m_cmet {l : Launch} {y : MethodName} {ws ws' : List Cond} {rm : Room} {maxL n' mc ms : Nat} {av : List Value} (hy : plainName y.cls = true) (hname : y.name = "<init>") (hws : ws = Cond.code y cc maxL none :: ws') (hlen : (lg_sl av).length ≤ maxL)
    (body : ∀ (p : Program) (e : Env) (s : State) (m : MethodId) (args : Array Value) (below : List Frame) (meth : Method) (c : Code) (ls : Array Slot), CxC G p s m args meth c cc maxL none y.cls ws n → Wc G s n μ s.heap [] → lv_has ls maxL (lv_args 0 av) → W p l e rm s m args below meth c s.heap [] 0 0 (MQ below (QCc G n' μ') args s mc ms (AWc G)) (F0 m 0 ls [])) : CTc l y ws rm av G n μ n' μ' mc ms := by
  refine Met.ofW (cc := cc) (maxL := maxL) (ret := none) hy hws ?_
  intro p e s m args below meth c s₁ B hml hv
  obtain ⟨rfl, hsz, hP, hK, hZ, hO⟩ := hv
  have hl := lv_entry av (n := maxL) hlen
  rw [lg_entry_eq]
  exact body p e s m _ below meth c _ ⟨B.exec, B.bytes, B.returns, hml, findClass_of_methodNamed B.named, atoms_spec (ws := ws) B.pre, B.notSynchronized, hK, hsz, hO, by rw [(name_of_methodNamed B.named B.method).1, hname]⟩ ⟨hsz, hP, va_S.rf, hZ⟩ hl
theorem m_cpre {As : List Value} (hK : va_K G.1 vwCl (tyG G) s) (hO : (Cond.arrayOver (.array .long)).before #[] s = true) (hw : Wc G s n μ H locs) : PreS s H (va_Pc As (WdC G n μ)) As :=
  ⟨fun a U g mk q => by
    obtain ⟨q0, q1, q2, q3, q4, q5⟩ := q
    exact ⟨q0, q1, q2, va_K.moved (u := U) (U := U.calling g mk a) (Vm.Alike.refl U.vm) q3, q4, over_moved (u := U) (E := U.calling g mk a) (Vm.Alike.refl U.vm) q5⟩,
   fun U hU hW => ⟨rfl, by rw [hU]; exact hw.1, by rw [hU]; exact hw.2.1, va_K.moved hW.alike hK, hw.2.2.2, over_moved hW.alike hO⟩⟩
theorem m_ccall {a : Array Value} {st0 : List Value} {n1 mc ms : Nat} (hr : va_Run p l e R s m args below meth c H locs cells slots mc ms (F0 m pc ls st0) rest (QCc G n1 μ1 a) (AWc G)) (hs : G.2.1 0 ≤ s.heap.size) (hw : Wc G s n μ H locs)
    (kk : ∀ (H1 : Heap) (locs1 : List Loc), Wc G s n1 μ1 H1 locs1 → W p l e R s m args below meth c H1 locs1 (cells + mc) (slots + ms) Q (F0 m (pc + 3) ls rest)) : W p l e R s m args below meth c H locs cells slots Q (F0 m pc ls st0) := by
  intro T hT X
  obtain ⟨v, st₀, t, T', L, h0, X', hL, e1, e2, ⟨⟨hv, hz1, hP1, hZ1⟩, hz, hk⟩, st⟩ := hr T hT X
  cases hv
  rw [h0] at hz hk
  have hS := hw.2.2.1
  obtain ⟨t2, a1, b1⟩ := kk T'.heap (locs ++ L) ⟨by rw [e1]; exact hz1, by rw [e1]; exact hP1, ⟨Nat.le_trans hS.1 (by rw [e1]; exact hz), fun q h1 h2 => by rw [e1, hk q (Nat.lt_of_lt_of_le h1 hS.1) h2]; exact hS.2.1 q h1 h2, fun q hq => by
      rcases List.mem_append.mp hq with h | h
      · exact hS.2.2 q h
      · exact hL q h⟩, hZ1⟩ T' rfl X'
  exact ⟨t2, st t2 a1, b1⟩
end CW
