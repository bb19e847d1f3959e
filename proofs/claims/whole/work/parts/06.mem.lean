/-! THE MEMORY. Every cell of one RecipePlans object has a number and so has every cell of one RecipePlansModel (0 .. 7 the objects, 8 .. 12 arrays of arrays, 13 .. 16 booleans, 17 .. 39 arrays of ints, 40 .. 84 arrays of longs); what it holds are two functions of cell and place. -/
abbrev Mem : Type := (Nat → Nat → Int32) × (Nat → Nat → Int64)
/-- tables, addresses, the array classes (int, long, boolean, long[]), the static arrays SETS and STARTS -/
abbrev Gw : Type := va_G × (Nat → Nat) × (ClassId × ClassId × ClassId × ClassId) × (Nat × Nat)
def upI (f : Nat → Nat → Int32) (k j : Nat) (v : Int32) : Nat → Nat → Int32 := fun a b => if a = k ∧ b = j then v else f a b
def upJ (f : Nat → Nat → Int64) (k j : Nat) (v : Int64) : Nat → Nat → Int64 := fun a b => if a = k ∧ b = j then v else f a b
def lnI (k : Nat) : Nat := if k < 14 then 256 else if k < 15 then 8 else if k < 16 then 24 else if k < 17 then 256 else if k < 18 then 4 else if k < 24 then 8 else if k < 25 then 256 else if k < 30 then 4 else if k < 31 then 20 else if k < 36 then 8 else if k < 38 then 4 else if k < 39 then 120 else 4
def lnJ (k : Nat) : Nat := if k < 41 then 5 else if k < 42 then 7 else if k < 43 then 4 else if k < 44 then 5 else if k < 45 then 7 else if k < 46 then 5 else if k < 47 then 4 else if k < 70 then 5 else if k < 75 then 32 else 16
def outN (k : Nat) : Nat := if k < 9 then 7 else if k < 10 then 16 else 5
def outB (k : Nat) : Nat := if k < 9 then 47 else if k < 10 then 54 else if k < 11 then 70 else if k < 12 then 75 else 80
def obC (k : Nat) : Nat := k
def obF (G : Gw) (μ : Mem) : Nat → List Value
  | 0 => [.ref (G.2.1 1), .ref (G.2.1 2), .ref (G.2.1 3), .ref (G.2.1 4), .ref (G.2.1 5), .ref (G.2.1 6), .ref (G.2.1 40), .ref (G.2.1 41)]
  | 1 => [.int (μ.1 1 0), .ref (G.2.1 17), .ref (G.2.1 42), .ref (G.2.1 8)]
  | 2 => [.int (μ.1 2 0), .ref (G.2.1 18), .ref (G.2.1 19), .ref (G.2.1 20), .ref (G.2.1 21), .ref (G.2.1 22)]
  | 3 => [.int (μ.1 3 0), .ref (G.2.1 23), .ref (G.2.1 9)]
  | 4 => [.ref (G.2.1 1), .ref (G.2.1 2), .ref (G.2.1 3), .ref (G.2.1 10), .ref (G.2.1 43), .ref (G.2.1 44), .ref (G.2.1 13), .ref (G.2.1 24), .int (μ.1 4 8), .int (μ.1 4 9), .int (μ.1 4 10), .long (μ.2 4 11), .long (μ.2 4 12)]
  | 5 => [.ref (G.2.1 1), .ref (G.2.1 3), .ref (G.2.1 11), .ref (G.2.1 12), .ref (G.2.1 45), .ref (G.2.1 25), .int (μ.1 5 6), .long (μ.2 5 7), .ref (G.2.1 26)]
  | 6 => [.int (μ.1 6 0), .int (μ.1 6 1), .ref (G.2.1 27), .long (μ.2 6 3), .int (μ.1 6 4), .long (μ.2 6 5), .long (μ.2 6 6), .int (μ.1 6 7)]
  | _ => [.int (μ.1 7 0), .ref (G.2.1 28), .ref (G.2.1 29), .ref (G.2.1 30), .ref (G.2.1 14), .ref (G.2.1 31), .ref (G.2.1 32), .ref (G.2.1 33), .ref (G.2.1 34), .ref (G.2.1 35), .int (μ.1 7 10), .int (μ.1 7 11), .ref (G.2.1 36), .long (μ.2 7 13), .long (μ.2 7 14), .long (μ.2 7 15), .int (μ.1 7 16), .ref (G.2.1 37), .ref (G.2.1 38), .ref (G.2.1 15), .ref (G.2.1 39), .ref (G.2.1 46), .long (μ.2 7 22), .ref (G.2.1 16)]
def ent (G : Gw) (μ : Mem) (k : Nat) : va_E :=
  if k < 8 then .inr (obC k, obF G μ k)
  else if k < 13 then .inl (G.2.2.1.2.2.2, outN k, .inr (.inr (.inr (.inr (fun i => some (G.2.1 (outB k + i)))))))
  else if k < 17 then .inl (G.2.2.1.2.2.1, lnI k, .inl (μ.1 k))
  else if k < 40 then .inl (G.2.2.1.1, lnI k, .inl (μ.1 k))
  else .inl (G.2.2.1.2.1, lnJ k, .inr (.inl (μ.2 k)))
def WL (G : Gw) (μ : Mem) : va_W := (List.range 85).map fun k => (G.2.1 k, ent G μ k)
theorem WL_get {G : Gw} {μ : Mem} {k : Nat} (h : k < 85) : (WL G μ)[k]? = some (G.2.1 k, ent G μ k) := by
  simp [WL, h]
theorem WL_len {G : Gw} {μ : Mem} : (WL G μ).length = 85 := by simp [WL]
theorem obF_congr {G : Gw} {μ μ' : Mem} {k : Nat} (h7 : k < 8) (h1 : ∀ b, μ'.1 k b = μ.1 k b) (h2 : ∀ b, μ'.2 k b = μ.2 k b) : obF G μ' k = obF G μ k := by
  match k, h7 with
  | 0, _ => rfl
  | 1, _ => simp [obF, h1]
  | 2, _ => simp [obF, h1]
  | 3, _ => simp [obF, h1]
  | 4, _ => simp [obF, h1, h2]
  | 5, _ => simp [obF, h1, h2]
  | 6, _ => simp [obF, h1, h2]
  | 7, _ => simp [obF, h1, h2]
theorem ent_congr {G : Gw} {μ μ' : Mem} {k : Nat} (h1 : ∀ b, μ'.1 k b = μ.1 k b) (h2 : ∀ b, μ'.2 k b = μ.2 k b) : ent G μ' k = ent G μ k := by
  have e1 : μ'.1 k = μ.1 k := funext h1
  have e2 : μ'.2 k = μ.2 k := funext h2
  unfold ent
  by_cases h7 : k < 8
  · rw [if_pos h7, if_pos h7, obF_congr h7 h1 h2]
  · rw [if_neg h7, if_neg h7, e1, e2]
theorem WL_set {G : Gw} {μ μ' : Mem} {k : Nat} {e : va_E} (hk : k < 85) (he : e = ent G μ' k) (ho : ∀ a, a ≠ k → (∀ b, μ'.1 a b = μ.1 a b) ∧ ∀ b, μ'.2 a b = μ.2 a b) : (WL G μ).set k (G.2.1 k, e) = WL G μ' := by
  apply List.ext_getElem?
  intro j
  rw [List.getElem?_set]
  by_cases hjk : k = j
  · subst hjk
    rw [if_pos rfl, if_pos (by rw [WL_len]; exact hk), WL_get hk, he]
  · rw [if_neg hjk]
    by_cases hj : j < 85
    · rw [WL_get hj, WL_get hj, ent_congr (ho j (fun q => hjk q.symm)).1 (ho j (fun q => hjk q.symm)).2]
    · rw [List.getElem?_eq_none (by rw [WL_len]; omega), List.getElem?_eq_none (by rw [WL_len]; omega)]
/-- the addresses that a call may write: the object's cells, and all new ones -/
def AW (G : Gw) (sz : Nat) : Nat → Prop := fun q => (∃ k, k < 85 ∧ q = G.2.1 k) ∨ sz ≤ q
theorem AW_mono {G : Gw} {a b : Nat} (h : a ≤ b) {q : Nat} (hq : AW G b q) : AW G a q := by
  rcases hq with h1 | h1
  · exact Or.inl h1
  · exact Or.inr (by omega)
abbrev tyG (G : Gw) : List (ClassId × FieldType) := [(G.2.2.1.1, .int), (G.2.2.1.2.1, .long), (G.2.2.1.2.2.1, .boolean), (G.2.2.1.2.2.2, .array .long)]
def tSETS : List Int32 := [0, 1, 2, 4, 8, 16, 3, 5, 6, 9, 10, 12, 17, 18, 20, 24, 7, 11, 13, 14, 19, 21, 22, 25, 26, 28, 15, 23, 27, 29, 30, 31]
def tSTARTS : List Int32 := [0, 1, 6, 16, 26, 31]
/-- the static arrays -/
def StZ (G : Gw) (A : Nat → Prop) (U : State) (H : Heap) : Prop :=
  (va_Z "RecipePlans" "SETS" "[I" (.ref G.2.2.2.1) A U H ∧ va_T .int G.2.2.2.1 32 (fun j => .int (tSETS.getD j 0)) A U H) ∧
  (va_Z "RecipePlans" "STARTS" "[I" (.ref G.2.2.2.2) A U H ∧ va_T .int G.2.2.2.2 6 (fun j => .int (tSTARTS.getD j 0)) A U H)
theorem StZ.moved {G : Gw} {A : Nat → Prop} {u U : State} {H : Heap} (hvm : u.vm.Alike U.vm) (h : StZ G A u H) : StZ G A U H :=
  ⟨⟨h.1.1.moved hvm, h.1.2.moved hvm⟩, ⟨h.2.1.moved hvm, h.2.2.moved hvm⟩⟩
theorem StZ.narrow {G : Gw} {A B : Nat → Prop} {U : State} {H : Heap} (h : StZ G A U H) (hAB : ∀ q, B q → A q) : StZ G B U H :=
  ⟨⟨h.1.1.narrow hAB, h.1.2.narrow hAB⟩, ⟨h.2.1.narrow hAB, h.2.2.narrow hAB⟩⟩
theorem StZ.kept {G : Gw} {A : Nat → Prop} {U : State} {H H1 : Heap} (h : StZ G A U H) (hq : ∀ a : Nat, a < H.size → ¬ A a → H1[a]? = H[a]?) : StZ G A U H1 :=
  ⟨⟨h.1.1.kept hq, h.1.2.kept hq⟩, ⟨h.2.1.kept hq, h.2.2.kept hq⟩⟩
/-- links across the nest: they stay as the machine goes on -/
def isNest : Cond → Bool
  | .fieldLinkNest _ _ _ _ _ _ => true
  | .methodLinkNest _ _ _ _ => true
  | _ => false
theorem nest_warm {w : Cond} (hw : isNest w = true) {s U : State} (hW : s.WarmedH U.vm) (h : va_Nw w s) : va_Nw w U := by
  match w, hw with
  | .fieldLinkNest _ _ _ _ _ _, _ => exact va_Nw.warmF hW h
  | .methodLinkNest _ _ _ _, _ => exact va_Nw.warmM hW h
theorem nest_same {w : Cond} (hw : isNest w = true) {u U : State} (h : u.vm = U.vm) (hZ : va_Nw w u) : va_Nw w U := by
  match w, hw with
  | .fieldLinkNest _ _ _ _ _ _, _ => exact va_Nw.same rfl h hZ
  | .methodLinkNest _ _ _ _, _ => exact va_Nw.same rfl h hZ
def NwA (U : State) : Prop := ∀ w ∈ nestA, va_Nw w U
theorem nestA_ok : ∀ w ∈ nestA, isNest w = true := by decide +kernel
/-- what stands still while a call runs -/
def StA (G : Gw) (A : Nat → Prop) (U : State) (H : Heap) : Prop := StZ G A U H ∧ NwA U
/-- the world at a call's start -/
def Wd (G : Gw) (sz : Nat) (μ : Mem) (U : State) : Prop := U.heap.size = sz ∧ va_P G.1 vwCl (WL G μ) U.heap ∧ va_K G.1 vwCl (tyG G) U ∧ va_D (fun _ => True) (WL G μ) ∧ StA G (AW G sz) U U.heap
/-- the world within a call -/
def Wk (G : Gw) (s : State) (μ : Mem) (H : Heap) (locs : List Loc) : Prop := va_P G.1 vwCl (WL G μ) H ∧ va_D (AW G s.heap.size) (WL G μ) ∧ va_S (AW G s.heap.size) s.heap H locs
def QC (G : Gw) (sz : Nat) (r : Option Value) (μ' : Mem) : Array Value → State → Outcome → State → Prop := fun _ st oc t => (oc = .returned r ∧ va_P G.1 vwCl (WL G μ') t.heap) ∧ va_F (AW G sz) st t
abbrev CT (l : Launch) (y : MethodName) (ws : List Cond) (rm : Room) (av : List Value) (G : Gw) (μ : Mem) (r : Option Value) (μ' : Mem) : Prop :=
  ∀ sz : Nat, Met l y ws rm (va_Pc av (Wd G sz μ)) (QC G sz r μ') 0 0 (AW G sz)
abbrev CTp (l : Launch) (y : MethodName) (ws : List Cond) (rm : Room) (av : List Value) (r : Value) : Prop :=
  Met l y ws rm (fun v _ => v = av.toArray) (k2_QcV r) 0 0 (fun _ => False)
def CxP (p : Program) (s : State) (m : MethodId) (args : Array Value) (meth : Method) (c : Code) (cc : ByteArray) (maxL : Nat) (ret : Option FieldType) (own : String) (ws : List Cond) : Prop :=
  p.tables.exec = Jvm.exec ∧ c.code = cc ∧ meth.sig.returnType = ret ∧ c.maxLocals = maxL ∧ s.vm.findClass own = some m.cls ∧ (∀ w ∈ ws, w.before args s = true) ∧ meth.locks = false
def CxA (G : Gw) (p : Program) (s : State) (m : MethodId) (args : Array Value) (meth : Method) (c : Code) (cc : ByteArray) (maxL : Nat) (ret : Option FieldType) (own : String) (ws : List Cond) : Prop :=
  p.tables.exec = Jvm.exec ∧ c.code = cc ∧ meth.sig.returnType = ret ∧ c.maxLocals = maxL ∧ s.vm.findClass own = some m.cls ∧ (∀ w ∈ ws, w.before args s = true) ∧ meth.locks = false ∧ va_K G.1 vwCl (tyG G) s ∧ StA G (AW G s.heap.size) s s.heap
abbrev WA (G : Gw) (rm : Room) (p : Program) (l : Launch) (e : Env) (s : State) (m : MethodId) (args : Array Value) (below : List Frame) (meth : Method) (c : Code) (r : Option Value) (μ' : Mem) (H : Heap) (locs : List Loc) (pc : Nat) (ls : Array Slot) (st : List Value) : Prop :=
  W p l e rm s m args below meth c H locs 0 0 (MQ below (QC G s.heap.size r μ') args s 0 0 (AW G s.heap.size)) (F0 m pc ls st)
abbrev WP (rm : Room) (p : Program) (l : Launch) (e : Env) (s : State) (m : MethodId) (args : Array Value) (below : List Frame) (meth : Method) (c : Code) (r : Value) (pc : Nat) (ls : Array Slot) (st : List Value) : Prop :=
  W p l e rm s m args below meth c s.heap [] 0 0 (MQ below (k2_QcV r) args s 0 0 (fun _ => False)) (F0 m pc ls st)
-- the model's own steps
def ldI (μ : Mem) (k : Nat) (i : Int32) : Option Int32 := if (17 ≤ k ∧ k < 40) ∧ ¬ (i < 0 ∨ lnI k ≤ i.toNatClampNeg) then some (μ.1 k i.toNatClampNeg) else none
def ldZ (μ : Mem) (k : Nat) (i : Int32) : Option Int32 := if (13 ≤ k ∧ k < 17) ∧ ¬ (i < 0 ∨ lnI k ≤ i.toNatClampNeg) then some (μ.1 k i.toNatClampNeg) else none
def ldJ (μ : Mem) (k : Nat) (i : Int32) : Option Int64 := if (40 ≤ k ∧ k < 85) ∧ ¬ (i < 0 ∨ lnJ k ≤ i.toNatClampNeg) then some (μ.2 k i.toNatClampNeg) else none
def ldA (k : Nat) (i : Int32) : Option Nat := if (8 ≤ k ∧ k < 13) ∧ ¬ (i < 0 ∨ outN k ≤ i.toNatClampNeg) then some (outB k + i.toNatClampNeg) else none
def ldS (t : List Int32) (i : Int32) : Option Int32 := if ¬ (i < 0 ∨ t.length ≤ i.toNatClampNeg) then some (t.getD i.toNatClampNeg 0) else none
def stI (μ : Mem) (k : Nat) (i v : Int32) : Option Mem := if (17 ≤ k ∧ k < 40) ∧ ¬ (i < 0 ∨ lnI k ≤ i.toNatClampNeg) then some (upI μ.1 k i.toNatClampNeg v, μ.2) else none
def stZ (μ : Mem) (k : Nat) (i v : Int32) : Option Mem := if ((13 ≤ k ∧ k < 17) ∧ (v = 0 ∨ v = 1)) ∧ ¬ (i < 0 ∨ lnI k ≤ i.toNatClampNeg) then some (upI μ.1 k i.toNatClampNeg v, μ.2) else none
def stJ (μ : Mem) (k : Nat) (i : Int32) (v : Int64) : Option Mem := if (40 ≤ k ∧ k < 85) ∧ ¬ (i < 0 ∨ lnJ k ≤ i.toNatClampNeg) then some (μ.1, upJ μ.2 k i.toNatClampNeg v) else none
def pI (μ : Mem) (k j : Nat) (v : Int32) : Option Mem := some (upI μ.1 k j v, μ.2)
def pZ (μ : Mem) (k j : Nat) (v : Int32) : Option Mem := if v = 0 ∨ v = 1 then some (upI μ.1 k j v, μ.2) else none
def pJ (μ : Mem) (k j : Nat) (v : Int64) : Option Mem := some (μ.1, upJ μ.2 k j v)
def reZ (v : Int32) (μ : Mem) : Option (Int32 × Mem) := if v = 0 ∨ v = 1 then some (v, μ) else none
def okZ (v : Int32) : Option Int32 := if v = 0 ∨ v = 1 then some v else none
def dvI (x y : Int32) : Option Int32 := if y = 0 then none else some (x / y)
def rmI (x y : Int32) : Option Int32 := if y = 0 then none else some (x - x / y * y)
def dvJ (x y : Int64) : Option Int64 := if y = 0 then none else some (x / y)
def rmJ (x y : Int64) : Option Int64 := if y = 0 then none else some (x - x / y * y)
def nm {α β : Type} (a : α) (f : α → β) : β := f a
def bn2 {α β : Type} (o : Option (α × Mem)) (f : α → Mem → Option β) : Option β := o.bind fun q => f q.1 q.2
theorem bd {α β : Type} {o : Option α} {f : α → Option β} {r : β} (h : o.bind f = some r) : ∃ v, o = some v ∧ f v = some r := by
  cases o with
  | none => cases h
  | some v => exact ⟨v, rfl, h⟩
theorem bd2 {α β : Type} {o : Option (α × Mem)} {f : α → Mem → Option β} {r : β} (h : bn2 o f = some r) : ∃ a μ, o = some (a, μ) ∧ f a μ = some r := by
  cases o with
  | none => cases h
  | some v => exact ⟨v.1, v.2, rfl, h⟩
theorem nmx {α β : Type} {a : α} {f : α → Option β} {r : β} (h : nm a f = some r) : ∃ x, a = x ∧ f x = some r := ⟨a, rfl, h⟩
theorem ifp {α : Type} {c : Prop} [Decidable c] {a b r : α} (hc : c) (h : (if c then a else b) = r) : a = r := by rw [if_pos hc] at h; exact h
theorem ifn {α : Type} {c : Prop} [Decidable c] {a b r : α} (hc : ¬ c) (h : (if c then a else b) = r) : b = r := by rw [if_neg hc] at h; exact h
theorem somx {α : Type} {c : Prop} [Decidable c] {a r : α} (h : (if c then some a else none) = some r) : c ∧ a = r := by
  by_cases hc : c
  · rw [if_pos hc] at h; exact ⟨hc, Option.some.inj h⟩
  · rw [if_neg hc] at h; cases h
theorem somn {α : Type} {c : Prop} [Decidable c] {a r : α} (h : (if c then none else some a) = some r) : ¬ c ∧ a = r := by
  by_cases hc : c
  · rw [if_pos hc] at h; cases h
  · rw [if_neg hc] at h; exact ⟨hc, Option.some.inj h⟩
section MW
variable {p : Program} {l : Launch} {e : Env} {R : Room} {s : State} {m : MethodId} {args : Array Value} {below : List Frame} {meth : Method} {c : Code} {H : Heap} {locs : List Loc} {cells slots : Nat} {Q : State → Prop}
variable {cc : ByteArray} {pc : Nat} {ls : Array Slot} {rest : List Value} {G : Gw} {μ μ1 μ' : Mem}
theorem m_eqi {x y : Int32} (h : x = y) (k : W p l e R s m args below meth c H locs cells slots Q (F0 m pc ls (.int y :: rest))) : W p l e R s m args below meth c H locs cells slots Q (F0 m pc ls (.int x :: rest)) := h ▸ k
theorem m_eql {x y : Int64} (h : x = y) (k : W p l e R s m args below meth c H locs cells slots Q (F0 m pc ls (.long y :: rest))) : W p l e R s m args below meth c H locs cells slots Q (F0 m pc ls (.long x :: rest)) := h ▸ k
theorem m_idiv (hx : p.tables.exec = Jvm.exec) (hb : c.code = cc) {x y v : Int32} (hv : dvI x y = some v) (hdg : decode cc pc = .ok (.idiv, 1)) (k : W p l e R s m args below meth c H locs cells slots Q (F0 m (pc + 1) ls (.int v :: rest))) : W p l e R s m args below meth c H locs cells slots Q (F0 m pc ls (.int y :: .int x :: rest)) := by
  obtain ⟨h1, rfl⟩ := somn hv
  exact lv_idiv hx hb hdg h1 k
theorem m_irem (hx : p.tables.exec = Jvm.exec) (hb : c.code = cc) {x y v : Int32} (hv : rmI x y = some v) (hdg : decode cc pc = .ok (.irem, 1)) (k : W p l e R s m args below meth c H locs cells slots Q (F0 m (pc + 1) ls (.int v :: rest))) : W p l e R s m args below meth c H locs cells slots Q (F0 m pc ls (.int y :: .int x :: rest)) := by
  obtain ⟨h1, rfl⟩ := somn hv
  exact lv_irem hx hb hdg h1 k
theorem m_ldiv (hx : p.tables.exec = Jvm.exec) (hb : c.code = cc) {x y v : Int64} (hv : dvJ x y = some v) (hdg : decode cc pc = .ok (.ldiv, 1)) (k : W p l e R s m args below meth c H locs cells slots Q (F0 m (pc + 1) ls (.long v :: rest))) : W p l e R s m args below meth c H locs cells slots Q (F0 m pc ls (.long y :: .long x :: rest)) := by
  obtain ⟨h1, rfl⟩ := somn hv
  exact lv_ldiv hx hb hdg h1 k
theorem m_lrem (hx : p.tables.exec = Jvm.exec) (hb : c.code = cc) {x y v : Int64} (hv : rmJ x y = some v) (hdg : decode cc pc = .ok (.lrem, 1)) (k : W p l e R s m args below meth c H locs cells slots Q (F0 m (pc + 1) ls (.long v :: rest))) : W p l e R s m args below meth c H locs cells slots Q (F0 m pc ls (.long y :: .long x :: rest)) := by
  obtain ⟨h1, rfl⟩ := somn hv
  exact lv_lrem hx hb hdg h1 k
theorem ent_I {k : Nat} (h1 : 17 ≤ k) (h2 : k < 40) : ent G μ k = .inl (G.2.2.1.1, lnI k, .inl (μ.1 k)) := by
  unfold ent
  rw [if_neg (by omega), if_neg (by omega), if_neg (by omega), if_pos h2]
theorem ent_J {k : Nat} (h1 : 40 ≤ k) : ent G μ k = .inl (G.2.2.1.2.1, lnJ k, .inr (.inl (μ.2 k))) := by
  unfold ent
  rw [if_neg (by omega), if_neg (by omega), if_neg (by omega), if_neg (by omega)]
theorem ent_Z {k : Nat} (h1 : 13 ≤ k) (h2 : k < 17) : ent G μ k = .inl (G.2.2.1.2.2.1, lnI k, .inl (μ.1 k)) := by
  unfold ent
  rw [if_neg (by omega), if_neg (by omega), if_pos h2]
theorem ent_A {k : Nat} (h1 : 8 ≤ k) (h2 : k < 13) : ent G μ k = .inl (G.2.2.1.2.2.2, outN k, .inr (.inr (.inr (.inr (fun i => some (G.2.1 (outB k + i))))))) := by
  unfold ent
  rw [if_neg (by omega), if_pos h2]
theorem ent_O {k : Nat} (h1 : k < 8) : ent G μ k = .inr (obC k, obF G μ k) := by
  unfold ent
  rw [if_pos h1]
theorem m_iaload (hx : p.tables.exec = Jvm.exec) (hb : c.code = cc) (hK : va_K G.1 vwCl (tyG G) s) (hw : Wk G s μ H locs) {k : Nat} {i v : Int32} (hv : ldI μ k i = some v) (hdg : decode cc pc = .ok (.iaload, 1)) (kk : W p l e R s m args below meth c H locs cells slots Q (F0 m (pc + 1) ls (.int v :: rest))) : W p l e R s m args below meth c H locs cells slots Q (F0 m pc ls (.int i :: .ref (G.2.1 k) :: rest)) := by
  obtain ⟨⟨⟨h1, h2⟩, h3⟩, rfl⟩ := somx hv
  exact va_iald hx hb hK hw.1 k 0 (by rw [WL_get (by omega), ent_I h1 h2]) rfl h3 hdg kk
theorem m_baload (hx : p.tables.exec = Jvm.exec) (hb : c.code = cc) (hK : va_K G.1 vwCl (tyG G) s) (hw : Wk G s μ H locs) {k : Nat} {i v : Int32} (hv : ldZ μ k i = some v) (hdg : decode cc pc = .ok (.baload, 1)) (kk : W p l e R s m args below meth c H locs cells slots Q (F0 m (pc + 1) ls (.int v :: rest))) : W p l e R s m args below meth c H locs cells slots Q (F0 m pc ls (.int i :: .ref (G.2.1 k) :: rest)) := by
  obtain ⟨⟨⟨h1, h2⟩, h3⟩, rfl⟩ := somx hv
  exact va_zald hx hb hK hw.1 k 2 (by rw [WL_get (by omega), ent_Z h1 h2]) rfl h3 hdg kk
theorem m_laload (hx : p.tables.exec = Jvm.exec) (hb : c.code = cc) (hK : va_K G.1 vwCl (tyG G) s) (hw : Wk G s μ H locs) {k : Nat} {i : Int32} {v : Int64} (hv : ldJ μ k i = some v) (hdg : decode cc pc = .ok (.laload, 1)) (kk : W p l e R s m args below meth c H locs cells slots Q (F0 m (pc + 1) ls (.long v :: rest))) : W p l e R s m args below meth c H locs cells slots Q (F0 m pc ls (.int i :: .ref (G.2.1 k) :: rest)) := by
  obtain ⟨⟨⟨h1, h2⟩, h3⟩, rfl⟩ := somx hv
  exact va_lald hx hb hK hw.1 k 1 (by rw [WL_get (by omega), ent_J h1]) rfl h3 hdg kk
theorem m_aaload (hx : p.tables.exec = Jvm.exec) (hb : c.code = cc) (hK : va_K G.1 vwCl (tyG G) s) (hw : Wk G s μ H locs) {k a : Nat} {i : Int32} (hv : ldA k i = some a) (hdg : decode cc pc = .ok (.aaload, 1)) (kk : W p l e R s m args below meth c H locs cells slots Q (F0 m (pc + 1) ls (.ref (G.2.1 a) :: rest))) : W p l e R s m args below meth c H locs cells slots Q (F0 m pc ls (.int i :: .ref (G.2.1 k) :: rest)) := by
  obtain ⟨⟨⟨h1, h2⟩, h3⟩, rfl⟩ := somx hv
  have hlt : i.toNatClampNeg < outN k := Nat.not_le.mp fun q => h3 (Or.inr q)
  have hc := hw.1 k _ (WL_get (G := G) (μ := μ) (by omega))
  rw [ent_A h1 h2] at hc
  exact W.aald (v := .ref (G.2.1 (outB k + i.toNatClampNeg))) (ty := .array .long) hx hb hc ((hK.2 3 _ rfl).1 (outN k) (fun j => va_rf (some (G.2.1 (outB k + j))))) rfl (fun q => by cases q) (by show ¬ (i < 0 ∨ (arrV _ _ _).slots.size ≤ _); rw [arrV_size]; exact h3) (by show (arrV _ _ _).slots[_]? = _; rw [arrV_read _ _ hlt]; rfl) rfl rfl hdg kk
theorem upI_self {f : Nat → Nat → Int32} {k j : Nat} {v : Int32} : upI f k j v k = upd (f k) j v := by
  funext b
  simp [upI, upd]
theorem upJ_self {f : Nat → Nat → Int64} {k j : Nat} {v : Int64} : upJ f k j v k = vp_updL (f k) j v := by
  funext b
  simp [upJ, vp_updL]
theorem upI_ne {f : Nat → Nat → Int32} {k j a : Nat} {v : Int32} (h : a ≠ k) (b : Nat) : upI f k j v a b = f a b := by simp [upI, h]
theorem upJ_ne {f : Nat → Nat → Int64} {k j a : Nat} {v : Int64} (h : a ≠ k) (b : Nat) : upJ f k j v a b = f a b := by simp [upJ, h]
theorem m_iastore (hx : p.tables.exec = Jvm.exec) (hb : c.code = cc) (hK : va_K G.1 vwCl (tyG G) s) (hw : Wk G s μ H locs) {k : Nat} {i v : Int32} (hm : stI μ k i v = some μ1) (hdg : decode cc pc = .ok (.iastore, 1)) (kk : ∀ (H1 : Heap) (locs1 : List Loc), Wk G s μ1 H1 locs1 → W p l e R s m args below meth c H1 locs1 cells slots Q (F0 m (pc + 1) ls rest)) : W p l e R s m args below meth c H locs cells slots Q (F0 m pc ls (.int v :: .int i :: .ref (G.2.1 k) :: rest)) := by
  obtain ⟨⟨⟨h1, h2⟩, h3⟩, rfl⟩ := somx hm
  refine va_iast hx hb hK hw.1 hw.2.1 hw.2.2 k 0 (by rw [WL_get (by omega), ent_I h1 h2]) rfl h3 hdg (fun H1 locs1 hP hD hS => ?_)
  have e : (WL G μ).set k (G.2.1 k, .inl (G.2.2.1.1, lnI k, .inl (upd (μ.1 k) i.toNatClampNeg v))) = WL G (upI μ.1 k i.toNatClampNeg v, μ.2) := WL_set (by omega) (by rw [ent_I h1 h2]; dsimp only; rw [upI_self]) (fun a ha => ⟨upI_ne ha, fun _ => rfl⟩)
  rw [e] at hP hD
  exact kk H1 locs1 ⟨hP, hD, hS⟩
theorem nar_Z {v : Int32} (h : v = 0 ∨ v = 1) : vp_nar .boolean v = v := by
  rcases h with rfl | rfl <;> rfl
theorem m_bastore (hx : p.tables.exec = Jvm.exec) (hb : c.code = cc) (hK : va_K G.1 vwCl (tyG G) s) (hw : Wk G s μ H locs) {k : Nat} {i v : Int32} (hm : stZ μ k i v = some μ1) (hdg : decode cc pc = .ok (.bastore, 1)) (kk : ∀ (H1 : Heap) (locs1 : List Loc), Wk G s μ1 H1 locs1 → W p l e R s m args below meth c H1 locs1 cells slots Q (F0 m (pc + 1) ls rest)) : W p l e R s m args below meth c H locs cells slots Q (F0 m pc ls (.int v :: .int i :: .ref (G.2.1 k) :: rest)) := by
  obtain ⟨⟨⟨⟨h1, h1'⟩, h2⟩, h3⟩, rfl⟩ := somx hm
  refine va_zast hx hb hK hw.1 hw.2.1 hw.2.2 k 2 (by rw [WL_get (by omega), ent_Z h1 h1']) rfl h3 hdg (fun H1 locs1 hP hD hS => ?_)
  rw [nar_Z h2] at hP hD
  have e : (WL G μ).set k (G.2.1 k, .inl (G.2.2.1.2.2.1, lnI k, .inl (upd (μ.1 k) i.toNatClampNeg v))) = WL G (upI μ.1 k i.toNatClampNeg v, μ.2) := WL_set (by omega) (by rw [ent_Z h1 h1']; dsimp only; rw [upI_self]) (fun a ha => ⟨upI_ne ha, fun _ => rfl⟩)
  rw [e] at hP hD
  exact kk H1 locs1 ⟨hP, hD, hS⟩
theorem m_lastore (hx : p.tables.exec = Jvm.exec) (hb : c.code = cc) (hK : va_K G.1 vwCl (tyG G) s) (hw : Wk G s μ H locs) {k : Nat} {i : Int32} {v : Int64} (hm : stJ μ k i v = some μ1) (hdg : decode cc pc = .ok (.lastore, 1)) (kk : ∀ (H1 : Heap) (locs1 : List Loc), Wk G s μ1 H1 locs1 → W p l e R s m args below meth c H1 locs1 cells slots Q (F0 m (pc + 1) ls rest)) : W p l e R s m args below meth c H locs cells slots Q (F0 m pc ls (.long v :: .int i :: .ref (G.2.1 k) :: rest)) := by
  obtain ⟨⟨⟨h1, h2⟩, h3⟩, rfl⟩ := somx hm
  refine va_last hx hb hK hw.1 hw.2.1 hw.2.2 k 1 (by rw [WL_get (by omega), ent_J h1]) rfl h3 hdg (fun H1 locs1 hP hD hS => ?_)
  have e : (WL G μ).set k (G.2.1 k, .inl (G.2.2.1.2.1, lnJ k, .inr (.inl (vp_updL (μ.2 k) i.toNatClampNeg v)))) = WL G (μ.1, upJ μ.2 k i.toNatClampNeg v) := WL_set (by omega) (by rw [ent_J h1]; dsimp only; rw [upJ_self]) (fun a ha => ⟨fun _ => rfl, upJ_ne ha⟩)
  rw [e] at hP hD
  exact kk H1 locs1 ⟨hP, hD, hS⟩
/-- a field was written -/
theorem wk_put {k j : Nat} {w : Value} (hk : k < 8) (hf : (obF G μ k).set j w = obF G μ1 k) (ho : ∀ a, a ≠ k → (∀ b, μ1.1 a b = μ.1 a b) ∧ ∀ b, μ1.2 a b = μ.2 a b)
    (hP : va_P G.1 vwCl ((WL G μ).set k (G.2.1 k, .inr (obC k, (obF G μ k).set j w))) H) (hD : va_D (AW G s.heap.size) ((WL G μ).set k (G.2.1 k, .inr (obC k, (obF G μ k).set j w)))) (hS : va_S (AW G s.heap.size) s.heap H locs) : Wk G s μ1 H locs := by
  have e : (WL G μ).set k (G.2.1 k, .inr (obC k, (obF G μ k).set j w)) = WL G μ1 := WL_set (by omega) (by rw [ent_O hk, hf]) ho
  rw [e] at hP hD
  exact ⟨hP, hD, hS⟩
theorem wk_pI {k j : Nat} {v : Int32} (hm : pI μ k j v = some μ1) (hk : k < 8) (hf : (obF G μ k).set j (.int v) = obF G (upI μ.1 k j v, μ.2) k)
    (hP : va_P G.1 vwCl ((WL G μ).set k (G.2.1 k, .inr (obC k, (obF G μ k).set j (.int v)))) H) (hD : va_D (AW G s.heap.size) ((WL G μ).set k (G.2.1 k, .inr (obC k, (obF G μ k).set j (.int v))))) (hS : va_S (AW G s.heap.size) s.heap H locs) : Wk G s μ1 H locs := by
  cases hm
  exact wk_put hk hf (fun a ha => ⟨upI_ne ha, fun _ => rfl⟩) hP hD hS
theorem wk_pZ {k j : Nat} {v : Int32} (hm : pZ μ k j v = some μ1) (hk : k < 8) (hf : (obF G μ k).set j (.int v) = obF G (upI μ.1 k j v, μ.2) k)
    (hP : va_P G.1 vwCl ((WL G μ).set k (G.2.1 k, .inr (obC k, (obF G μ k).set j (.int v)))) H) (hD : va_D (AW G s.heap.size) ((WL G μ).set k (G.2.1 k, .inr (obC k, (obF G μ k).set j (.int v))))) (hS : va_S (AW G s.heap.size) s.heap H locs) : Wk G s μ1 H locs := by
  obtain ⟨-, rfl⟩ := somx hm
  exact wk_put hk hf (fun a ha => ⟨upI_ne ha, fun _ => rfl⟩) hP hD hS
theorem wk_pJ {k j : Nat} {v : Int64} (hm : pJ μ k j v = some μ1) (hk : k < 8) (hf : (obF G μ k).set j (.long v) = obF G (μ.1, upJ μ.2 k j v) k)
    (hP : va_P G.1 vwCl ((WL G μ).set k (G.2.1 k, .inr (obC k, (obF G μ k).set j (.long v)))) H) (hD : va_D (AW G s.heap.size) ((WL G μ).set k (G.2.1 k, .inr (obC k, (obF G μ k).set j (.long v))))) (hS : va_S (AW G s.heap.size) s.heap H locs) : Wk G s μ1 H locs := by
  cases hm
  exact wk_put hk hf (fun a ha => ⟨fun _ => rfl, upJ_ne ha⟩) hP hD hS
theorem pZ_ok {k j : Nat} {v : Int32} (hm : pZ μ k j v = some μ1) : narrow .boolean (.int v) = .int v ∧ fits .boolean (.int v) = true := by
  obtain ⟨h, -⟩ := somx hm
  rcases h with rfl | rfl <;> exact ⟨rfl, rfl⟩
-- ends
theorem m_vret (hx : p.tables.exec = Jvm.exec) (hb : c.code = cc) (hr : meth.sig.returnType = none) (hlk : meth.locks = false) (hw : Wk G s μ H locs) (h : some μ = some μ') (hdg : decode cc pc = .ok (.return_, 1)) : WA G R p l e s m args below meth c none μ' H locs pc ls [] := by
  cases h
  exact W.vret hx hb hr (fun t ht hW => ⟨⟨rfl, by rw [ht]; exact hw.1⟩, hw.2.2.F ht⟩) hw.2.2.2.2 hdg hlk
theorem m_iret {v r : Int32} (hx : p.tables.exec = Jvm.exec) (hb : c.code = cc) (hr : meth.sig.returnType = some .int) (hlk : meth.locks = false) (hw : Wk G s μ H locs) (h : some (v, μ) = some (r, μ')) (hdg : decode cc pc = .ok (.ireturn, 1)) : WA G R p l e s m args below meth c (some (.int r)) μ' H locs pc ls [.int v] := by
  cases h
  exact W.iret hx hb hr (fun t ht hW => ⟨⟨rfl, by rw [ht]; exact hw.1⟩, hw.2.2.F ht⟩) hw.2.2.2.2 hdg hlk
theorem m_lret {v r : Int64} (hx : p.tables.exec = Jvm.exec) (hb : c.code = cc) (hr : meth.sig.returnType = some .long) (hlk : meth.locks = false) (hw : Wk G s μ H locs) (h : some (v, μ) = some (r, μ')) (hdg : decode cc pc = .ok (.lreturn, 1)) : WA G R p l e s m args below meth c (some (.long r)) μ' H locs pc ls [.long v] := by
  cases h
  exact W.lret hx hb hr (fun t ht hW => ⟨⟨rfl, by rw [ht]; exact hw.1⟩, hw.2.2.F ht⟩) hw.2.2.2.2 hdg hlk
theorem nar_Z2 {v : Int32} (h : v = 0 ∨ v = 1) : narrow .boolean (.int v) = .int v := by
  rcases h with rfl | rfl <;> rfl
theorem m_zret {v r : Int32} (hx : p.tables.exec = Jvm.exec) (hb : c.code = cc) (hr : meth.sig.returnType = some .boolean) (hlk : meth.locks = false) (hw : Wk G s μ H locs) (h : reZ v μ = some (r, μ')) (hdg : decode cc pc = .ok (.ireturn, 1)) : WA G R p l e s m args below meth c (some (.int r)) μ' H locs pc ls [.int v] := by
  obtain ⟨h1, h2⟩ := somx h
  cases h2
  exact W.zret hx hb hr (nar_Z2 h1) (fun t ht hW => ⟨⟨rfl, by rw [ht]; exact hw.1⟩, hw.2.2.F ht⟩) hw.2.2.2.2 hdg hlk
theorem m_piret {v r : Int32} (hx : p.tables.exec = Jvm.exec) (hb : c.code = cc) (hr : meth.sig.returnType = some .int) (hlk : meth.locks = false) (h : some v = some r) (hdg : decode cc pc = .ok (.ireturn, 1)) : WP R p l e s m args below meth c (.int r) pc ls [.int v] := by
  cases h
  exact W.iret hx hb hr (fun t ht hW => ⟨rfl, ht⟩) (fun q h => by cases h) hdg hlk
theorem m_plret {v r : Int64} (hx : p.tables.exec = Jvm.exec) (hb : c.code = cc) (hr : meth.sig.returnType = some .long) (hlk : meth.locks = false) (h : some v = some r) (hdg : decode cc pc = .ok (.lreturn, 1)) : WP R p l e s m args below meth c (.long r) pc ls [.long v] := by
  cases h
  exact W.lret hx hb hr (fun t ht hW => ⟨rfl, ht⟩) (fun q h => by cases h) hdg hlk
theorem m_pzret {v r : Int32} (hx : p.tables.exec = Jvm.exec) (hb : c.code = cc) (hr : meth.sig.returnType = some .boolean) (hlk : meth.locks = false) (h : okZ v = some r) (hdg : decode cc pc = .ok (.ireturn, 1)) : WP R p l e s m args below meth c (.int r) pc ls [.int v] := by
  obtain ⟨h1, rfl⟩ := somx h
  exact W.zret hx hb hr (nar_Z2 h1) (fun t ht hW => ⟨rfl, ht⟩) (fun q h => by cases h) hdg hlk
-- contracts
theorem WL_D {A : Nat → Prop} (h : va_D A (WL G μ)) : va_D A (WL G μ1) := by
  refine ⟨fun i j p q hi hj e => ?_, fun k q hk => ?_⟩
  · have h1 : i < 85 := by rw [← WL_len (G := G) (μ := μ1)]; exact (List.getElem?_eq_some_iff.mp hi).1
    have h2 : j < 85 := by rw [← WL_len (G := G) (μ := μ1)]; exact (List.getElem?_eq_some_iff.mp hj).1
    rw [WL_get h1] at hi
    rw [WL_get h2] at hj
    cases hi
    cases hj
    exact h.1 i j _ _ (WL_get h1) (WL_get h2) e
  · have h1 : k < 85 := by rw [← WL_len (G := G) (μ := μ1)]; exact (List.getElem?_eq_some_iff.mp hk).1
    rw [WL_get h1] at hk
    cases hk
    exact h.2 k (_, ent G μ k) (WL_get h1)
theorem WL_DA {A : Nat → Prop} {sz : Nat} (h : va_D A (WL G μ)) : va_D (AW G sz) (WL G μ1) := by
  refine ⟨(WL_D (μ1 := μ1) h).1, fun k q hk => ?_⟩
  have h1 : k < 85 := by rw [← WL_len (G := G) (μ := μ1)]; exact (List.getElem?_eq_some_iff.mp hk).1
  rw [WL_get h1] at hk
  cases hk
  exact Or.inl ⟨k, h1, rfl⟩
theorem m_met {y : MethodName} {ws ws' : List Cond} {rm : Room} {maxL : Nat} {ret : Option FieldType} {av : List Value} {r : Option Value} (hy : plainName y.cls = true) (hws : ws = Cond.code y cc maxL ret :: ws') (hlen : (lg_sl av).length ≤ maxL)
    (body : ∀ (p : Program) (e : Env) (s : State) (m : MethodId) (args : Array Value) (below : List Frame) (meth : Method) (c : Code) (ls : Array Slot), CxA G p s m args meth c cc maxL ret y.cls ws → Wk G s μ s.heap [] → lv_has ls maxL (lv_args 0 av) → WA G rm p l e s m args below meth c r μ' s.heap [] 0 ls []) : CT l y ws rm av G μ r μ' := by
  intro sz
  refine Met.ofW (cc := cc) (maxL := maxL) (ret := ret) hy hws ?_
  intro p e s m args below meth c s₁ B hml hv
  obtain ⟨rfl, hsz, hP, hK, hD, hSt⟩ := hv
  subst hsz
  have hl := lv_entry av (n := maxL) hlen
  rw [lg_entry_eq]
  exact body p e s m _ below meth c _ ⟨B.exec, B.bytes, B.returns, hml, findClass_of_methodNamed B.named, atoms_spec (ws := ws) B.pre, B.notSynchronized, hK, hSt⟩ ⟨hP, WL_DA hD, va_S.rf⟩ hl
/-- a contract out of a walk, also for a class of the JDK of which only some methods are the machine's own -/
theorem metF {l : Launch} {y : MethodName} {ws ws' : List Cond} {rm : Room} {Pc : Array Value → State → Prop} {Qc : Array Value → State → Outcome → State → Prop} {mc ms : Nat} {free : Addr → Prop} {maxL : Nat} {ret : Option FieldType} (hy : plainFor y = true) (hw : ws = Cond.code y cc maxL ret :: ws')
    (body : ∀ p e s m args below meth c s₁, BodyLoose p l y (headSpec ws rm) cc maxL ret e s m args below meth c s₁ → c.maxLocals = maxL → Pc args s → W p l e (headSpec ws rm).room s m args below meth c s.heap [] 0 0 (MQ below Qc args s mc ms free) (entryFrame m args maxL)) : Met l y ws rm Pc Qc mc ms free := by
  refine MetFree.of_bodySF (code := cc) (maxLocals := maxL) (ret := ret) hy (fun args s m h hn => ?_) (fun p e s m args below meth c s₁ B hml hP _ => ?_)
  · obtain ⟨meth, c, h1, h2, h3, h4, h5, h6, -, -⟩ := Cond.code_spec hn (atoms_spec (ws := ws) h _ (by rw [hw]; exact List.mem_cons_self))
    exact ⟨meth, c, h1, h2, h3, h4, h5, h6⟩
  · obtain ⟨t, a1, o, b1, b2, b3⟩ := body p e s m args below meth c s₁ B hml hP s₁ (by rw [B.state]; rfl) (Stand.of_body B)
    exact ⟨t, o, a1, b1, b2, ⟨b3.1, b3.2⟩⟩
theorem m_metP {y : MethodName} {ws ws' : List Cond} {rm : Room} {maxL : Nat} {ret : Option FieldType} {av : List Value} {r : Value} (hy : plainFor y = true) (hws : ws = Cond.code y cc maxL ret :: ws') (hlen : (lg_sl av).length ≤ maxL)
    (body : ∀ (p : Program) (e : Env) (s : State) (m : MethodId) (args : Array Value) (below : List Frame) (meth : Method) (c : Code) (ls : Array Slot), CxP p s m args meth c cc maxL ret y.cls ws → lv_has ls maxL (lv_args 0 av) → WP rm p l e s m args below meth c r 0 ls []) : CTp l y ws rm av r := by
  refine metF (cc := cc) (maxL := maxL) (ret := ret) hy hws ?_
  intro p e s m args below meth c s₁ B hml hv
  subst hv
  have hl := lv_entry av (n := maxL) hlen
  rw [lg_entry_eq]
  exact body p e s m _ below meth c _ ⟨B.exec, B.bytes, B.returns, hml, findClass_of_methodNamed B.named, atoms_spec (ws := ws) B.pre, B.notSynchronized⟩ hl
-- calls
theorem wd_blind {sz : Nat} {av : List Value} : FrameBlind (va_Pc av (Wd G sz μ)) := by
  intro a U g mk q
  obtain ⟨q0, q1, qP, qK, qD, qS, qN⟩ := q
  exact ⟨q0, q1, qP, va_K.moved (u := U) (U := U.calling g mk a) (Vm.Alike.refl U.vm) qK, qD, qS.moved (Vm.Alike.refl U.vm), fun w hw => nest_same (u := U) (U := U.calling g mk a) (nestA_ok w hw) rfl (qN w hw)⟩
theorem wd_of (hK : va_K G.1 vwCl (tyG G) s) (hSt : StA G (AW G s.heap.size) s s.heap) (hw : Wk G s μ H locs) {U : State} (hU : U.heap = H) (hW : s.WarmedH U.vm) : Wd G H.size μ U := by
  refine ⟨by rw [hU], by rw [hU]; exact hw.1, va_K.moved hW.alike hK, hw.2.1.weaken (fun _ _ _ _ => trivial), ?_, fun w hq => nest_warm (nestA_ok w hq) hW (hSt.2 w hq)⟩
  have h1 : StZ G (AW G s.heap.size) s H := hSt.1.kept (fun a h1 h2 => hw.2.2.2.1 a h1 h2)
  rw [hU]
  exact (h1.moved hW.alike).narrow (fun q hq => AW_mono hw.2.2.1 hq)
theorem m_preS {As : List Value} (hK : va_K G.1 vwCl (tyG G) s) (hSt : StA G (AW G s.heap.size) s s.heap) (hw : Wk G s μ H locs) : PreS s H (va_Pc As (Wd G H.size μ)) As :=
  ⟨wd_blind, fun _ hU hW => ⟨rfl, wd_of hK hSt hw hU hW⟩⟩
theorem m_preV {As : List Value} {k : Nat} {q : vw_C} (hk : k < 8) (hq : vwCl[obC k]? = some q) (hK : va_K G.1 vwCl (tyG G) s) (hSt : StA G (AW G s.heap.size) s s.heap) (hw : Wk G s μ H locs) : PreV s H q.1 (G.2.1 k) (va_Pc (.ref (G.2.1 k) :: As) (Wd G H.size μ)) As :=
  ⟨wd_blind, va_recv hK hw.1 hq (q0 := k) (by rw [WL_get (k := k) (by omega), ent_O hk]), fun _ hU hW => ⟨rfl, wd_of hK hSt hw hU hW⟩⟩
theorem m_call {a : Array Value} {st0 : List Value} {r : Option Value} (hr : va_Run p l e R s m args below meth c H locs cells slots 0 0 (F0 m pc ls st0) rest (QC G H.size r μ1 a) (AW G H.size)) (hw : Wk G s μ H locs)
    (kk : ∀ (H1 : Heap) (locs1 : List Loc), Wk G s μ1 H1 locs1 → W p l e R s m args below meth c H1 locs1 cells slots Q (F0 m (pc + 3) ls (r.toList ++ rest))) : W p l e R s m args below meth c H locs cells slots Q (F0 m pc ls st0) := by
  intro T hT X
  obtain ⟨v, st₀, t, T', L, h0, X', hL, e1, e2, ⟨⟨hv, hP1⟩, hz, hk⟩, st⟩ := hr T hT X
  cases hv
  rw [h0] at hz hk
  have hS := hw.2.2
  obtain ⟨t2, a1, b1⟩ := kk T'.heap (locs ++ L) ⟨by rw [e1]; exact hP1, WL_D hw.2.1, Nat.le_trans hS.1 (by rw [e1]; exact hz), fun q h1 h2 => by rw [e1, hk q (Nat.lt_of_lt_of_le h1 hS.1) (fun z => h2 (AW_mono hS.1 z))]; exact hS.2.1 q h1 h2, fun q hq => by
      rcases List.mem_append.mp hq with h | h
      · exact hS.2.2 q h
      · exact AW_mono hS.1 (hL q h)⟩ T' rfl X'
  exact ⟨t2, st t2 a1, b1⟩
theorem m_pcall {a : Array Value} {st0 : List Value} {r : Value} (hr : CallRun p l e R s m args below meth c H locs cells slots 0 0 (F0 m pc ls st0) rest (k2_QcV r a) (fun _ => False)) (kk : W p l e R s m args below meth c H locs cells slots Q (F0 m (pc + 3) ls (r :: rest))) : W p l e R s m args below meth c H locs cells slots Q (F0 m pc ls st0) := W.callV hr kk
theorem m_tab {k N : Nat} {t : List Int32} {i v : Int32} (hx : p.tables.exec = Jvm.exec) (hb : c.code = cc) {A : Nat → Prop} (hT : va_T .int k N (fun j => .int (t.getD j 0)) A s s.heap) (hN : t.length = N) (hS : va_S A s.heap H locs) (hv : ldS t i = some v) (hdg : decode cc pc = .ok (.iaload, 1))
    (kk : W p l e R s m args below meth c H locs cells slots Q (F0 m (pc + 1) ls (.int v :: rest))) : W p l e R s m args below meth c H locs cells slots Q (F0 m pc ls (.int i :: .ref k :: rest)) := by
  obtain ⟨h1, rfl⟩ := somx hv
  subst hN
  exact va_ti hx hb hT hS h1 rfl hdg kk
end MW
