/-! THE CLAIM OUT OF ONE WALK OF THE LAW'S BODY. Your part is whole_start (and what it stands on); all else here is the same for every law, but numbers. -/
def R_law : String := "RecipePlansLaw"
def lw_P (b : Addr) (xs : List Int32) (args : Array Value) (s : State) : Prop := args = #[.ref b] ∧ s.IntsAt b xs ∧ xs.length ≤ 3584 ∧ (Jvm.Cond.and given_1 narrow_1).before args s = true
def lw_Q (_ : Array Value) (s : State) (o : Outcome) (t : State) : Prop := o = .returned (some (.int 1)) ∧ Framed s o t [] 600000 7302250
def lw_Z (below : List Frame) (a : Array Value) (s : State) : State → Prop := fun t => ∃ o, t.status = .running ∧ Ended t below o ∧ lw_Q a s o t
/-- the law's own end, with 1 on the stack, nothing written that was there before, its room as the claim has it -/
theorem lw_ret {p : Program} {l : Launch} {e : Env} {s : State} {m : MethodId} {below : List Frame} {meth : Method} {c : Code} {b : Nat} (hx : p.tables.exec = Jvm.exec) (hb : c.code = code) (hr : meth.sig.returnType = ret) (hlocks : meth.locks = false) {pc : Nat} {H : Heap} {ls : Array Slot} (hdg : decode code pc = .ok (.ireturn, 1)) : W p l e room_1 s m #[Value.ref b] below meth c H [] 600000 7302250 (lw_Z below #[Value.ref b] s) (F0 m pc ls [.int 1]) := by
  intro T hT X
  obtain ⟨fs, hret, hrun, hended, hW, hframe⟩ := X.leave (v := some (.int 1)) (hlocks := hlocks) (fun h => by rw [hr] at h; cases h)
  have hmeth' : T.vm.method? m = some meth := X.method'
  refine ⟨T.setFrames fs, ?_, .returned (some (.int 1)), hrun, hended, rfl, ⟨_, rfl⟩, hW, hframe⟩
  jvm_step X.here [X.here.top, hx, hb, hdg, hmeth', hr, ret, narrow_b1]
  (try refine ⟨rfl, ?_⟩); (try refine ⟨rfl, ?_⟩)
  first | (intro acts; rw [hret _ acts rfl rfl rfl]) | rw [hret _ _ rfl rfl rfl]
  exact Steps.refl _
/-- what holds at the law's entry: the machine, the code, the tables' words (any of lw_tbl by 'hts w (by decide +kernel)'), the script of L ints xs at the cell b, what the Statement gives of the start (any of its parts by flat_of_before) -/
def lw_At (p : Program) (s : State) (m : MethodId) (meth : Method) (c : Code) (b L : Nat) (xs : Nat → Int32) : Prop :=
  p.tables.exec = Jvm.exec ∧ c.code = code ∧ meth.sig.returnType = ret ∧ c.maxLocals = 4 ∧ s.vm.findClass R_law = some m.cls ∧ (∀ w ∈ lw_tbl, w.before #[Value.ref b] s = true) ∧ va_X b L xs s s.heap ∧ b < s.heap.size ∧ meth.locks = false ∧ (Jvm.Cond.and given_1 narrow_1).before #[Value.ref b] s = true
def H_lot (N : Nat) (Inv : Mem → Prop) : Prop := ∀ (a0 : Int32) (a1 : Int64) (μ : Mem), Inv μ → ∃ r μ1 μ2, M_RP_lot N a0 a1 μ = some (r, μ1) ∧ M_Mo_lot N a0 a1 μ1 = some (r, μ2) ∧ Inv μ2
def H_amount (N : Nat) (Inv : Mem → Prop) : Prop := ∀ (a0 : Int32) (a1 : Int32) (a2 : Int32) (μ : Mem), Inv μ → ∃ r μ1 μ2, M_RP_amount N a0 a1 a2 μ = some (r, μ1) ∧ M_Mo_amount N a0 a1 a2 μ1 = some (r, μ2) ∧ Inv μ2
def H_span (N : Nat) (Inv : Mem → Prop) : Prop := ∀ (a0 : Int32) (a1 : Int32) (a2 : Int32) (μ : Mem), Inv μ → ∃ r μ1 μ2, M_RP_span N a0 a1 a2 μ = some (r, μ1) ∧ M_Mo_span N a0 a1 a2 μ1 = some (r, μ2) ∧ Inv μ2
def H_ratio (N : Nat) (Inv : Mem → Prop) : Prop := ∀ (a0 : Int32) (a1 : Int32) (a2 : Int32) (a3 : Int32) (a4 : Int32) (a5 : Int32) (μ : Mem), Inv μ → ∃ r μ1 μ2, M_RP_ratio N a0 a1 a2 a3 a4 a5 μ = some (r, μ1) ∧ M_Mo_ratio N a0 a1 a2 a3 a4 a5 μ1 = some (r, μ2) ∧ Inv μ2
def H_loads (N : Nat) (Inv : Mem → Prop) : Prop := ∀ (a0 : Int32) (a1 : Int32) (μ : Mem), Inv μ → ∃ r μ1 μ2, M_RP_loads N a0 a1 μ = some (r, μ1) ∧ M_Mo_loads N a0 a1 μ1 = some (r, μ2) ∧ Inv μ2
def H_untell (N : Nat) (Inv : Mem → Prop) : Prop := ∀ (a0 : Int32) (μ : Mem), Inv μ → ∃ r μ1 μ2, M_RP_untell N a0 μ = some (r, μ1) ∧ M_Mo_untell N a0 μ1 = some (r, μ2) ∧ Inv μ2
def H_run (N : Nat) (Inv : Mem → Prop) : Prop := ∀ (μ : Mem), Inv μ → ∃ r μ1 μ2, M_RP_run N μ = some (r, μ1) ∧ M_Mo_run N μ1 = some (r, μ2) ∧ Inv μ2
def H_best (N : Nat) (Inv : Mem → Prop) : Prop := ∀ (a0 : Int32) (μ : Mem), Inv μ → ∃ r μ1 μ2, M_RP_best N a0 μ = some (r, μ1) ∧ M_Mo_best N a0 μ1 = some (r, μ2) ∧ Inv μ2
def H_cost (N : Nat) (Inv : Mem → Prop) : Prop := ∀ (μ : Mem), Inv μ → ∃ r μ1 μ2, M_RP_cost N μ = some (r, μ1) ∧ M_Mo_cost N μ1 = some (r, μ2) ∧ Inv μ2
def H_cut (N : Nat) (Inv : Mem → Prop) : Prop := ∀ (a0 : Int32) (μ : Mem), Inv μ → ∃ r μ1 μ2, M_RP_cut N a0 μ = some (r, μ1) ∧ M_Mo_cut N a0 μ1 = some (r, μ2) ∧ Inv μ2
def H_clashes (N : Nat) (Inv : Mem → Prop) : Prop := ∀ (μ : Mem), Inv μ → ∃ r μ1 μ2, M_RP_clashes N μ = some (r, μ1) ∧ M_Mo_clashes N μ1 = some (r, μ2) ∧ Inv μ2
def H_clash (N : Nat) (Inv : Mem → Prop) : Prop := ∀ (a0 : Int32) (μ : Mem), Inv μ → ∃ r μ1 μ2, M_RP_clash N a0 μ = some (r, μ1) ∧ M_Mo_clash N a0 μ1 = some (r, μ2) ∧ Inv μ2
def H_broken (N : Nat) (Inv : Mem → Prop) : Prop := ∀ (a0 : Int32) (a1 : Int32) (a2 : Int32) (a3 : Int32) (μ : Mem), Inv μ → ∃ r μ1 μ2, M_RP_broken N a0 a1 a2 a3 μ = some (r, μ1) ∧ M_Mo_broken N a0 a1 a2 a3 μ1 = some (r, μ2) ∧ Inv μ2
/-- every call of the class answers as the reference does, and what holds of the memory goes on holding -/
def OpsOK (N : Nat) (Inv : Mem → Prop) : Prop := H_lot N Inv ∧ H_amount N Inv ∧ H_span N Inv ∧ H_ratio N Inv ∧ H_loads N Inv ∧ H_untell N Inv ∧ H_run N Inv ∧ H_best N Inv ∧ H_cost N Inv ∧ H_cut N Inv ∧ H_clashes N Inv ∧ H_clash N Inv ∧ H_broken N Inv
/-- what holds while the law runs, once both objects are made -/
def CxL (G : Gw) (p : Program) (s : State) (m : MethodId) (meth : Method) (c : Code) (b L : Nat) (xs : Nat → Int32) : Prop :=
  p.tables.exec = Jvm.exec ∧ c.code = code ∧ meth.sig.returnType = ret ∧ c.maxLocals = 4 ∧ s.vm.findClass "RecipePlansLaw" = some m.cls ∧ (∀ w ∈ (Cond.initialized "RecipePlansLaw" :: wsAll), w.before #[Value.ref b] s = true) ∧ meth.locks = false ∧ va_K G.1 vwCl (tyG G) s ∧ StA G (AW G s.heap.size) s s.heap ∧ va_X b L xs s s.heap ∧ b < s.heap.size ∧ ¬ AW G s.heap.size b ∧ L ≤ 3584
section LW
variable {p : Program} {l : Launch} {e : Env} {s : State} {m : MethodId} {below : List Frame} {meth : Method} {c : Code} {G : Gw} {b L : Nat} {xs : Nat → Int32}
theorem m_scr {R : Room} {args : Array Value} {H : Heap} {locs : List Loc} {cells slots : Nat} {Q : State → Prop} {cc : ByteArray} {pc j : Nat} {ls : Array Slot} {rest : List Value} {A : Nat → Prop} (hx : p.tables.exec = Jvm.exec) (hb : c.code = cc) (hX : va_X b L xs s s.heap) (hbl : b < s.heap.size) (hbA : ¬ A b) (hS : va_S A s.heap H locs) (hj : j < L) (hL : L < 2 ^ 31) (hdg : decode cc pc = .ok (.iaload, 1))
    (kk : W p l e R s m args below meth c H locs cells slots Q (F0 m (pc + 1) ls (.int (xs j) :: rest))) : W p l e R s m args below meth c H locs cells slots Q (F0 m pc ls (.int (nI j) :: .ref b :: rest)) := by
  refine va_sld hx hb hX hbl hbA hS (vp_in_nI hj hL) hdg ?_
  rw [nI_clamp (by omega)]
  exact kk
set_option maxRecDepth 100000 in
set_option maxHeartbeats 4000000 in
theorem law_lot (C : CxL G p s m meth c b L xs) {N i : Nat} {Inv : Mem → Prop} (ho : H_lot N Inv) (hi : i + 7 ≤ L) (hend : ∀ (μ : Mem) (H : Heap) (locs : List Loc) (ls : Array Slot), Inv μ → Wk G s μ H locs → lv_has ls 4 [(0, .ref b), (1, .ref (G.2.1 0)), (2, .ref (G.2.1 7)), (3, .int (nI i))] → W p l e room_1 s m #[Value.ref b] below meth c H locs 85 1649 (lw_Z below #[Value.ref b] s) (F0 m 543 ls [])) : ∀ (μ : Mem) (H : Heap) (locs : List Loc) (ls : Array Slot), Inv μ → Wk G s μ H locs → lv_has ls 4 [(0, .ref b), (1, .ref (G.2.1 0)), (2, .ref (G.2.1 7)), (3, .int (nI i))] → W p l e room_1 s m #[Value.ref b] below meth c H locs 85 1649 (lw_Z below #[Value.ref b] s) (F0 m 100 ls []) := by
  obtain ⟨hx, hb, hr, hml, hown, hts, hlk, hK, hSt, hX, hbl, hbA, hL⟩ := id C
  intro μ H locs ls hI hw hl
  refine lv_aload_n hx hb d_Lw_100 rfl (lv_at hl 1 rfl) ?_
  refine lv_aload_n hx hb d_Lw_101 rfl (lv_at hl 0 rfl) ?_
  refine lv_iload_n hx hb d_Lw_102 rfl (lv_at hl 3 rfl) ?_
  refine lv_iconst (v := 1) hx hb d_Lw_103 (by decide) ?_
  refine lv_iadd hx hb d_Lw_104 ?_
  refine m_eqi (show nI i + 1 = nI (i + 1) from nI_add i 1) ?_
  refine m_scr (j := i + 1) hx hb hX hbl hbA hw.2.2 (by omega) (by omega) d_Lw_105 ?_
  refine lv_aload_n hx hb d_Lw_106 rfl (lv_at hl 0 rfl) ?_
  refine lv_iload_n hx hb d_Lw_107 rfl (lv_at hl 3 rfl) ?_
  refine lv_iconst (v := 2) hx hb d_Lw_108 (by decide) ?_
  refine lv_iadd hx hb d_Lw_109 ?_
  refine m_eqi (show nI i + 2 = nI (i + 2) from nI_add i 2) ?_
  refine m_scr (j := i + 2) hx hb hX hbl hbA hw.2.2 (by omega) (by omega) d_Lw_110 ?_
  refine lv_i2l hx hb d_Lw_111 rfl ?_
  refine lv_bipush (v := 32) hx hb d_Lw_112 (by decide) ?_
  refine lv_lshl hx hb d_Lw_114 rfl ?_
  refine lv_aload_n hx hb d_Lw_115 rfl (lv_at hl 0 rfl) ?_
  refine lv_iload_n hx hb d_Lw_116 rfl (lv_at hl 3 rfl) ?_
  refine lv_iconst (v := 3) hx hb d_Lw_117 (by decide) ?_
  refine lv_iadd hx hb d_Lw_118 ?_
  refine m_eqi (show nI i + 3 = nI (i + 3) from nI_add i 3) ?_
  refine m_scr (j := i + 3) hx hb hX hbl hbA hw.2.2 (by omega) (by omega) d_Lw_119 ?_
  refine lv_i2l hx hb d_Lw_120 rfl ?_
  refine lv_ldc2 (v := 4294967295) hx hb hown (hts _ (List.mem_cons_of_mem _ tw_629)) d_Lw_121 ?_
  refine lv_land hx hb d_Lw_124 ?_
  refine lv_lor hx hb d_Lw_125 ?_
  obtain ⟨r, μ1, μ2, q1, q2, hI2⟩ := ho (xs (i + 1)) (((xs (i + 2)).toInt64 <<< ((32 : Int32).toInt64 &&& 63)) ||| ((xs (i + 3)).toInt64 &&& (4294967295 : Int64))) μ hI
  refine m_call (r := some (.int r)) (μ1 := μ1) (va_runV (C := "RecipePlans") (As := [.int (xs (i + 1)), .long (((xs (i + 2)).toInt64 <<< ((32 : Int32).toInt64 &&& 63)) ||| ((xs (i + 3)).toInt64 &&& (4294967295 : Int64)))]) (rest := []) ⟨hx, hb, hml, hown, hts⟩ (c_RP_lot l G N (xs (i + 1)) (((xs (i + 2)).toInt64 <<< ((32 : Int32).toInt64 &&& 63)) ||| ((xs (i + 3)).toInt64 &&& (4294967295 : Int64))) μ q1 _) (cwV 2 hts (gdV tw_237 tw_238 tw_239 tw_34 tw_240) rfl rfl rfl (by decide +kernel) ⟨Nat.le_of_ble_eq_true rfl, Nat.le_of_ble_eq_true rfl⟩) (m_preV (k := 0) (by decide) rfl hK hSt hw) rfl rfl hl.1 rfl (lv_room (Nat.le_of_ble_eq_true rfl)) d_Lw_126 ⟨Nat.le_of_ble_eq_true rfl, Nat.le_of_ble_eq_true rfl⟩) hw (fun H locs hw => ?_)
  refine lv_aload_n hx hb d_Lw_129 rfl (lv_at hl 2 rfl) ?_
  refine lv_aload_n hx hb d_Lw_130 rfl (lv_at hl 0 rfl) ?_
  refine lv_iload_n hx hb d_Lw_131 rfl (lv_at hl 3 rfl) ?_
  refine lv_iconst (v := 1) hx hb d_Lw_132 (by decide) ?_
  refine lv_iadd hx hb d_Lw_133 ?_
  refine m_eqi (show nI i + 1 = nI (i + 1) from nI_add i 1) ?_
  refine m_scr (j := i + 1) hx hb hX hbl hbA hw.2.2 (by omega) (by omega) d_Lw_134 ?_
  refine lv_aload_n hx hb d_Lw_135 rfl (lv_at hl 0 rfl) ?_
  refine lv_iload_n hx hb d_Lw_136 rfl (lv_at hl 3 rfl) ?_
  refine lv_iconst (v := 2) hx hb d_Lw_137 (by decide) ?_
  refine lv_iadd hx hb d_Lw_138 ?_
  refine m_eqi (show nI i + 2 = nI (i + 2) from nI_add i 2) ?_
  refine m_scr (j := i + 2) hx hb hX hbl hbA hw.2.2 (by omega) (by omega) d_Lw_139 ?_
  refine lv_i2l hx hb d_Lw_140 rfl ?_
  refine lv_bipush (v := 32) hx hb d_Lw_141 (by decide) ?_
  refine lv_lshl hx hb d_Lw_143 rfl ?_
  refine lv_aload_n hx hb d_Lw_144 rfl (lv_at hl 0 rfl) ?_
  refine lv_iload_n hx hb d_Lw_145 rfl (lv_at hl 3 rfl) ?_
  refine lv_iconst (v := 3) hx hb d_Lw_146 (by decide) ?_
  refine lv_iadd hx hb d_Lw_147 ?_
  refine m_eqi (show nI i + 3 = nI (i + 3) from nI_add i 3) ?_
  refine m_scr (j := i + 3) hx hb hX hbl hbA hw.2.2 (by omega) (by omega) d_Lw_148 ?_
  refine lv_i2l hx hb d_Lw_149 rfl ?_
  refine lv_ldc2 (v := 4294967295) hx hb hown (hts _ (List.mem_cons_of_mem _ tw_629)) d_Lw_150 ?_
  refine lv_land hx hb d_Lw_153 ?_
  refine lv_lor hx hb d_Lw_154 ?_
  refine m_call (r := some (.int r)) (μ1 := μ2) (va_runV (C := "RecipePlansModel") (As := [.int (xs (i + 1)), .long (((xs (i + 2)).toInt64 <<< ((32 : Int32).toInt64 &&& 63)) ||| ((xs (i + 3)).toInt64 &&& (4294967295 : Int64)))]) (rest := [.int r]) ⟨hx, hb, hml, hown, hts⟩ (c_Mo_lot l G N (xs (i + 1)) (((xs (i + 2)).toInt64 <<< ((32 : Int32).toInt64 &&& 63)) ||| ((xs (i + 3)).toInt64 &&& (4294967295 : Int64))) μ1 q2 _) (cwV 2 hts (gdV tw_501 tw_502 tw_503 tw_41 tw_504) rfl rfl rfl (by decide +kernel) ⟨Nat.le_of_ble_eq_true rfl, Nat.le_of_ble_eq_true rfl⟩) (m_preV (k := 7) (by decide) rfl hK hSt hw) rfl rfl hl.1 rfl (lv_room (Nat.le_of_ble_eq_true rfl)) d_Lw_155 ⟨Nat.le_of_ble_eq_true rfl, Nat.le_of_ble_eq_true rfl⟩) hw (fun H locs hw => ?_)
  refine lv_icmp_eq (tgt := 543) hx hb d_Lw_158 (by decide) (fun c9 => ?_) (fun c9 => ?_)
  · exact hend μ2 _ _ _ hI2 hw hl
  · exact absurd rfl c9
set_option maxRecDepth 100000 in
set_option maxHeartbeats 4000000 in
theorem law_amount (C : CxL G p s m meth c b L xs) {N i : Nat} {Inv : Mem → Prop} (ho : H_amount N Inv) (hi : i + 7 ≤ L) (hend : ∀ (μ : Mem) (H : Heap) (locs : List Loc) (ls : Array Slot), Inv μ → Wk G s μ H locs → lv_has ls 4 [(0, .ref b), (1, .ref (G.2.1 0)), (2, .ref (G.2.1 7)), (3, .int (nI i))] → W p l e room_1 s m #[Value.ref b] below meth c H locs 85 1649 (lw_Z below #[Value.ref b] s) (F0 m 543 ls [])) : ∀ (μ : Mem) (H : Heap) (locs : List Loc) (ls : Array Slot), Inv μ → Wk G s μ H locs → lv_has ls 4 [(0, .ref b), (1, .ref (G.2.1 0)), (2, .ref (G.2.1 7)), (3, .int (nI i))] → W p l e room_1 s m #[Value.ref b] below meth c H locs 85 1649 (lw_Z below #[Value.ref b] s) (F0 m 163 ls []) := by
  obtain ⟨hx, hb, hr, hml, hown, hts, hlk, hK, hSt, hX, hbl, hbA, hL⟩ := id C
  intro μ H locs ls hI hw hl
  refine lv_aload_n hx hb d_Lw_163 rfl (lv_at hl 1 rfl) ?_
  refine lv_aload_n hx hb d_Lw_164 rfl (lv_at hl 0 rfl) ?_
  refine lv_iload_n hx hb d_Lw_165 rfl (lv_at hl 3 rfl) ?_
  refine lv_iconst (v := 1) hx hb d_Lw_166 (by decide) ?_
  refine lv_iadd hx hb d_Lw_167 ?_
  refine m_eqi (show nI i + 1 = nI (i + 1) from nI_add i 1) ?_
  refine m_scr (j := i + 1) hx hb hX hbl hbA hw.2.2 (by omega) (by omega) d_Lw_168 ?_
  refine lv_aload_n hx hb d_Lw_169 rfl (lv_at hl 0 rfl) ?_
  refine lv_iload_n hx hb d_Lw_170 rfl (lv_at hl 3 rfl) ?_
  refine lv_iconst (v := 2) hx hb d_Lw_171 (by decide) ?_
  refine lv_iadd hx hb d_Lw_172 ?_
  refine m_eqi (show nI i + 2 = nI (i + 2) from nI_add i 2) ?_
  refine m_scr (j := i + 2) hx hb hX hbl hbA hw.2.2 (by omega) (by omega) d_Lw_173 ?_
  refine lv_aload_n hx hb d_Lw_174 rfl (lv_at hl 0 rfl) ?_
  refine lv_iload_n hx hb d_Lw_175 rfl (lv_at hl 3 rfl) ?_
  refine lv_iconst (v := 3) hx hb d_Lw_176 (by decide) ?_
  refine lv_iadd hx hb d_Lw_177 ?_
  refine m_eqi (show nI i + 3 = nI (i + 3) from nI_add i 3) ?_
  refine m_scr (j := i + 3) hx hb hX hbl hbA hw.2.2 (by omega) (by omega) d_Lw_178 ?_
  obtain ⟨r, μ1, μ2, q1, q2, hI2⟩ := ho (xs (i + 1)) (xs (i + 2)) (xs (i + 3)) μ hI
  refine m_call (r := some (.int r)) (μ1 := μ1) (va_runV (C := "RecipePlans") (As := [.int (xs (i + 1)), .int (xs (i + 2)), .int (xs (i + 3))]) (rest := []) ⟨hx, hb, hml, hown, hts⟩ (c_RP_amount l G N (xs (i + 1)) (xs (i + 2)) (xs (i + 3)) μ q1 _) (cwV 3 hts (gdV tw_247 tw_248 tw_249 tw_34 tw_250) rfl rfl rfl (by decide +kernel) ⟨Nat.le_of_ble_eq_true rfl, Nat.le_of_ble_eq_true rfl⟩) (m_preV (k := 0) (by decide) rfl hK hSt hw) rfl rfl hl.1 rfl (lv_room (Nat.le_of_ble_eq_true rfl)) d_Lw_179 ⟨Nat.le_of_ble_eq_true rfl, Nat.le_of_ble_eq_true rfl⟩) hw (fun H locs hw => ?_)
  refine lv_aload_n hx hb d_Lw_182 rfl (lv_at hl 2 rfl) ?_
  refine lv_aload_n hx hb d_Lw_183 rfl (lv_at hl 0 rfl) ?_
  refine lv_iload_n hx hb d_Lw_184 rfl (lv_at hl 3 rfl) ?_
  refine lv_iconst (v := 1) hx hb d_Lw_185 (by decide) ?_
  refine lv_iadd hx hb d_Lw_186 ?_
  refine m_eqi (show nI i + 1 = nI (i + 1) from nI_add i 1) ?_
  refine m_scr (j := i + 1) hx hb hX hbl hbA hw.2.2 (by omega) (by omega) d_Lw_187 ?_
  refine lv_aload_n hx hb d_Lw_188 rfl (lv_at hl 0 rfl) ?_
  refine lv_iload_n hx hb d_Lw_189 rfl (lv_at hl 3 rfl) ?_
  refine lv_iconst (v := 2) hx hb d_Lw_190 (by decide) ?_
  refine lv_iadd hx hb d_Lw_191 ?_
  refine m_eqi (show nI i + 2 = nI (i + 2) from nI_add i 2) ?_
  refine m_scr (j := i + 2) hx hb hX hbl hbA hw.2.2 (by omega) (by omega) d_Lw_192 ?_
  refine lv_aload_n hx hb d_Lw_193 rfl (lv_at hl 0 rfl) ?_
  refine lv_iload_n hx hb d_Lw_194 rfl (lv_at hl 3 rfl) ?_
  refine lv_iconst (v := 3) hx hb d_Lw_195 (by decide) ?_
  refine lv_iadd hx hb d_Lw_196 ?_
  refine m_eqi (show nI i + 3 = nI (i + 3) from nI_add i 3) ?_
  refine m_scr (j := i + 3) hx hb hX hbl hbA hw.2.2 (by omega) (by omega) d_Lw_197 ?_
  refine m_call (r := some (.int r)) (μ1 := μ2) (va_runV (C := "RecipePlansModel") (As := [.int (xs (i + 1)), .int (xs (i + 2)), .int (xs (i + 3))]) (rest := [.int r]) ⟨hx, hb, hml, hown, hts⟩ (c_Mo_amount l G N (xs (i + 1)) (xs (i + 2)) (xs (i + 3)) μ1 q2 _) (cwV 3 hts (gdV tw_511 tw_512 tw_513 tw_41 tw_514) rfl rfl rfl (by decide +kernel) ⟨Nat.le_of_ble_eq_true rfl, Nat.le_of_ble_eq_true rfl⟩) (m_preV (k := 7) (by decide) rfl hK hSt hw) rfl rfl hl.1 rfl (lv_room (Nat.le_of_ble_eq_true rfl)) d_Lw_198 ⟨Nat.le_of_ble_eq_true rfl, Nat.le_of_ble_eq_true rfl⟩) hw (fun H locs hw => ?_)
  refine lv_icmp_eq (tgt := 543) hx hb d_Lw_201 (by decide) (fun c9 => ?_) (fun c9 => ?_)
  · exact hend μ2 _ _ _ hI2 hw hl
  · exact absurd rfl c9
set_option maxRecDepth 100000 in
set_option maxHeartbeats 4000000 in
theorem law_span (C : CxL G p s m meth c b L xs) {N i : Nat} {Inv : Mem → Prop} (ho : H_span N Inv) (hi : i + 7 ≤ L) (hend : ∀ (μ : Mem) (H : Heap) (locs : List Loc) (ls : Array Slot), Inv μ → Wk G s μ H locs → lv_has ls 4 [(0, .ref b), (1, .ref (G.2.1 0)), (2, .ref (G.2.1 7)), (3, .int (nI i))] → W p l e room_1 s m #[Value.ref b] below meth c H locs 85 1649 (lw_Z below #[Value.ref b] s) (F0 m 543 ls [])) : ∀ (μ : Mem) (H : Heap) (locs : List Loc) (ls : Array Slot), Inv μ → Wk G s μ H locs → lv_has ls 4 [(0, .ref b), (1, .ref (G.2.1 0)), (2, .ref (G.2.1 7)), (3, .int (nI i))] → W p l e room_1 s m #[Value.ref b] below meth c H locs 85 1649 (lw_Z below #[Value.ref b] s) (F0 m 206 ls []) := by
  obtain ⟨hx, hb, hr, hml, hown, hts, hlk, hK, hSt, hX, hbl, hbA, hL⟩ := id C
  intro μ H locs ls hI hw hl
  refine lv_aload_n hx hb d_Lw_206 rfl (lv_at hl 1 rfl) ?_
  refine lv_aload_n hx hb d_Lw_207 rfl (lv_at hl 0 rfl) ?_
  refine lv_iload_n hx hb d_Lw_208 rfl (lv_at hl 3 rfl) ?_
  refine lv_iconst (v := 1) hx hb d_Lw_209 (by decide) ?_
  refine lv_iadd hx hb d_Lw_210 ?_
  refine m_eqi (show nI i + 1 = nI (i + 1) from nI_add i 1) ?_
  refine m_scr (j := i + 1) hx hb hX hbl hbA hw.2.2 (by omega) (by omega) d_Lw_211 ?_
  refine lv_aload_n hx hb d_Lw_212 rfl (lv_at hl 0 rfl) ?_
  refine lv_iload_n hx hb d_Lw_213 rfl (lv_at hl 3 rfl) ?_
  refine lv_iconst (v := 2) hx hb d_Lw_214 (by decide) ?_
  refine lv_iadd hx hb d_Lw_215 ?_
  refine m_eqi (show nI i + 2 = nI (i + 2) from nI_add i 2) ?_
  refine m_scr (j := i + 2) hx hb hX hbl hbA hw.2.2 (by omega) (by omega) d_Lw_216 ?_
  refine lv_aload_n hx hb d_Lw_217 rfl (lv_at hl 0 rfl) ?_
  refine lv_iload_n hx hb d_Lw_218 rfl (lv_at hl 3 rfl) ?_
  refine lv_iconst (v := 3) hx hb d_Lw_219 (by decide) ?_
  refine lv_iadd hx hb d_Lw_220 ?_
  refine m_eqi (show nI i + 3 = nI (i + 3) from nI_add i 3) ?_
  refine m_scr (j := i + 3) hx hb hX hbl hbA hw.2.2 (by omega) (by omega) d_Lw_221 ?_
  obtain ⟨r, μ1, μ2, q1, q2, hI2⟩ := ho (xs (i + 1)) (xs (i + 2)) (xs (i + 3)) μ hI
  refine m_call (r := some (.int r)) (μ1 := μ1) (va_runV (C := "RecipePlans") (As := [.int (xs (i + 1)), .int (xs (i + 2)), .int (xs (i + 3))]) (rest := []) ⟨hx, hb, hml, hown, hts⟩ (c_RP_span l G N (xs (i + 1)) (xs (i + 2)) (xs (i + 3)) μ q1 _) (cwV 3 hts (gdV tw_257 tw_258 tw_259 tw_34 tw_260) rfl rfl rfl (by decide +kernel) ⟨Nat.le_of_ble_eq_true rfl, Nat.le_of_ble_eq_true rfl⟩) (m_preV (k := 0) (by decide) rfl hK hSt hw) rfl rfl hl.1 rfl (lv_room (Nat.le_of_ble_eq_true rfl)) d_Lw_222 ⟨Nat.le_of_ble_eq_true rfl, Nat.le_of_ble_eq_true rfl⟩) hw (fun H locs hw => ?_)
  refine lv_aload_n hx hb d_Lw_225 rfl (lv_at hl 2 rfl) ?_
  refine lv_aload_n hx hb d_Lw_226 rfl (lv_at hl 0 rfl) ?_
  refine lv_iload_n hx hb d_Lw_227 rfl (lv_at hl 3 rfl) ?_
  refine lv_iconst (v := 1) hx hb d_Lw_228 (by decide) ?_
  refine lv_iadd hx hb d_Lw_229 ?_
  refine m_eqi (show nI i + 1 = nI (i + 1) from nI_add i 1) ?_
  refine m_scr (j := i + 1) hx hb hX hbl hbA hw.2.2 (by omega) (by omega) d_Lw_230 ?_
  refine lv_aload_n hx hb d_Lw_231 rfl (lv_at hl 0 rfl) ?_
  refine lv_iload_n hx hb d_Lw_232 rfl (lv_at hl 3 rfl) ?_
  refine lv_iconst (v := 2) hx hb d_Lw_233 (by decide) ?_
  refine lv_iadd hx hb d_Lw_234 ?_
  refine m_eqi (show nI i + 2 = nI (i + 2) from nI_add i 2) ?_
  refine m_scr (j := i + 2) hx hb hX hbl hbA hw.2.2 (by omega) (by omega) d_Lw_235 ?_
  refine lv_aload_n hx hb d_Lw_236 rfl (lv_at hl 0 rfl) ?_
  refine lv_iload_n hx hb d_Lw_237 rfl (lv_at hl 3 rfl) ?_
  refine lv_iconst (v := 3) hx hb d_Lw_238 (by decide) ?_
  refine lv_iadd hx hb d_Lw_239 ?_
  refine m_eqi (show nI i + 3 = nI (i + 3) from nI_add i 3) ?_
  refine m_scr (j := i + 3) hx hb hX hbl hbA hw.2.2 (by omega) (by omega) d_Lw_240 ?_
  refine m_call (r := some (.int r)) (μ1 := μ2) (va_runV (C := "RecipePlansModel") (As := [.int (xs (i + 1)), .int (xs (i + 2)), .int (xs (i + 3))]) (rest := [.int r]) ⟨hx, hb, hml, hown, hts⟩ (c_Mo_span l G N (xs (i + 1)) (xs (i + 2)) (xs (i + 3)) μ1 q2 _) (cwV 3 hts (gdV tw_520 tw_521 tw_522 tw_41 tw_523) rfl rfl rfl (by decide +kernel) ⟨Nat.le_of_ble_eq_true rfl, Nat.le_of_ble_eq_true rfl⟩) (m_preV (k := 7) (by decide) rfl hK hSt hw) rfl rfl hl.1 rfl (lv_room (Nat.le_of_ble_eq_true rfl)) d_Lw_241 ⟨Nat.le_of_ble_eq_true rfl, Nat.le_of_ble_eq_true rfl⟩) hw (fun H locs hw => ?_)
  refine lv_icmp_eq (tgt := 543) hx hb d_Lw_244 (by decide) (fun c9 => ?_) (fun c9 => ?_)
  · exact hend μ2 _ _ _ hI2 hw hl
  · exact absurd rfl c9
set_option maxRecDepth 100000 in
set_option maxHeartbeats 4000000 in
theorem law_ratio (C : CxL G p s m meth c b L xs) {N i : Nat} {Inv : Mem → Prop} (ho : H_ratio N Inv) (hi : i + 7 ≤ L) (hend : ∀ (μ : Mem) (H : Heap) (locs : List Loc) (ls : Array Slot), Inv μ → Wk G s μ H locs → lv_has ls 4 [(0, .ref b), (1, .ref (G.2.1 0)), (2, .ref (G.2.1 7)), (3, .int (nI i))] → W p l e room_1 s m #[Value.ref b] below meth c H locs 85 1649 (lw_Z below #[Value.ref b] s) (F0 m 543 ls [])) : ∀ (μ : Mem) (H : Heap) (locs : List Loc) (ls : Array Slot), Inv μ → Wk G s μ H locs → lv_has ls 4 [(0, .ref b), (1, .ref (G.2.1 0)), (2, .ref (G.2.1 7)), (3, .int (nI i))] → W p l e room_1 s m #[Value.ref b] below meth c H locs 85 1649 (lw_Z below #[Value.ref b] s) (F0 m 249 ls []) := by
  obtain ⟨hx, hb, hr, hml, hown, hts, hlk, hK, hSt, hX, hbl, hbA, hL⟩ := id C
  intro μ H locs ls hI hw hl
  refine lv_aload_n hx hb d_Lw_249 rfl (lv_at hl 1 rfl) ?_
  refine lv_aload_n hx hb d_Lw_250 rfl (lv_at hl 0 rfl) ?_
  refine lv_iload_n hx hb d_Lw_251 rfl (lv_at hl 3 rfl) ?_
  refine lv_iconst (v := 1) hx hb d_Lw_252 (by decide) ?_
  refine lv_iadd hx hb d_Lw_253 ?_
  refine m_eqi (show nI i + 1 = nI (i + 1) from nI_add i 1) ?_
  refine m_scr (j := i + 1) hx hb hX hbl hbA hw.2.2 (by omega) (by omega) d_Lw_254 ?_
  refine lv_aload_n hx hb d_Lw_255 rfl (lv_at hl 0 rfl) ?_
  refine lv_iload_n hx hb d_Lw_256 rfl (lv_at hl 3 rfl) ?_
  refine lv_iconst (v := 2) hx hb d_Lw_257 (by decide) ?_
  refine lv_iadd hx hb d_Lw_258 ?_
  refine m_eqi (show nI i + 2 = nI (i + 2) from nI_add i 2) ?_
  refine m_scr (j := i + 2) hx hb hX hbl hbA hw.2.2 (by omega) (by omega) d_Lw_259 ?_
  refine lv_aload_n hx hb d_Lw_260 rfl (lv_at hl 0 rfl) ?_
  refine lv_iload_n hx hb d_Lw_261 rfl (lv_at hl 3 rfl) ?_
  refine lv_iconst (v := 3) hx hb d_Lw_262 (by decide) ?_
  refine lv_iadd hx hb d_Lw_263 ?_
  refine m_eqi (show nI i + 3 = nI (i + 3) from nI_add i 3) ?_
  refine m_scr (j := i + 3) hx hb hX hbl hbA hw.2.2 (by omega) (by omega) d_Lw_264 ?_
  refine lv_aload_n hx hb d_Lw_265 rfl (lv_at hl 0 rfl) ?_
  refine lv_iload_n hx hb d_Lw_266 rfl (lv_at hl 3 rfl) ?_
  refine lv_iconst (v := 4) hx hb d_Lw_267 (by decide) ?_
  refine lv_iadd hx hb d_Lw_268 ?_
  refine m_eqi (show nI i + 4 = nI (i + 4) from nI_add i 4) ?_
  refine m_scr (j := i + 4) hx hb hX hbl hbA hw.2.2 (by omega) (by omega) d_Lw_269 ?_
  refine lv_aload_n hx hb d_Lw_270 rfl (lv_at hl 0 rfl) ?_
  refine lv_iload_n hx hb d_Lw_271 rfl (lv_at hl 3 rfl) ?_
  refine lv_iconst (v := 5) hx hb d_Lw_272 (by decide) ?_
  refine lv_iadd hx hb d_Lw_273 ?_
  refine m_eqi (show nI i + 5 = nI (i + 5) from nI_add i 5) ?_
  refine m_scr (j := i + 5) hx hb hX hbl hbA hw.2.2 (by omega) (by omega) d_Lw_274 ?_
  refine lv_aload_n hx hb d_Lw_275 rfl (lv_at hl 0 rfl) ?_
  refine lv_iload_n hx hb d_Lw_276 rfl (lv_at hl 3 rfl) ?_
  refine lv_bipush (v := 6) hx hb d_Lw_277 (by decide) ?_
  refine lv_iadd hx hb d_Lw_279 ?_
  refine m_eqi (show nI i + 6 = nI (i + 6) from nI_add i 6) ?_
  refine m_scr (j := i + 6) hx hb hX hbl hbA hw.2.2 (by omega) (by omega) d_Lw_280 ?_
  obtain ⟨r, μ1, μ2, q1, q2, hI2⟩ := ho (xs (i + 1)) (xs (i + 2)) (xs (i + 3)) (xs (i + 4)) (xs (i + 5)) (xs (i + 6)) μ hI
  refine m_call (r := some (.int r)) (μ1 := μ1) (va_runV (C := "RecipePlans") (As := [.int (xs (i + 1)), .int (xs (i + 2)), .int (xs (i + 3)), .int (xs (i + 4)), .int (xs (i + 5)), .int (xs (i + 6))]) (rest := []) ⟨hx, hb, hml, hown, hts⟩ (c_RP_ratio l G N (xs (i + 1)) (xs (i + 2)) (xs (i + 3)) (xs (i + 4)) (xs (i + 5)) (xs (i + 6)) μ q1 _) (cwV 6 hts (gdV tw_270 tw_271 tw_272 tw_34 tw_273) rfl rfl rfl (by decide +kernel) ⟨Nat.le_of_ble_eq_true rfl, Nat.le_of_ble_eq_true rfl⟩) (m_preV (k := 0) (by decide) rfl hK hSt hw) rfl rfl hl.1 rfl (lv_room (Nat.le_of_ble_eq_true rfl)) d_Lw_281 ⟨Nat.le_of_ble_eq_true rfl, Nat.le_of_ble_eq_true rfl⟩) hw (fun H locs hw => ?_)
  refine lv_aload_n hx hb d_Lw_284 rfl (lv_at hl 2 rfl) ?_
  refine lv_aload_n hx hb d_Lw_285 rfl (lv_at hl 0 rfl) ?_
  refine lv_iload_n hx hb d_Lw_286 rfl (lv_at hl 3 rfl) ?_
  refine lv_iconst (v := 1) hx hb d_Lw_287 (by decide) ?_
  refine lv_iadd hx hb d_Lw_288 ?_
  refine m_eqi (show nI i + 1 = nI (i + 1) from nI_add i 1) ?_
  refine m_scr (j := i + 1) hx hb hX hbl hbA hw.2.2 (by omega) (by omega) d_Lw_289 ?_
  refine lv_aload_n hx hb d_Lw_290 rfl (lv_at hl 0 rfl) ?_
  refine lv_iload_n hx hb d_Lw_291 rfl (lv_at hl 3 rfl) ?_
  refine lv_iconst (v := 2) hx hb d_Lw_292 (by decide) ?_
  refine lv_iadd hx hb d_Lw_293 ?_
  refine m_eqi (show nI i + 2 = nI (i + 2) from nI_add i 2) ?_
  refine m_scr (j := i + 2) hx hb hX hbl hbA hw.2.2 (by omega) (by omega) d_Lw_294 ?_
  refine lv_aload_n hx hb d_Lw_295 rfl (lv_at hl 0 rfl) ?_
  refine lv_iload_n hx hb d_Lw_296 rfl (lv_at hl 3 rfl) ?_
  refine lv_iconst (v := 3) hx hb d_Lw_297 (by decide) ?_
  refine lv_iadd hx hb d_Lw_298 ?_
  refine m_eqi (show nI i + 3 = nI (i + 3) from nI_add i 3) ?_
  refine m_scr (j := i + 3) hx hb hX hbl hbA hw.2.2 (by omega) (by omega) d_Lw_299 ?_
  refine lv_aload_n hx hb d_Lw_300 rfl (lv_at hl 0 rfl) ?_
  refine lv_iload_n hx hb d_Lw_301 rfl (lv_at hl 3 rfl) ?_
  refine lv_iconst (v := 4) hx hb d_Lw_302 (by decide) ?_
  refine lv_iadd hx hb d_Lw_303 ?_
  refine m_eqi (show nI i + 4 = nI (i + 4) from nI_add i 4) ?_
  refine m_scr (j := i + 4) hx hb hX hbl hbA hw.2.2 (by omega) (by omega) d_Lw_304 ?_
  refine lv_aload_n hx hb d_Lw_305 rfl (lv_at hl 0 rfl) ?_
  refine lv_iload_n hx hb d_Lw_306 rfl (lv_at hl 3 rfl) ?_
  refine lv_iconst (v := 5) hx hb d_Lw_307 (by decide) ?_
  refine lv_iadd hx hb d_Lw_308 ?_
  refine m_eqi (show nI i + 5 = nI (i + 5) from nI_add i 5) ?_
  refine m_scr (j := i + 5) hx hb hX hbl hbA hw.2.2 (by omega) (by omega) d_Lw_309 ?_
  refine lv_aload_n hx hb d_Lw_310 rfl (lv_at hl 0 rfl) ?_
  refine lv_iload_n hx hb d_Lw_311 rfl (lv_at hl 3 rfl) ?_
  refine lv_bipush (v := 6) hx hb d_Lw_312 (by decide) ?_
  refine lv_iadd hx hb d_Lw_314 ?_
  refine m_eqi (show nI i + 6 = nI (i + 6) from nI_add i 6) ?_
  refine m_scr (j := i + 6) hx hb hX hbl hbA hw.2.2 (by omega) (by omega) d_Lw_315 ?_
  refine m_call (r := some (.int r)) (μ1 := μ2) (va_runV (C := "RecipePlansModel") (As := [.int (xs (i + 1)), .int (xs (i + 2)), .int (xs (i + 3)), .int (xs (i + 4)), .int (xs (i + 5)), .int (xs (i + 6))]) (rest := [.int r]) ⟨hx, hb, hml, hown, hts⟩ (c_Mo_ratio l G N (xs (i + 1)) (xs (i + 2)) (xs (i + 3)) (xs (i + 4)) (xs (i + 5)) (xs (i + 6)) μ1 q2 _) (cwV 6 hts (gdV tw_529 tw_530 tw_531 tw_41 tw_532) rfl rfl rfl (by decide +kernel) ⟨Nat.le_of_ble_eq_true rfl, Nat.le_of_ble_eq_true rfl⟩) (m_preV (k := 7) (by decide) rfl hK hSt hw) rfl rfl hl.1 rfl (lv_room (Nat.le_of_ble_eq_true rfl)) d_Lw_316 ⟨Nat.le_of_ble_eq_true rfl, Nat.le_of_ble_eq_true rfl⟩) hw (fun H locs hw => ?_)
  refine lv_icmp_eq (tgt := 543) hx hb d_Lw_319 (by decide) (fun c9 => ?_) (fun c9 => ?_)
  · exact hend μ2 _ _ _ hI2 hw hl
  · exact absurd rfl c9
set_option maxRecDepth 100000 in
set_option maxHeartbeats 4000000 in
theorem law_loads (C : CxL G p s m meth c b L xs) {N i : Nat} {Inv : Mem → Prop} (ho : H_loads N Inv) (hi : i + 7 ≤ L) (hend : ∀ (μ : Mem) (H : Heap) (locs : List Loc) (ls : Array Slot), Inv μ → Wk G s μ H locs → lv_has ls 4 [(0, .ref b), (1, .ref (G.2.1 0)), (2, .ref (G.2.1 7)), (3, .int (nI i))] → W p l e room_1 s m #[Value.ref b] below meth c H locs 85 1649 (lw_Z below #[Value.ref b] s) (F0 m 543 ls [])) : ∀ (μ : Mem) (H : Heap) (locs : List Loc) (ls : Array Slot), Inv μ → Wk G s μ H locs → lv_has ls 4 [(0, .ref b), (1, .ref (G.2.1 0)), (2, .ref (G.2.1 7)), (3, .int (nI i))] → W p l e room_1 s m #[Value.ref b] below meth c H locs 85 1649 (lw_Z below #[Value.ref b] s) (F0 m 324 ls []) := by
  obtain ⟨hx, hb, hr, hml, hown, hts, hlk, hK, hSt, hX, hbl, hbA, hL⟩ := id C
  intro μ H locs ls hI hw hl
  refine lv_aload_n hx hb d_Lw_324 rfl (lv_at hl 1 rfl) ?_
  refine lv_aload_n hx hb d_Lw_325 rfl (lv_at hl 0 rfl) ?_
  refine lv_iload_n hx hb d_Lw_326 rfl (lv_at hl 3 rfl) ?_
  refine lv_iconst (v := 1) hx hb d_Lw_327 (by decide) ?_
  refine lv_iadd hx hb d_Lw_328 ?_
  refine m_eqi (show nI i + 1 = nI (i + 1) from nI_add i 1) ?_
  refine m_scr (j := i + 1) hx hb hX hbl hbA hw.2.2 (by omega) (by omega) d_Lw_329 ?_
  refine lv_aload_n hx hb d_Lw_330 rfl (lv_at hl 0 rfl) ?_
  refine lv_iload_n hx hb d_Lw_331 rfl (lv_at hl 3 rfl) ?_
  refine lv_iconst (v := 2) hx hb d_Lw_332 (by decide) ?_
  refine lv_iadd hx hb d_Lw_333 ?_
  refine m_eqi (show nI i + 2 = nI (i + 2) from nI_add i 2) ?_
  refine m_scr (j := i + 2) hx hb hX hbl hbA hw.2.2 (by omega) (by omega) d_Lw_334 ?_
  obtain ⟨r, μ1, μ2, q1, q2, hI2⟩ := ho (xs (i + 1)) (xs (i + 2)) μ hI
  refine m_call (r := some (.int r)) (μ1 := μ1) (va_runV (C := "RecipePlans") (As := [.int (xs (i + 1)), .int (xs (i + 2))]) (rest := []) ⟨hx, hb, hml, hown, hts⟩ (c_RP_loads l G N (xs (i + 1)) (xs (i + 2)) μ q1 _) (cwV 2 hts (gdV tw_274 tw_275 tw_276 tw_34 tw_277) rfl rfl rfl (by decide +kernel) ⟨Nat.le_of_ble_eq_true rfl, Nat.le_of_ble_eq_true rfl⟩) (m_preV (k := 0) (by decide) rfl hK hSt hw) rfl rfl hl.1 rfl (lv_room (Nat.le_of_ble_eq_true rfl)) d_Lw_335 ⟨Nat.le_of_ble_eq_true rfl, Nat.le_of_ble_eq_true rfl⟩) hw (fun H locs hw => ?_)
  refine lv_aload_n hx hb d_Lw_338 rfl (lv_at hl 2 rfl) ?_
  refine lv_aload_n hx hb d_Lw_339 rfl (lv_at hl 0 rfl) ?_
  refine lv_iload_n hx hb d_Lw_340 rfl (lv_at hl 3 rfl) ?_
  refine lv_iconst (v := 1) hx hb d_Lw_341 (by decide) ?_
  refine lv_iadd hx hb d_Lw_342 ?_
  refine m_eqi (show nI i + 1 = nI (i + 1) from nI_add i 1) ?_
  refine m_scr (j := i + 1) hx hb hX hbl hbA hw.2.2 (by omega) (by omega) d_Lw_343 ?_
  refine lv_aload_n hx hb d_Lw_344 rfl (lv_at hl 0 rfl) ?_
  refine lv_iload_n hx hb d_Lw_345 rfl (lv_at hl 3 rfl) ?_
  refine lv_iconst (v := 2) hx hb d_Lw_346 (by decide) ?_
  refine lv_iadd hx hb d_Lw_347 ?_
  refine m_eqi (show nI i + 2 = nI (i + 2) from nI_add i 2) ?_
  refine m_scr (j := i + 2) hx hb hX hbl hbA hw.2.2 (by omega) (by omega) d_Lw_348 ?_
  refine m_call (r := some (.int r)) (μ1 := μ2) (va_runV (C := "RecipePlansModel") (As := [.int (xs (i + 1)), .int (xs (i + 2))]) (rest := [.int r]) ⟨hx, hb, hml, hown, hts⟩ (c_Mo_loads l G N (xs (i + 1)) (xs (i + 2)) μ1 q2 _) (cwV 2 hts (gdV tw_533 tw_534 tw_535 tw_41 tw_536) rfl rfl rfl (by decide +kernel) ⟨Nat.le_of_ble_eq_true rfl, Nat.le_of_ble_eq_true rfl⟩) (m_preV (k := 7) (by decide) rfl hK hSt hw) rfl rfl hl.1 rfl (lv_room (Nat.le_of_ble_eq_true rfl)) d_Lw_349 ⟨Nat.le_of_ble_eq_true rfl, Nat.le_of_ble_eq_true rfl⟩) hw (fun H locs hw => ?_)
  refine lv_icmp_eq (tgt := 543) hx hb d_Lw_352 (by decide) (fun c9 => ?_) (fun c9 => ?_)
  · exact hend μ2 _ _ _ hI2 hw hl
  · exact absurd rfl c9
set_option maxRecDepth 100000 in
set_option maxHeartbeats 4000000 in
theorem law_untell (C : CxL G p s m meth c b L xs) {N i : Nat} {Inv : Mem → Prop} (ho : H_untell N Inv) (hi : i + 7 ≤ L) (hend : ∀ (μ : Mem) (H : Heap) (locs : List Loc) (ls : Array Slot), Inv μ → Wk G s μ H locs → lv_has ls 4 [(0, .ref b), (1, .ref (G.2.1 0)), (2, .ref (G.2.1 7)), (3, .int (nI i))] → W p l e room_1 s m #[Value.ref b] below meth c H locs 85 1649 (lw_Z below #[Value.ref b] s) (F0 m 543 ls [])) : ∀ (μ : Mem) (H : Heap) (locs : List Loc) (ls : Array Slot), Inv μ → Wk G s μ H locs → lv_has ls 4 [(0, .ref b), (1, .ref (G.2.1 0)), (2, .ref (G.2.1 7)), (3, .int (nI i))] → W p l e room_1 s m #[Value.ref b] below meth c H locs 85 1649 (lw_Z below #[Value.ref b] s) (F0 m 357 ls []) := by
  obtain ⟨hx, hb, hr, hml, hown, hts, hlk, hK, hSt, hX, hbl, hbA, hL⟩ := id C
  intro μ H locs ls hI hw hl
  refine lv_aload_n hx hb d_Lw_357 rfl (lv_at hl 1 rfl) ?_
  refine lv_aload_n hx hb d_Lw_358 rfl (lv_at hl 0 rfl) ?_
  refine lv_iload_n hx hb d_Lw_359 rfl (lv_at hl 3 rfl) ?_
  refine lv_iconst (v := 1) hx hb d_Lw_360 (by decide) ?_
  refine lv_iadd hx hb d_Lw_361 ?_
  refine m_eqi (show nI i + 1 = nI (i + 1) from nI_add i 1) ?_
  refine m_scr (j := i + 1) hx hb hX hbl hbA hw.2.2 (by omega) (by omega) d_Lw_362 ?_
  obtain ⟨r, μ1, μ2, q1, q2, hI2⟩ := ho (xs (i + 1)) μ hI
  refine m_call (r := some (.int r)) (μ1 := μ1) (va_runV (C := "RecipePlans") (As := [.int (xs (i + 1))]) (rest := []) ⟨hx, hb, hml, hown, hts⟩ (c_RP_untell l G N (xs (i + 1)) μ q1 _) (cwV 1 hts (gdV tw_278 tw_279 tw_280 tw_34 tw_281) rfl rfl rfl (by decide +kernel) ⟨Nat.le_of_ble_eq_true rfl, Nat.le_of_ble_eq_true rfl⟩) (m_preV (k := 0) (by decide) rfl hK hSt hw) rfl rfl hl.1 rfl (lv_room (Nat.le_of_ble_eq_true rfl)) d_Lw_363 ⟨Nat.le_of_ble_eq_true rfl, Nat.le_of_ble_eq_true rfl⟩) hw (fun H locs hw => ?_)
  refine lv_aload_n hx hb d_Lw_366 rfl (lv_at hl 2 rfl) ?_
  refine lv_aload_n hx hb d_Lw_367 rfl (lv_at hl 0 rfl) ?_
  refine lv_iload_n hx hb d_Lw_368 rfl (lv_at hl 3 rfl) ?_
  refine lv_iconst (v := 1) hx hb d_Lw_369 (by decide) ?_
  refine lv_iadd hx hb d_Lw_370 ?_
  refine m_eqi (show nI i + 1 = nI (i + 1) from nI_add i 1) ?_
  refine m_scr (j := i + 1) hx hb hX hbl hbA hw.2.2 (by omega) (by omega) d_Lw_371 ?_
  refine m_call (r := some (.int r)) (μ1 := μ2) (va_runV (C := "RecipePlansModel") (As := [.int (xs (i + 1))]) (rest := [.int r]) ⟨hx, hb, hml, hown, hts⟩ (c_Mo_untell l G N (xs (i + 1)) μ1 q2 _) (cwV 1 hts (gdV tw_538 tw_539 tw_540 tw_41 tw_541) rfl rfl rfl (by decide +kernel) ⟨Nat.le_of_ble_eq_true rfl, Nat.le_of_ble_eq_true rfl⟩) (m_preV (k := 7) (by decide) rfl hK hSt hw) rfl rfl hl.1 rfl (lv_room (Nat.le_of_ble_eq_true rfl)) d_Lw_372 ⟨Nat.le_of_ble_eq_true rfl, Nat.le_of_ble_eq_true rfl⟩) hw (fun H locs hw => ?_)
  refine lv_icmp_eq (tgt := 543) hx hb d_Lw_375 (by decide) (fun c9 => ?_) (fun c9 => ?_)
  · exact hend μ2 _ _ _ hI2 hw hl
  · exact absurd rfl c9
set_option maxRecDepth 100000 in
set_option maxHeartbeats 4000000 in
theorem law_run (C : CxL G p s m meth c b L xs) {N i : Nat} {Inv : Mem → Prop} (ho : H_run N Inv) (hi : i + 7 ≤ L) (hend : ∀ (μ : Mem) (H : Heap) (locs : List Loc) (ls : Array Slot), Inv μ → Wk G s μ H locs → lv_has ls 4 [(0, .ref b), (1, .ref (G.2.1 0)), (2, .ref (G.2.1 7)), (3, .int (nI i))] → W p l e room_1 s m #[Value.ref b] below meth c H locs 85 1649 (lw_Z below #[Value.ref b] s) (F0 m 543 ls [])) : ∀ (μ : Mem) (H : Heap) (locs : List Loc) (ls : Array Slot), Inv μ → Wk G s μ H locs → lv_has ls 4 [(0, .ref b), (1, .ref (G.2.1 0)), (2, .ref (G.2.1 7)), (3, .int (nI i))] → W p l e room_1 s m #[Value.ref b] below meth c H locs 85 1649 (lw_Z below #[Value.ref b] s) (F0 m 380 ls []) := by
  obtain ⟨hx, hb, hr, hml, hown, hts, hlk, hK, hSt, hX, hbl, hbA, hL⟩ := id C
  intro μ H locs ls hI hw hl
  refine lv_aload_n hx hb d_Lw_380 rfl (lv_at hl 1 rfl) ?_
  obtain ⟨r, μ1, μ2, q1, q2, hI2⟩ := ho μ hI
  refine m_call (r := some (.int r)) (μ1 := μ1) (va_runV (C := "RecipePlans") (As := []) (rest := []) ⟨hx, hb, hml, hown, hts⟩ (c_RP_run l G N μ q1 _) (cwV 0 hts (gdV tw_289 tw_290 tw_291 tw_34 tw_292) rfl rfl rfl (by decide +kernel) ⟨Nat.le_of_ble_eq_true rfl, Nat.le_of_ble_eq_true rfl⟩) (m_preV (k := 0) (by decide) rfl hK hSt hw) rfl rfl hl.1 rfl (lv_room (Nat.le_of_ble_eq_true rfl)) d_Lw_381 ⟨Nat.le_of_ble_eq_true rfl, Nat.le_of_ble_eq_true rfl⟩) hw (fun H locs hw => ?_)
  refine lv_aload_n hx hb d_Lw_384 rfl (lv_at hl 2 rfl) ?_
  refine m_call (r := some (.int r)) (μ1 := μ2) (va_runV (C := "RecipePlansModel") (As := []) (rest := [.int r]) ⟨hx, hb, hml, hown, hts⟩ (c_Mo_run l G N μ1 q2 _) (cwV 0 hts (gdV tw_555 tw_556 tw_557 tw_41 tw_558) rfl rfl rfl (by decide +kernel) ⟨Nat.le_of_ble_eq_true rfl, Nat.le_of_ble_eq_true rfl⟩) (m_preV (k := 7) (by decide) rfl hK hSt hw) rfl rfl hl.1 rfl (lv_room (Nat.le_of_ble_eq_true rfl)) d_Lw_385 ⟨Nat.le_of_ble_eq_true rfl, Nat.le_of_ble_eq_true rfl⟩) hw (fun H locs hw => ?_)
  refine lv_icmp_eq (tgt := 543) hx hb d_Lw_388 (by decide) (fun c9 => ?_) (fun c9 => ?_)
  · exact hend μ2 _ _ _ hI2 hw hl
  · exact absurd rfl c9
set_option maxRecDepth 100000 in
set_option maxHeartbeats 4000000 in
theorem law_best (C : CxL G p s m meth c b L xs) {N i : Nat} {Inv : Mem → Prop} (ho : H_best N Inv) (hi : i + 7 ≤ L) (hend : ∀ (μ : Mem) (H : Heap) (locs : List Loc) (ls : Array Slot), Inv μ → Wk G s μ H locs → lv_has ls 4 [(0, .ref b), (1, .ref (G.2.1 0)), (2, .ref (G.2.1 7)), (3, .int (nI i))] → W p l e room_1 s m #[Value.ref b] below meth c H locs 85 1649 (lw_Z below #[Value.ref b] s) (F0 m 543 ls [])) : ∀ (μ : Mem) (H : Heap) (locs : List Loc) (ls : Array Slot), Inv μ → Wk G s μ H locs → lv_has ls 4 [(0, .ref b), (1, .ref (G.2.1 0)), (2, .ref (G.2.1 7)), (3, .int (nI i))] → W p l e room_1 s m #[Value.ref b] below meth c H locs 85 1649 (lw_Z below #[Value.ref b] s) (F0 m 393 ls []) := by
  obtain ⟨hx, hb, hr, hml, hown, hts, hlk, hK, hSt, hX, hbl, hbA, hL⟩ := id C
  intro μ H locs ls hI hw hl
  refine lv_aload_n hx hb d_Lw_393 rfl (lv_at hl 1 rfl) ?_
  refine lv_aload_n hx hb d_Lw_394 rfl (lv_at hl 0 rfl) ?_
  refine lv_iload_n hx hb d_Lw_395 rfl (lv_at hl 3 rfl) ?_
  refine lv_iconst (v := 1) hx hb d_Lw_396 (by decide) ?_
  refine lv_iadd hx hb d_Lw_397 ?_
  refine m_eqi (show nI i + 1 = nI (i + 1) from nI_add i 1) ?_
  refine m_scr (j := i + 1) hx hb hX hbl hbA hw.2.2 (by omega) (by omega) d_Lw_398 ?_
  obtain ⟨r, μ1, μ2, q1, q2, hI2⟩ := ho (xs (i + 1)) μ hI
  refine m_call (r := some (.int r)) (μ1 := μ1) (va_runV (C := "RecipePlans") (As := [.int (xs (i + 1))]) (rest := []) ⟨hx, hb, hml, hown, hts⟩ (c_RP_best l G N (xs (i + 1)) μ q1 _) (cwV 1 hts (gdV tw_418 tw_419 tw_420 tw_34 tw_421) rfl rfl rfl (by decide +kernel) ⟨Nat.le_of_ble_eq_true rfl, Nat.le_of_ble_eq_true rfl⟩) (m_preV (k := 0) (by decide) rfl hK hSt hw) rfl rfl hl.1 rfl (lv_room (Nat.le_of_ble_eq_true rfl)) d_Lw_399 ⟨Nat.le_of_ble_eq_true rfl, Nat.le_of_ble_eq_true rfl⟩) hw (fun H locs hw => ?_)
  refine lv_aload_n hx hb d_Lw_402 rfl (lv_at hl 2 rfl) ?_
  refine lv_aload_n hx hb d_Lw_403 rfl (lv_at hl 0 rfl) ?_
  refine lv_iload_n hx hb d_Lw_404 rfl (lv_at hl 3 rfl) ?_
  refine lv_iconst (v := 1) hx hb d_Lw_405 (by decide) ?_
  refine lv_iadd hx hb d_Lw_406 ?_
  refine m_eqi (show nI i + 1 = nI (i + 1) from nI_add i 1) ?_
  refine m_scr (j := i + 1) hx hb hX hbl hbA hw.2.2 (by omega) (by omega) d_Lw_407 ?_
  refine m_call (r := some (.int r)) (μ1 := μ2) (va_runV (C := "RecipePlansModel") (As := [.int (xs (i + 1))]) (rest := [.int r]) ⟨hx, hb, hml, hown, hts⟩ (c_Mo_best l G N (xs (i + 1)) μ1 q2 _) (cwV 1 hts (gdV tw_608 tw_609 tw_610 tw_41 tw_611) rfl rfl rfl (by decide +kernel) ⟨Nat.le_of_ble_eq_true rfl, Nat.le_of_ble_eq_true rfl⟩) (m_preV (k := 7) (by decide) rfl hK hSt hw) rfl rfl hl.1 rfl (lv_room (Nat.le_of_ble_eq_true rfl)) d_Lw_408 ⟨Nat.le_of_ble_eq_true rfl, Nat.le_of_ble_eq_true rfl⟩) hw (fun H locs hw => ?_)
  refine lv_icmp_eq (tgt := 543) hx hb d_Lw_411 (by decide) (fun c9 => ?_) (fun c9 => ?_)
  · exact hend μ2 _ _ _ hI2 hw hl
  · exact absurd rfl c9
set_option maxRecDepth 100000 in
set_option maxHeartbeats 4000000 in
theorem law_cost (C : CxL G p s m meth c b L xs) {N i : Nat} {Inv : Mem → Prop} (ho : H_cost N Inv) (hi : i + 7 ≤ L) (hend : ∀ (μ : Mem) (H : Heap) (locs : List Loc) (ls : Array Slot), Inv μ → Wk G s μ H locs → lv_has ls 4 [(0, .ref b), (1, .ref (G.2.1 0)), (2, .ref (G.2.1 7)), (3, .int (nI i))] → W p l e room_1 s m #[Value.ref b] below meth c H locs 85 1649 (lw_Z below #[Value.ref b] s) (F0 m 543 ls [])) : ∀ (μ : Mem) (H : Heap) (locs : List Loc) (ls : Array Slot), Inv μ → Wk G s μ H locs → lv_has ls 4 [(0, .ref b), (1, .ref (G.2.1 0)), (2, .ref (G.2.1 7)), (3, .int (nI i))] → W p l e room_1 s m #[Value.ref b] below meth c H locs 85 1649 (lw_Z below #[Value.ref b] s) (F0 m 416 ls []) := by
  obtain ⟨hx, hb, hr, hml, hown, hts, hlk, hK, hSt, hX, hbl, hbA, hL⟩ := id C
  intro μ H locs ls hI hw hl
  refine lv_aload_n hx hb d_Lw_416 rfl (lv_at hl 1 rfl) ?_
  obtain ⟨r, μ1, μ2, q1, q2, hI2⟩ := ho μ hI
  refine m_call (r := some (.long r)) (μ1 := μ1) (va_runV (C := "RecipePlans") (As := []) (rest := []) ⟨hx, hb, hml, hown, hts⟩ (c_RP_cost l G N μ q1 _) (cwV 0 hts (gdV tw_422 tw_423 tw_424 tw_34 tw_425) rfl rfl rfl (by decide +kernel) ⟨Nat.le_of_ble_eq_true rfl, Nat.le_of_ble_eq_true rfl⟩) (m_preV (k := 0) (by decide) rfl hK hSt hw) rfl rfl hl.1 rfl (lv_room (Nat.le_of_ble_eq_true rfl)) d_Lw_417 ⟨Nat.le_of_ble_eq_true rfl, Nat.le_of_ble_eq_true rfl⟩) hw (fun H locs hw => ?_)
  refine lv_aload_n hx hb d_Lw_420 rfl (lv_at hl 2 rfl) ?_
  refine m_call (r := some (.long r)) (μ1 := μ2) (va_runV (C := "RecipePlansModel") (As := []) (rest := [.long r]) ⟨hx, hb, hml, hown, hts⟩ (c_Mo_cost l G N μ1 q2 _) (cwV 0 hts (gdV tw_612 tw_613 tw_614 tw_41 tw_615) rfl rfl rfl (by decide +kernel) ⟨Nat.le_of_ble_eq_true rfl, Nat.le_of_ble_eq_true rfl⟩) (m_preV (k := 7) (by decide) rfl hK hSt hw) rfl rfl hl.1 rfl (lv_room (Nat.le_of_ble_eq_true rfl)) d_Lw_421 ⟨Nat.le_of_ble_eq_true rfl, Nat.le_of_ble_eq_true rfl⟩) hw (fun H locs hw => ?_)
  refine W.lcmp hx hb d_Lw_424 ?_
  refine m_eqi (show lg_cmp r r = 0 by simp [lg_cmp]) ?_
  refine lv_if_eq (tgt := 543) hx hb d_Lw_425 (by decide) (fun c9 => ?_) (fun c9 => ?_)
  · exact hend μ2 _ _ _ hI2 hw hl
  · exact absurd rfl c9
set_option maxRecDepth 100000 in
set_option maxHeartbeats 4000000 in
theorem law_cut (C : CxL G p s m meth c b L xs) {N i : Nat} {Inv : Mem → Prop} (ho : H_cut N Inv) (hi : i + 7 ≤ L) (hend : ∀ (μ : Mem) (H : Heap) (locs : List Loc) (ls : Array Slot), Inv μ → Wk G s μ H locs → lv_has ls 4 [(0, .ref b), (1, .ref (G.2.1 0)), (2, .ref (G.2.1 7)), (3, .int (nI i))] → W p l e room_1 s m #[Value.ref b] below meth c H locs 85 1649 (lw_Z below #[Value.ref b] s) (F0 m 543 ls [])) : ∀ (μ : Mem) (H : Heap) (locs : List Loc) (ls : Array Slot), Inv μ → Wk G s μ H locs → lv_has ls 4 [(0, .ref b), (1, .ref (G.2.1 0)), (2, .ref (G.2.1 7)), (3, .int (nI i))] → W p l e room_1 s m #[Value.ref b] below meth c H locs 85 1649 (lw_Z below #[Value.ref b] s) (F0 m 430 ls []) := by
  obtain ⟨hx, hb, hr, hml, hown, hts, hlk, hK, hSt, hX, hbl, hbA, hL⟩ := id C
  intro μ H locs ls hI hw hl
  refine lv_aload_n hx hb d_Lw_430 rfl (lv_at hl 1 rfl) ?_
  refine lv_aload_n hx hb d_Lw_431 rfl (lv_at hl 0 rfl) ?_
  refine lv_iload_n hx hb d_Lw_432 rfl (lv_at hl 3 rfl) ?_
  refine lv_iconst (v := 1) hx hb d_Lw_433 (by decide) ?_
  refine lv_iadd hx hb d_Lw_434 ?_
  refine m_eqi (show nI i + 1 = nI (i + 1) from nI_add i 1) ?_
  refine m_scr (j := i + 1) hx hb hX hbl hbA hw.2.2 (by omega) (by omega) d_Lw_435 ?_
  obtain ⟨r, μ1, μ2, q1, q2, hI2⟩ := ho (xs (i + 1)) μ hI
  refine m_call (r := some (.long r)) (μ1 := μ1) (va_runV (C := "RecipePlans") (As := [.int (xs (i + 1))]) (rest := []) ⟨hx, hb, hml, hown, hts⟩ (c_RP_cut l G N (xs (i + 1)) μ q1 _) (cwV 1 hts (gdV tw_427 tw_428 tw_429 tw_34 tw_430) rfl rfl rfl (by decide +kernel) ⟨Nat.le_of_ble_eq_true rfl, Nat.le_of_ble_eq_true rfl⟩) (m_preV (k := 0) (by decide) rfl hK hSt hw) rfl rfl hl.1 rfl (lv_room (Nat.le_of_ble_eq_true rfl)) d_Lw_436 ⟨Nat.le_of_ble_eq_true rfl, Nat.le_of_ble_eq_true rfl⟩) hw (fun H locs hw => ?_)
  refine lv_aload_n hx hb d_Lw_439 rfl (lv_at hl 2 rfl) ?_
  refine lv_aload_n hx hb d_Lw_440 rfl (lv_at hl 0 rfl) ?_
  refine lv_iload_n hx hb d_Lw_441 rfl (lv_at hl 3 rfl) ?_
  refine lv_iconst (v := 1) hx hb d_Lw_442 (by decide) ?_
  refine lv_iadd hx hb d_Lw_443 ?_
  refine m_eqi (show nI i + 1 = nI (i + 1) from nI_add i 1) ?_
  refine m_scr (j := i + 1) hx hb hX hbl hbA hw.2.2 (by omega) (by omega) d_Lw_444 ?_
  refine m_call (r := some (.long r)) (μ1 := μ2) (va_runV (C := "RecipePlansModel") (As := [.int (xs (i + 1))]) (rest := [.long r]) ⟨hx, hb, hml, hown, hts⟩ (c_Mo_cut l G N (xs (i + 1)) μ1 q2 _) (cwV 1 hts (gdV tw_617 tw_618 tw_619 tw_41 tw_620) rfl rfl rfl (by decide +kernel) ⟨Nat.le_of_ble_eq_true rfl, Nat.le_of_ble_eq_true rfl⟩) (m_preV (k := 7) (by decide) rfl hK hSt hw) rfl rfl hl.1 rfl (lv_room (Nat.le_of_ble_eq_true rfl)) d_Lw_445 ⟨Nat.le_of_ble_eq_true rfl, Nat.le_of_ble_eq_true rfl⟩) hw (fun H locs hw => ?_)
  refine W.lcmp hx hb d_Lw_448 ?_
  refine m_eqi (show lg_cmp r r = 0 by simp [lg_cmp]) ?_
  refine lv_if_eq (tgt := 543) hx hb d_Lw_449 (by decide) (fun c9 => ?_) (fun c9 => ?_)
  · exact hend μ2 _ _ _ hI2 hw hl
  · exact absurd rfl c9
set_option maxRecDepth 100000 in
set_option maxHeartbeats 4000000 in
theorem law_clashes (C : CxL G p s m meth c b L xs) {N i : Nat} {Inv : Mem → Prop} (ho : H_clashes N Inv) (hi : i + 7 ≤ L) (hend : ∀ (μ : Mem) (H : Heap) (locs : List Loc) (ls : Array Slot), Inv μ → Wk G s μ H locs → lv_has ls 4 [(0, .ref b), (1, .ref (G.2.1 0)), (2, .ref (G.2.1 7)), (3, .int (nI i))] → W p l e room_1 s m #[Value.ref b] below meth c H locs 85 1649 (lw_Z below #[Value.ref b] s) (F0 m 543 ls [])) : ∀ (μ : Mem) (H : Heap) (locs : List Loc) (ls : Array Slot), Inv μ → Wk G s μ H locs → lv_has ls 4 [(0, .ref b), (1, .ref (G.2.1 0)), (2, .ref (G.2.1 7)), (3, .int (nI i))] → W p l e room_1 s m #[Value.ref b] below meth c H locs 85 1649 (lw_Z below #[Value.ref b] s) (F0 m 454 ls []) := by
  obtain ⟨hx, hb, hr, hml, hown, hts, hlk, hK, hSt, hX, hbl, hbA, hL⟩ := id C
  intro μ H locs ls hI hw hl
  refine lv_aload_n hx hb d_Lw_454 rfl (lv_at hl 1 rfl) ?_
  obtain ⟨r, μ1, μ2, q1, q2, hI2⟩ := ho μ hI
  refine m_call (r := some (.int r)) (μ1 := μ1) (va_runV (C := "RecipePlans") (As := []) (rest := []) ⟨hx, hb, hml, hown, hts⟩ (c_RP_clashes l G N μ q1 _) (cwV 0 hts (gdV tw_431 tw_432 tw_433 tw_34 tw_434) rfl rfl rfl (by decide +kernel) ⟨Nat.le_of_ble_eq_true rfl, Nat.le_of_ble_eq_true rfl⟩) (m_preV (k := 0) (by decide) rfl hK hSt hw) rfl rfl hl.1 rfl (lv_room (Nat.le_of_ble_eq_true rfl)) d_Lw_455 ⟨Nat.le_of_ble_eq_true rfl, Nat.le_of_ble_eq_true rfl⟩) hw (fun H locs hw => ?_)
  refine lv_aload_n hx hb d_Lw_458 rfl (lv_at hl 2 rfl) ?_
  refine m_call (r := some (.int r)) (μ1 := μ2) (va_runV (C := "RecipePlansModel") (As := []) (rest := [.int r]) ⟨hx, hb, hml, hown, hts⟩ (c_Mo_clashes l G N μ1 q2 _) (cwV 0 hts (gdV tw_621 tw_622 tw_623 tw_41 tw_624) rfl rfl rfl (by decide +kernel) ⟨Nat.le_of_ble_eq_true rfl, Nat.le_of_ble_eq_true rfl⟩) (m_preV (k := 7) (by decide) rfl hK hSt hw) rfl rfl hl.1 rfl (lv_room (Nat.le_of_ble_eq_true rfl)) d_Lw_459 ⟨Nat.le_of_ble_eq_true rfl, Nat.le_of_ble_eq_true rfl⟩) hw (fun H locs hw => ?_)
  refine lv_icmp_eq (tgt := 543) hx hb d_Lw_462 (by decide) (fun c9 => ?_) (fun c9 => ?_)
  · exact hend μ2 _ _ _ hI2 hw hl
  · exact absurd rfl c9
set_option maxRecDepth 100000 in
set_option maxHeartbeats 4000000 in
theorem law_clash (C : CxL G p s m meth c b L xs) {N i : Nat} {Inv : Mem → Prop} (ho : H_clash N Inv) (hi : i + 7 ≤ L) (hend : ∀ (μ : Mem) (H : Heap) (locs : List Loc) (ls : Array Slot), Inv μ → Wk G s μ H locs → lv_has ls 4 [(0, .ref b), (1, .ref (G.2.1 0)), (2, .ref (G.2.1 7)), (3, .int (nI i))] → W p l e room_1 s m #[Value.ref b] below meth c H locs 85 1649 (lw_Z below #[Value.ref b] s) (F0 m 543 ls [])) : ∀ (μ : Mem) (H : Heap) (locs : List Loc) (ls : Array Slot), Inv μ → Wk G s μ H locs → lv_has ls 4 [(0, .ref b), (1, .ref (G.2.1 0)), (2, .ref (G.2.1 7)), (3, .int (nI i))] → W p l e room_1 s m #[Value.ref b] below meth c H locs 85 1649 (lw_Z below #[Value.ref b] s) (F0 m 467 ls []) := by
  obtain ⟨hx, hb, hr, hml, hown, hts, hlk, hK, hSt, hX, hbl, hbA, hL⟩ := id C
  intro μ H locs ls hI hw hl
  refine lv_aload_n hx hb d_Lw_467 rfl (lv_at hl 1 rfl) ?_
  refine lv_aload_n hx hb d_Lw_468 rfl (lv_at hl 0 rfl) ?_
  refine lv_iload_n hx hb d_Lw_469 rfl (lv_at hl 3 rfl) ?_
  refine lv_iconst (v := 1) hx hb d_Lw_470 (by decide) ?_
  refine lv_iadd hx hb d_Lw_471 ?_
  refine m_eqi (show nI i + 1 = nI (i + 1) from nI_add i 1) ?_
  refine m_scr (j := i + 1) hx hb hX hbl hbA hw.2.2 (by omega) (by omega) d_Lw_472 ?_
  obtain ⟨r, μ1, μ2, q1, q2, hI2⟩ := ho (xs (i + 1)) μ hI
  refine m_call (r := some (.int r)) (μ1 := μ1) (va_runV (C := "RecipePlans") (As := [.int (xs (i + 1))]) (rest := []) ⟨hx, hb, hml, hown, hts⟩ (c_RP_clash l G N (xs (i + 1)) μ q1 _) (cwV 1 hts (gdV tw_436 tw_437 tw_438 tw_34 tw_439) rfl rfl rfl (by decide +kernel) ⟨Nat.le_of_ble_eq_true rfl, Nat.le_of_ble_eq_true rfl⟩) (m_preV (k := 0) (by decide) rfl hK hSt hw) rfl rfl hl.1 rfl (lv_room (Nat.le_of_ble_eq_true rfl)) d_Lw_473 ⟨Nat.le_of_ble_eq_true rfl, Nat.le_of_ble_eq_true rfl⟩) hw (fun H locs hw => ?_)
  refine lv_aload_n hx hb d_Lw_476 rfl (lv_at hl 2 rfl) ?_
  refine lv_aload_n hx hb d_Lw_477 rfl (lv_at hl 0 rfl) ?_
  refine lv_iload_n hx hb d_Lw_478 rfl (lv_at hl 3 rfl) ?_
  refine lv_iconst (v := 1) hx hb d_Lw_479 (by decide) ?_
  refine lv_iadd hx hb d_Lw_480 ?_
  refine m_eqi (show nI i + 1 = nI (i + 1) from nI_add i 1) ?_
  refine m_scr (j := i + 1) hx hb hX hbl hbA hw.2.2 (by omega) (by omega) d_Lw_481 ?_
  refine m_call (r := some (.int r)) (μ1 := μ2) (va_runV (C := "RecipePlansModel") (As := [.int (xs (i + 1))]) (rest := [.int r]) ⟨hx, hb, hml, hown, hts⟩ (c_Mo_clash l G N (xs (i + 1)) μ1 q2 _) (cwV 1 hts (gdV tw_625 tw_626 tw_627 tw_41 tw_628) rfl rfl rfl (by decide +kernel) ⟨Nat.le_of_ble_eq_true rfl, Nat.le_of_ble_eq_true rfl⟩) (m_preV (k := 7) (by decide) rfl hK hSt hw) rfl rfl hl.1 rfl (lv_room (Nat.le_of_ble_eq_true rfl)) d_Lw_482 ⟨Nat.le_of_ble_eq_true rfl, Nat.le_of_ble_eq_true rfl⟩) hw (fun H locs hw => ?_)
  refine lv_icmp_eq (tgt := 543) hx hb d_Lw_485 (by decide) (fun c9 => ?_) (fun c9 => ?_)
  · exact hend μ2 _ _ _ hI2 hw hl
  · exact absurd rfl c9
set_option maxRecDepth 100000 in
set_option maxHeartbeats 4000000 in
theorem law_broken (C : CxL G p s m meth c b L xs) {N i : Nat} {Inv : Mem → Prop} (ho : H_broken N Inv) (hi : i + 7 ≤ L) (hend : ∀ (μ : Mem) (H : Heap) (locs : List Loc) (ls : Array Slot), Inv μ → Wk G s μ H locs → lv_has ls 4 [(0, .ref b), (1, .ref (G.2.1 0)), (2, .ref (G.2.1 7)), (3, .int (nI i))] → W p l e room_1 s m #[Value.ref b] below meth c H locs 85 1649 (lw_Z below #[Value.ref b] s) (F0 m 543 ls [])) : ∀ (μ : Mem) (H : Heap) (locs : List Loc) (ls : Array Slot), Inv μ → Wk G s μ H locs → lv_has ls 4 [(0, .ref b), (1, .ref (G.2.1 0)), (2, .ref (G.2.1 7)), (3, .int (nI i))] → W p l e room_1 s m #[Value.ref b] below meth c H locs 85 1649 (lw_Z below #[Value.ref b] s) (F0 m 490 ls []) := by
  obtain ⟨hx, hb, hr, hml, hown, hts, hlk, hK, hSt, hX, hbl, hbA, hL⟩ := id C
  intro μ H locs ls hI hw hl
  refine lv_aload_n hx hb d_Lw_490 rfl (lv_at hl 1 rfl) ?_
  refine lv_aload_n hx hb d_Lw_491 rfl (lv_at hl 0 rfl) ?_
  refine lv_iload_n hx hb d_Lw_492 rfl (lv_at hl 3 rfl) ?_
  refine lv_iconst (v := 1) hx hb d_Lw_493 (by decide) ?_
  refine lv_iadd hx hb d_Lw_494 ?_
  refine m_eqi (show nI i + 1 = nI (i + 1) from nI_add i 1) ?_
  refine m_scr (j := i + 1) hx hb hX hbl hbA hw.2.2 (by omega) (by omega) d_Lw_495 ?_
  refine lv_aload_n hx hb d_Lw_496 rfl (lv_at hl 0 rfl) ?_
  refine lv_iload_n hx hb d_Lw_497 rfl (lv_at hl 3 rfl) ?_
  refine lv_iconst (v := 2) hx hb d_Lw_498 (by decide) ?_
  refine lv_iadd hx hb d_Lw_499 ?_
  refine m_eqi (show nI i + 2 = nI (i + 2) from nI_add i 2) ?_
  refine m_scr (j := i + 2) hx hb hX hbl hbA hw.2.2 (by omega) (by omega) d_Lw_500 ?_
  refine lv_aload_n hx hb d_Lw_501 rfl (lv_at hl 0 rfl) ?_
  refine lv_iload_n hx hb d_Lw_502 rfl (lv_at hl 3 rfl) ?_
  refine lv_iconst (v := 3) hx hb d_Lw_503 (by decide) ?_
  refine lv_iadd hx hb d_Lw_504 ?_
  refine m_eqi (show nI i + 3 = nI (i + 3) from nI_add i 3) ?_
  refine m_scr (j := i + 3) hx hb hX hbl hbA hw.2.2 (by omega) (by omega) d_Lw_505 ?_
  refine lv_aload_n hx hb d_Lw_506 rfl (lv_at hl 0 rfl) ?_
  refine lv_iload_n hx hb d_Lw_507 rfl (lv_at hl 3 rfl) ?_
  refine lv_iconst (v := 4) hx hb d_Lw_508 (by decide) ?_
  refine lv_iadd hx hb d_Lw_509 ?_
  refine m_eqi (show nI i + 4 = nI (i + 4) from nI_add i 4) ?_
  refine m_scr (j := i + 4) hx hb hX hbl hbA hw.2.2 (by omega) (by omega) d_Lw_510 ?_
  obtain ⟨r, μ1, μ2, q1, q2, hI2⟩ := ho (xs (i + 1)) (xs (i + 2)) (xs (i + 3)) (xs (i + 4)) μ hI
  refine m_call (r := some (.int r)) (μ1 := μ1) (va_runV (C := "RecipePlans") (As := [.int (xs (i + 1)), .int (xs (i + 2)), .int (xs (i + 3)), .int (xs (i + 4))]) (rest := []) ⟨hx, hb, hml, hown, hts⟩ (c_RP_broken l G N (xs (i + 1)) (xs (i + 2)) (xs (i + 3)) (xs (i + 4)) μ q1 _) (cwV 4 hts (gdV tw_441 tw_442 tw_443 tw_34 tw_444) rfl rfl rfl (by decide +kernel) ⟨Nat.le_of_ble_eq_true rfl, Nat.le_of_ble_eq_true rfl⟩) (m_preV (k := 0) (by decide) rfl hK hSt hw) rfl rfl hl.1 rfl (lv_room (Nat.le_of_ble_eq_true rfl)) d_Lw_511 ⟨Nat.le_of_ble_eq_true rfl, Nat.le_of_ble_eq_true rfl⟩) hw (fun H locs hw => ?_)
  refine lv_aload_n hx hb d_Lw_514 rfl (lv_at hl 2 rfl) ?_
  refine lv_aload_n hx hb d_Lw_515 rfl (lv_at hl 0 rfl) ?_
  refine lv_iload_n hx hb d_Lw_516 rfl (lv_at hl 3 rfl) ?_
  refine lv_iconst (v := 1) hx hb d_Lw_517 (by decide) ?_
  refine lv_iadd hx hb d_Lw_518 ?_
  refine m_eqi (show nI i + 1 = nI (i + 1) from nI_add i 1) ?_
  refine m_scr (j := i + 1) hx hb hX hbl hbA hw.2.2 (by omega) (by omega) d_Lw_519 ?_
  refine lv_aload_n hx hb d_Lw_520 rfl (lv_at hl 0 rfl) ?_
  refine lv_iload_n hx hb d_Lw_521 rfl (lv_at hl 3 rfl) ?_
  refine lv_iconst (v := 2) hx hb d_Lw_522 (by decide) ?_
  refine lv_iadd hx hb d_Lw_523 ?_
  refine m_eqi (show nI i + 2 = nI (i + 2) from nI_add i 2) ?_
  refine m_scr (j := i + 2) hx hb hX hbl hbA hw.2.2 (by omega) (by omega) d_Lw_524 ?_
  refine lv_aload_n hx hb d_Lw_525 rfl (lv_at hl 0 rfl) ?_
  refine lv_iload_n hx hb d_Lw_526 rfl (lv_at hl 3 rfl) ?_
  refine lv_iconst (v := 3) hx hb d_Lw_527 (by decide) ?_
  refine lv_iadd hx hb d_Lw_528 ?_
  refine m_eqi (show nI i + 3 = nI (i + 3) from nI_add i 3) ?_
  refine m_scr (j := i + 3) hx hb hX hbl hbA hw.2.2 (by omega) (by omega) d_Lw_529 ?_
  refine lv_aload_n hx hb d_Lw_530 rfl (lv_at hl 0 rfl) ?_
  refine lv_iload_n hx hb d_Lw_531 rfl (lv_at hl 3 rfl) ?_
  refine lv_iconst (v := 4) hx hb d_Lw_532 (by decide) ?_
  refine lv_iadd hx hb d_Lw_533 ?_
  refine m_eqi (show nI i + 4 = nI (i + 4) from nI_add i 4) ?_
  refine m_scr (j := i + 4) hx hb hX hbl hbA hw.2.2 (by omega) (by omega) d_Lw_534 ?_
  refine m_call (r := some (.int r)) (μ1 := μ2) (va_runV (C := "RecipePlansModel") (As := [.int (xs (i + 1)), .int (xs (i + 2)), .int (xs (i + 3)), .int (xs (i + 4))]) (rest := [.int r]) ⟨hx, hb, hml, hown, hts⟩ (c_Mo_broken l G N (xs (i + 1)) (xs (i + 2)) (xs (i + 3)) (xs (i + 4)) μ1 q2 _) (cwV 4 hts (gdV tw_542 tw_543 tw_544 tw_41 tw_545) rfl rfl rfl (by decide +kernel) ⟨Nat.le_of_ble_eq_true rfl, Nat.le_of_ble_eq_true rfl⟩) (m_preV (k := 7) (by decide) rfl hK hSt hw) rfl rfl hl.1 rfl (lv_room (Nat.le_of_ble_eq_true rfl)) d_Lw_535 ⟨Nat.le_of_ble_eq_true rfl, Nat.le_of_ble_eq_true rfl⟩) hw (fun H locs hw => ?_)
  refine lv_icmp_eq (tgt := 543) hx hb d_Lw_538 (by decide) (fun c9 => ?_) (fun c9 => ?_)
  · exact hend μ2 _ _ _ hI2 hw hl
  · exact absurd rfl c9
set_option maxRecDepth 100000 in
set_option maxHeartbeats 4000000 in
/-- THE LAW'S LOOP -/
theorem law_loop (C : CxL G p s m meth c b L xs) (hge : ∀ q, AW G s.heap.size q → s.heap.size ≤ q) {N : Nat} {Inv : Mem → Prop} (ho : OpsOK N Inv) : ∀ (n i : Nat) (μ : Mem) (H : Heap) (locs : List Loc) (ls : Array Slot), i ≤ L → L < i + n → Inv μ → Wk G s μ H locs → lv_has ls 4 [(0, .ref b), (1, .ref (G.2.1 0)), (2, .ref (G.2.1 7)), (3, .int (nI i))] → W p l e room_1 s m #[Value.ref b] below meth c H locs 85 1649 (lw_Z below #[Value.ref b] s) (F0 m 18 ls []) := by
  obtain ⟨hx, hb, hr, hml, hown, hts, hlk, hK, hSt, hX, hbl, hbA, hL⟩ := id C
  obtain ⟨o_lot, o_amount, o_span, o_ratio, o_loads, o_untell, o_run, o_best, o_cost, o_cut, o_clashes, o_clash, o_broken⟩ := ho
  intro n
  induction n with
  | zero =>
    intro i μ H locs ls h1 h2
    exact absurd h2 (by omega)
  | succ n ih =>
    intro i μ H locs ls h1 h2 hI hw hl
    refine lv_iload_n hx hb d_Lw_18 rfl (lv_at hl 3 rfl) ?_
    refine lv_aload_n hx hb d_Lw_19 rfl (lv_at hl 0 rfl) ?_
    refine va_slen hx hb hX hbl hbA hw.2.2 d_Lw_20 ?_
    refine lv_bipush (v := 7) hx hb d_Lw_21 (by decide) ?_
    refine lv_isub hx hb d_Lw_23 ?_
    refine lv_icmp_gt (tgt := 549) hx hb d_Lw_24 (by decide) (fun c9 => ?_) (fun c9 => ?_)
    · refine lv_iconst (v := 1) hx hb d_Lw_549 (by decide) ?_
      refine va_forget (fun q hq => hge _ (hw.2.2.2.2 q hq)) ?_
      refine W.widen (k := 600000) (n := 7302250) (by decide) (by decide) ?_
      exact lw_ret hx hb hr hlk d_Lw_550
    · have hi : i + 7 ≤ L := by
        rw [Int32.lt_iff_toInt_lt] at c9
        have e1 : (Int32.ofNat L - 7).toInt = (L : Int) - 7 := pk_sub_toInt (a := L) (b := 7) (by omega) (by omega)
        have e2 : (nI i).toInt = (i : Int) := nI_toInt (by omega)
        omega
      have hend : ∀ (μ : Mem) (H : Heap) (locs : List Loc) (ls : Array Slot), Inv μ → Wk G s μ H locs → lv_has ls 4 [(0, .ref b), (1, .ref (G.2.1 0)), (2, .ref (G.2.1 7)), (3, .int (nI i))] → W p l e room_1 s m #[Value.ref b] below meth c H locs 85 1649 (lw_Z below #[Value.ref b] s) (F0 m 543 ls []) := by
        intro μ H locs ls hI hw hl
        refine lv_iinc (v := nI (i + 7)) (lv' := [(3, .int (nI (i + 7))), (0, .ref b), (1, .ref (G.2.1 0)), (2, .ref (G.2.1 7))]) hx hb d_Lw_543 hl (k := 3) rfl (nI_add i 7) (by decide) rfl (fun ls hl => ?_)
        refine lv_goto (tgt := 18) hx hb d_Lw_546 (by decide) ?_
        exact ih (i + 7) μ H locs ls hi (by omega) hI hw (lv_sub hl [1, 2, 3, 0] rfl)
      refine lv_aload_n hx hb d_Lw_27 rfl (lv_at hl 0 rfl) ?_
      refine lv_iload_n hx hb d_Lw_28 rfl (lv_at hl 3 rfl) ?_
      refine m_scr (j := i) hx hb hX hbl hbA hw.2.2 (by omega) (by omega) d_Lw_29 ?_
      refine lv_bipush (v := 15) hx hb d_Lw_30 (by decide) ?_
      refine lv_iand hx hb d_Lw_32 ?_
      obtain ⟨k, hk, ek⟩ := pk_andE (xs i) (m := 15) 4 (by decide)
      refine m_eqi ek ?_
      rcases (show k = 0 ∨ k = 1 ∨ k = 2 ∨ k = 3 ∨ k = 4 ∨ k = 5 ∨ k = 6 ∨ k = 7 ∨ k = 8 ∨ k = 9 ∨ k = 10 ∨ k = 11 ∨ k = 12 ∨ k = 13 ∨ k = 14 ∨ k = 15 by omega) with rfl | rfl | rfl | rfl | rfl | rfl | rfl | rfl | rfl | rfl | rfl | rfl | rfl | rfl | rfl | rfl
      · refine lv_tableIn (tgt := 100) hx hb d_Lw_33 (by decide) (by decide) (off := 67) (by decide) (by decide) ?_
        exact law_lot C o_lot hi hend μ _ _ _ hI hw hl
      · refine lv_tableIn (tgt := 163) hx hb d_Lw_33 (by decide) (by decide) (off := 130) (by decide) (by decide) ?_
        exact law_amount C o_amount hi hend μ _ _ _ hI hw hl
      · refine lv_tableIn (tgt := 206) hx hb d_Lw_33 (by decide) (by decide) (off := 173) (by decide) (by decide) ?_
        exact law_span C o_span hi hend μ _ _ _ hI hw hl
      · refine lv_tableIn (tgt := 249) hx hb d_Lw_33 (by decide) (by decide) (off := 216) (by decide) (by decide) ?_
        exact law_ratio C o_ratio hi hend μ _ _ _ hI hw hl
      · refine lv_tableIn (tgt := 324) hx hb d_Lw_33 (by decide) (by decide) (off := 291) (by decide) (by decide) ?_
        exact law_loads C o_loads hi hend μ _ _ _ hI hw hl
      · refine lv_tableIn (tgt := 357) hx hb d_Lw_33 (by decide) (by decide) (off := 324) (by decide) (by decide) ?_
        exact law_untell C o_untell hi hend μ _ _ _ hI hw hl
      · refine lv_tableIn (tgt := 380) hx hb d_Lw_33 (by decide) (by decide) (off := 347) (by decide) (by decide) ?_
        exact law_run C o_run hi hend μ _ _ _ hI hw hl
      · refine lv_tableIn (tgt := 393) hx hb d_Lw_33 (by decide) (by decide) (off := 360) (by decide) (by decide) ?_
        exact law_best C o_best hi hend μ _ _ _ hI hw hl
      · refine lv_tableIn (tgt := 416) hx hb d_Lw_33 (by decide) (by decide) (off := 383) (by decide) (by decide) ?_
        exact law_cost C o_cost hi hend μ _ _ _ hI hw hl
      · refine lv_tableIn (tgt := 430) hx hb d_Lw_33 (by decide) (by decide) (off := 397) (by decide) (by decide) ?_
        exact law_cut C o_cut hi hend μ _ _ _ hI hw hl
      · refine lv_tableIn (tgt := 454) hx hb d_Lw_33 (by decide) (by decide) (off := 421) (by decide) (by decide) ?_
        exact law_clashes C o_clashes hi hend μ _ _ _ hI hw hl
      · refine lv_tableIn (tgt := 467) hx hb d_Lw_33 (by decide) (by decide) (off := 434) (by decide) (by decide) ?_
        exact law_clash C o_clash hi hend μ _ _ _ hI hw hl
      · refine lv_tableIn (tgt := 490) hx hb d_Lw_33 (by decide) (by decide) (off := 457) (by decide) (by decide) ?_
        exact law_broken C o_broken hi hend μ _ _ _ hI hw hl
      · refine lv_tableOut (tgt := 543) hx hb d_Lw_33 (by decide) (by decide) ?_
        exact hend μ _ _ _ hI hw hl
      · refine lv_tableOut (tgt := 543) hx hb d_Lw_33 (by decide) (by decide) ?_
        exact hend μ _ _ _ hI hw hl
      · refine lv_tableOut (tgt := 543) hx hb d_Lw_33 (by decide) (by decide) ?_
        exact hend μ _ _ _ hI hw hl
end LW
