section WK
variable {p : Program} {l : Launch} {e : Env} {s : State} {m : MethodId} {args : Array Value} {below : List Frame} {meth : Method} {c : Code} {G : Gw}
set_option maxRecDepth 100000 in
set_option maxHeartbeats 4000000 in
theorem w_WS_begin_87 {μ' : Mem} {N : Nat} (C : CxA G p s m args meth c prog_7_method_3_code 3 none "RecipePlans$WholeSearch" ws_WS_begin) {K42 : Int32 → Mem → Option Mem} (hK42 : ∀ (x1 : Int32) (μ : Mem) (H : Heap) (locs : List Loc) (ls : Array Slot), Wk G s μ H locs → lv_has ls 3 [(0, .ref (G.2.1 5)), (1, .int x1)] → K42 x1 μ = some μ' → WA G rm_WS_begin p l e s m args below meth c none μ' H locs 42 ls []) : ∀ (n : Nat) (x1 : Int32) (x2 : Int32) (μ : Mem) (H : Heap) (locs : List Loc) (ls : Array Slot), Wk G s μ H locs → lv_has ls 3 [(0, .ref (G.2.1 5)), (1, .int x1), (2, .int x2)] → M_WS_begin_87 N K42 n x1 x2 μ = some μ' → WA G rm_WS_begin p l e s m args below meth c none μ' H locs 87 ls [] := by
  obtain ⟨hx, hb, hr, hml, hown, hts, hlk, hK, hSt⟩ := id C
  intro n
  induction n with
  | zero =>
    intro x1 x2 μ H locs ls hw hl h
    rw [M_WS_begin_87] at h
    cases h
  | succ n ih =>
    intro x1 x2 μ H locs ls hw hl h
    rw [M_WS_begin_87] at h
    refine lv_iload_n hx hb d_WS_begin_87 rfl (lv_at hl 2 rfl) ?_
    refine lv_iconst (v := 2) hx hb d_WS_begin_88 (by decide) ?_
    refine lv_aload_n hx hb d_WS_begin_89 rfl (lv_at hl 0 rfl) ?_
    refine va_get (D := G.1) (ci := 5) (v := .ref (G.2.1 3)) (C := "RecipePlans$WholeSearch") (T := T_WS) (N := 9) hx hb hts (fun _ h9 => List.mem_cons_of_mem _ (inT_WS _ h9)) hown hK hw.1 5 (WL_get (by decide)) rfl 1 (by decide) (hts _ (List.mem_cons_of_mem _ tw_170)) (fun _ h9 => h9) rfl d_WS_begin_90 ?_
    refine va_get (D := G.1) (ci := 3) (v := .int (μ.1 3 0)) (C := "RecipePlans$Sides") (T := T_Si) (N := 3) hx hb hts (fun _ h9 => List.mem_cons_of_mem _ (inT_Si _ h9)) hown hK hw.1 3 (WL_get (by decide)) rfl 0 (by decide) (hts _ (List.mem_cons_of_mem _ tw_114)) (fun _ h9 => h9) rfl d_WS_begin_93 ?_
    refine lv_imul hx hb d_WS_begin_96 ?_
    refine lv_icmp_ge (tgt := 151) hx hb d_WS_begin_97 (by decide) (fun c97 => ?_) (fun c97 => ?_)
    · have h := ifp c97 h
      refine lv_iinc (v := x1 + (-1)) (lv' := [(1, .int (x1 + (-1))), (0, .ref (G.2.1 5)), (2, .int x2)]) hx hb d_WS_begin_151 hl (k := 1) rfl rfl (by decide) rfl (fun ls hl => ?_)
      refine lv_goto (tgt := 42) hx hb d_WS_begin_154 (by decide) ?_
      exact hK42 (x1 + (-1)) μ _ _ _ hw (lv_sub hl [1, 0] rfl) h
    · have h := ifn c97 h
      refine lv_aload_n hx hb d_WS_begin_100 rfl (lv_at hl 0 rfl) ?_
      refine va_get (D := G.1) (ci := 5) (v := .ref (G.2.1 12)) (C := "RecipePlans$WholeSearch") (T := T_WS) (N := 9) hx hb hts (fun _ h9 => List.mem_cons_of_mem _ (inT_WS _ h9)) hown hK hw.1 5 (WL_get (by decide)) rfl 3 (by decide) (hts _ (List.mem_cons_of_mem _ tw_172)) (fun _ h9 => h9) rfl d_WS_begin_101 ?_
      refine lv_iload_n hx hb d_WS_begin_104 rfl (lv_at hl 1 rfl) ?_
      obtain ⟨a105, hv, h⟩ := bd h
      refine m_aaload hx hb hK hw hv d_WS_begin_105 ?_
      refine lv_iload_n hx hb d_WS_begin_106 rfl (lv_at hl 2 rfl) ?_
      refine lv_aload_n hx hb d_WS_begin_107 rfl (lv_at hl 0 rfl) ?_
      refine va_get (D := G.1) (ci := 5) (v := .ref (G.2.1 12)) (C := "RecipePlans$WholeSearch") (T := T_WS) (N := 9) hx hb hts (fun _ h9 => List.mem_cons_of_mem _ (inT_WS _ h9)) hown hK hw.1 5 (WL_get (by decide)) rfl 3 (by decide) (hts _ (List.mem_cons_of_mem _ tw_172)) (fun _ h9 => h9) rfl d_WS_begin_108 ?_
      refine lv_iload_n hx hb d_WS_begin_111 rfl (lv_at hl 1 rfl) ?_
      refine lv_iconst (v := 1) hx hb d_WS_begin_112 (by decide) ?_
      refine lv_iadd hx hb d_WS_begin_113 ?_
      obtain ⟨a114, hv, h⟩ := bd h
      refine m_aaload hx hb hK hw hv d_WS_begin_114 ?_
      refine lv_iload_n hx hb d_WS_begin_115 rfl (lv_at hl 2 rfl) ?_
      obtain ⟨v116, hv, h⟩ := bd h
      refine m_laload hx hb hK hw hv d_WS_begin_116 ?_
      refine lv_lconst (v := 0) hx hb d_WS_begin_117 (by decide) ?_
      refine lv_aload_n hx hb d_WS_begin_118 rfl (lv_at hl 0 rfl) ?_
      refine va_get (D := G.1) (ci := 5) (v := .ref (G.2.1 3)) (C := "RecipePlans$WholeSearch") (T := T_WS) (N := 9) hx hb hts (fun _ h9 => List.mem_cons_of_mem _ (inT_WS _ h9)) hown hK hw.1 5 (WL_get (by decide)) rfl 1 (by decide) (hts _ (List.mem_cons_of_mem _ tw_170)) (fun _ h9 => h9) rfl d_WS_begin_119 ?_
      refine va_get (D := G.1) (ci := 3) (v := .ref (G.2.1 9)) (C := "RecipePlans$Sides") (T := T_Si) (N := 3) hx hb hts (fun _ h9 => List.mem_cons_of_mem _ (inT_Si _ h9)) hown hK hw.1 3 (WL_get (by decide)) rfl 2 (by decide) (hts _ (List.mem_cons_of_mem _ tw_119)) (fun _ h9 => h9) rfl d_WS_begin_122 ?_
      refine lv_iload_n hx hb d_WS_begin_125 rfl (lv_at hl 2 rfl) ?_
      obtain ⟨a126, hv, h⟩ := bd h
      refine m_aaload hx hb hK hw hv d_WS_begin_126 ?_
      refine lv_iload_n hx hb d_WS_begin_127 rfl (lv_at hl 1 rfl) ?_
      obtain ⟨v128, hv, h⟩ := bd h
      refine m_laload hx hb hK hw hv d_WS_begin_128 ?_
      refine lv_aload_n hx hb d_WS_begin_129 rfl (lv_at hl 0 rfl) ?_
      refine va_get (D := G.1) (ci := 5) (v := .ref (G.2.1 1)) (C := "RecipePlans$WholeSearch") (T := T_WS) (N := 9) hx hb hts (fun _ h9 => List.mem_cons_of_mem _ (inT_WS _ h9)) hown hK hw.1 5 (WL_get (by decide)) rfl 0 (by decide) (hts _ (List.mem_cons_of_mem _ tw_169)) (fun _ h9 => h9) rfl d_WS_begin_130 ?_
      refine va_get (D := G.1) (ci := 1) (v := .ref (G.2.1 17)) (C := "RecipePlans$Lots") (T := T_Lo) (N := 4) hx hb hts (fun _ h9 => List.mem_cons_of_mem _ (inT_Lo _ h9)) hown hK hw.1 1 (WL_get (by decide)) rfl 1 (by decide) (hts _ (List.mem_cons_of_mem _ tw_62)) (fun _ h9 => h9) rfl d_WS_begin_133 ?_
      refine lv_iload_n hx hb d_WS_begin_136 rfl (lv_at hl 1 rfl) ?_
      obtain ⟨v137, hv, h⟩ := bd h
      refine m_iaload hx hb hK hw hv d_WS_begin_137 ?_
      refine lv_i2l hx hb d_WS_begin_138 rfl ?_
      refine lv_lmul hx hb d_WS_begin_139 ?_
      obtain ⟨r140, hq, h⟩ := bd h
      refine m_pcall (r := .long r140) (W.runS (As := [.long (0 : Int64), .long (v128 * v137.toInt64)]) (rest := [.long v116, .int x2, .ref (G.2.1 a105)]) ⟨hx, hb, hml, hown, hts⟩ (c_Ma_max l N (0 : Int64) (v128 * v137.toInt64) hq) (va_cwS 2 hts (gdS tw_375 tw_376 tw_43 tw_377) rfl rfl rfl (by decide +kernel) ⟨Nat.le_of_ble_eq_true rfl, Nat.le_of_ble_eq_true rfl⟩) preEq rfl rfl hl.1 rfl (lv_room (Nat.le_of_ble_eq_true rfl)) d_WS_begin_140 ⟨Nat.zero_le _, Nat.zero_le _⟩) ?_
      refine lv_ladd hx hb d_WS_begin_143 ?_
      obtain ⟨μ144, hm, h⟩ := bd h
      refine m_lastore hx hb hK hw hm d_WS_begin_144 (fun H locs hw => ?_)
      refine lv_iinc (v := x2 + 1) (lv' := [(2, .int (x2 + 1)), (0, .ref (G.2.1 5)), (1, .int x1)]) hx hb d_WS_begin_145 hl (k := 2) rfl rfl (by decide) rfl (fun ls hl => ?_)
      refine lv_goto (tgt := 87) hx hb d_WS_begin_148 (by decide) ?_
      exact ih x1 (x2 + 1) μ144 _ _ _ hw (lv_sub hl [1, 2, 0] rfl) h
set_option maxRecDepth 100000 in
set_option maxHeartbeats 4000000 in
theorem w_WS_begin_42 {μ' : Mem} {N : Nat} (C : CxA G p s m args meth c prog_7_method_3_code 3 none "RecipePlans$WholeSearch" ws_WS_begin) : ∀ (n : Nat) (x1 : Int32) (μ : Mem) (H : Heap) (locs : List Loc) (ls : Array Slot), Wk G s μ H locs → lv_has ls 3 [(0, .ref (G.2.1 5)), (1, .int x1)] → M_WS_begin_42 N n x1 μ = some μ' → WA G rm_WS_begin p l e s m args below meth c none μ' H locs 42 ls [] := by
  obtain ⟨hx, hb, hr, hml, hown, hts, hlk, hK, hSt⟩ := id C
  intro n
  induction n with
  | zero =>
    intro x1 μ H locs ls hw hl h
    rw [M_WS_begin_42] at h
    cases h
  | succ n ih =>
    intro x1 μ H locs ls hw hl h
    rw [M_WS_begin_42] at h
    refine lv_iload_n hx hb d_WS_begin_42 rfl (lv_at hl 1 rfl) ?_
    refine lv_if_lt (tgt := 157) hx hb d_WS_begin_43 (by decide) (fun c43 => ?_) (fun c43 => ?_)
    · have h := ifp c43 h
      exact m_vret hx hb hr hlk hw h d_WS_begin_157
    · have h := ifn c43 h
      refine lv_aload_n hx hb d_WS_begin_46 rfl (lv_at hl 0 rfl) ?_
      refine va_get (D := G.1) (ci := 5) (v := .ref (G.2.1 45)) (C := "RecipePlans$WholeSearch") (T := T_WS) (N := 9) hx hb hts (fun _ h9 => List.mem_cons_of_mem _ (inT_WS _ h9)) hown hK hw.1 5 (WL_get (by decide)) rfl 4 (by decide) (hts _ (List.mem_cons_of_mem _ tw_173)) (fun _ h9 => h9) rfl d_WS_begin_47 ?_
      refine lv_iload_n hx hb d_WS_begin_50 rfl (lv_at hl 1 rfl) ?_
      refine lv_aload_n hx hb d_WS_begin_51 rfl (lv_at hl 0 rfl) ?_
      refine va_get (D := G.1) (ci := 5) (v := .ref (G.2.1 45)) (C := "RecipePlans$WholeSearch") (T := T_WS) (N := 9) hx hb hts (fun _ h9 => List.mem_cons_of_mem _ (inT_WS _ h9)) hown hK hw.1 5 (WL_get (by decide)) rfl 4 (by decide) (hts _ (List.mem_cons_of_mem _ tw_173)) (fun _ h9 => h9) rfl d_WS_begin_52 ?_
      refine lv_iload_n hx hb d_WS_begin_55 rfl (lv_at hl 1 rfl) ?_
      refine lv_iconst (v := 1) hx hb d_WS_begin_56 (by decide) ?_
      refine lv_iadd hx hb d_WS_begin_57 ?_
      obtain ⟨v58, hv, h⟩ := bd h
      refine m_laload hx hb hK hw hv d_WS_begin_58 ?_
      refine lv_lconst (v := 0) hx hb d_WS_begin_59 (by decide) ?_
      refine lv_aload_n hx hb d_WS_begin_60 rfl (lv_at hl 0 rfl) ?_
      refine va_get (D := G.1) (ci := 5) (v := .ref (G.2.1 1)) (C := "RecipePlans$WholeSearch") (T := T_WS) (N := 9) hx hb hts (fun _ h9 => List.mem_cons_of_mem _ (inT_WS _ h9)) hown hK hw.1 5 (WL_get (by decide)) rfl 0 (by decide) (hts _ (List.mem_cons_of_mem _ tw_169)) (fun _ h9 => h9) rfl d_WS_begin_61 ?_
      refine va_get (D := G.1) (ci := 1) (v := .ref (G.2.1 42)) (C := "RecipePlans$Lots") (T := T_Lo) (N := 4) hx hb hts (fun _ h9 => List.mem_cons_of_mem _ (inT_Lo _ h9)) hown hK hw.1 1 (WL_get (by decide)) rfl 2 (by decide) (hts _ (List.mem_cons_of_mem _ tw_66)) (fun _ h9 => h9) rfl d_WS_begin_64 ?_
      refine lv_iload_n hx hb d_WS_begin_67 rfl (lv_at hl 1 rfl) ?_
      obtain ⟨v68, hv, h⟩ := bd h
      refine m_laload hx hb hK hw hv d_WS_begin_68 ?_
      refine lv_aload_n hx hb d_WS_begin_69 rfl (lv_at hl 0 rfl) ?_
      refine va_get (D := G.1) (ci := 5) (v := .ref (G.2.1 1)) (C := "RecipePlans$WholeSearch") (T := T_WS) (N := 9) hx hb hts (fun _ h9 => List.mem_cons_of_mem _ (inT_WS _ h9)) hown hK hw.1 5 (WL_get (by decide)) rfl 0 (by decide) (hts _ (List.mem_cons_of_mem _ tw_169)) (fun _ h9 => h9) rfl d_WS_begin_70 ?_
      refine va_get (D := G.1) (ci := 1) (v := .ref (G.2.1 17)) (C := "RecipePlans$Lots") (T := T_Lo) (N := 4) hx hb hts (fun _ h9 => List.mem_cons_of_mem _ (inT_Lo _ h9)) hown hK hw.1 1 (WL_get (by decide)) rfl 1 (by decide) (hts _ (List.mem_cons_of_mem _ tw_62)) (fun _ h9 => h9) rfl d_WS_begin_73 ?_
      refine lv_iload_n hx hb d_WS_begin_76 rfl (lv_at hl 1 rfl) ?_
      obtain ⟨v77, hv, h⟩ := bd h
      refine m_iaload hx hb hK hw hv d_WS_begin_77 ?_
      refine lv_i2l hx hb d_WS_begin_78 rfl ?_
      refine lv_lmul hx hb d_WS_begin_79 ?_
      obtain ⟨r80, hq, h⟩ := bd h
      refine m_pcall (r := .long r80) (W.runS (As := [.long (0 : Int64), .long (v68 * v77.toInt64)]) (rest := [.long v58, .int x1, .ref (G.2.1 45)]) ⟨hx, hb, hml, hown, hts⟩ (c_Ma_min l N (0 : Int64) (v68 * v77.toInt64) hq) (va_cwS 2 hts (gdS tw_372 tw_373 tw_43 tw_374) rfl rfl rfl (by decide +kernel) ⟨Nat.le_of_ble_eq_true rfl, Nat.le_of_ble_eq_true rfl⟩) preEq rfl rfl hl.1 rfl (lv_room (Nat.le_of_ble_eq_true rfl)) d_WS_begin_80 ⟨Nat.zero_le _, Nat.zero_le _⟩) ?_
      refine lv_ladd hx hb d_WS_begin_83 ?_
      obtain ⟨μ84, hm, h⟩ := bd h
      refine m_lastore hx hb hK hw hm d_WS_begin_84 (fun H locs hw => ?_)
      refine lv_iconst (v := 0) hx hb d_WS_begin_85 (by decide) ?_
      refine lv_istore_n (lv' := [(2, .int (0 : Int32)), (0, .ref (G.2.1 5)), (1, .int x1)]) hx hb d_WS_begin_86 rfl hl (by decide) rfl (fun ls hl => ?_)
      exact w_WS_begin_87 C ih N x1 (0 : Int32) μ84 _ _ _ hw (lv_sub hl [1, 2, 0] rfl) h
set_option maxRecDepth 100000 in
set_option maxHeartbeats 4000000 in
theorem w_WS_begin_2 {μ' : Mem} {N : Nat} (C : CxA G p s m args meth c prog_7_method_3_code 3 none "RecipePlans$WholeSearch" ws_WS_begin) : ∀ (n : Nat) (x1 : Int32) (μ : Mem) (H : Heap) (locs : List Loc) (ls : Array Slot), Wk G s μ H locs → lv_has ls 3 [(0, .ref (G.2.1 5)), (1, .int x1)] → M_WS_begin_2 N n x1 μ = some μ' → WA G rm_WS_begin p l e s m args below meth c none μ' H locs 2 ls [] := by
  obtain ⟨hx, hb, hr, hml, hown, hts, hlk, hK, hSt⟩ := id C
  intro n
  induction n with
  | zero =>
    intro x1 μ H locs ls hw hl h
    rw [M_WS_begin_2] at h
    cases h
  | succ n ih =>
    intro x1 μ H locs ls hw hl h
    rw [M_WS_begin_2] at h
    refine lv_iload_n hx hb d_WS_begin_2 rfl (lv_at hl 1 rfl) ?_
    refine lv_iconst (v := 2) hx hb d_WS_begin_3 (by decide) ?_
    refine lv_aload_n hx hb d_WS_begin_4 rfl (lv_at hl 0 rfl) ?_
    refine va_get (D := G.1) (ci := 5) (v := .ref (G.2.1 3)) (C := "RecipePlans$WholeSearch") (T := T_WS) (N := 9) hx hb hts (fun _ h9 => List.mem_cons_of_mem _ (inT_WS _ h9)) hown hK hw.1 5 (WL_get (by decide)) rfl 1 (by decide) (hts _ (List.mem_cons_of_mem _ tw_170)) (fun _ h9 => h9) rfl d_WS_begin_5 ?_
    refine va_get (D := G.1) (ci := 3) (v := .int (μ.1 3 0)) (C := "RecipePlans$Sides") (T := T_Si) (N := 3) hx hb hts (fun _ h9 => List.mem_cons_of_mem _ (inT_Si _ h9)) hown hK hw.1 3 (WL_get (by decide)) rfl 0 (by decide) (hts _ (List.mem_cons_of_mem _ tw_114)) (fun _ h9 => h9) rfl d_WS_begin_8 ?_
    refine lv_imul hx hb d_WS_begin_11 ?_
    refine lv_icmp_ge (tgt := 40) hx hb d_WS_begin_12 (by decide) (fun c12 => ?_) (fun c12 => ?_)
    · have h := ifp c12 h
      refine lv_iconst (v := 3) hx hb d_WS_begin_40 (by decide) ?_
      refine lv_istore_n (lv' := [(1, .int (3 : Int32)), (0, .ref (G.2.1 5))]) hx hb d_WS_begin_41 rfl hl (by decide) rfl (fun ls hl => ?_)
      exact w_WS_begin_42 C N (3 : Int32) μ _ _ _ hw (lv_sub hl [1, 0] rfl) h
    · have h := ifn c12 h
      refine lv_aload_n hx hb d_WS_begin_15 rfl (lv_at hl 0 rfl) ?_
      refine va_get (D := G.1) (ci := 5) (v := .ref (G.2.1 11)) (C := "RecipePlans$WholeSearch") (T := T_WS) (N := 9) hx hb hts (fun _ h9 => List.mem_cons_of_mem _ (inT_WS _ h9)) hown hK hw.1 5 (WL_get (by decide)) rfl 2 (by decide) (hts _ (List.mem_cons_of_mem _ tw_171)) (fun _ h9 => h9) rfl d_WS_begin_16 ?_
      refine lv_iconst (v := 0) hx hb d_WS_begin_19 (by decide) ?_
      obtain ⟨a20, hv, h⟩ := bd h
      refine m_aaload hx hb hK hw hv d_WS_begin_20 ?_
      refine lv_iload_n hx hb d_WS_begin_21 rfl (lv_at hl 1 rfl) ?_
      refine lv_aload_n hx hb d_WS_begin_22 rfl (lv_at hl 0 rfl) ?_
      refine va_get (D := G.1) (ci := 5) (v := .ref (G.2.1 3)) (C := "RecipePlans$WholeSearch") (T := T_WS) (N := 9) hx hb hts (fun _ h9 => List.mem_cons_of_mem _ (inT_WS _ h9)) hown hK hw.1 5 (WL_get (by decide)) rfl 1 (by decide) (hts _ (List.mem_cons_of_mem _ tw_170)) (fun _ h9 => h9) rfl d_WS_begin_23 ?_
      refine va_get (D := G.1) (ci := 3) (v := .ref (G.2.1 9)) (C := "RecipePlans$Sides") (T := T_Si) (N := 3) hx hb hts (fun _ h9 => List.mem_cons_of_mem _ (inT_Si _ h9)) hown hK hw.1 3 (WL_get (by decide)) rfl 2 (by decide) (hts _ (List.mem_cons_of_mem _ tw_119)) (fun _ h9 => h9) rfl d_WS_begin_26 ?_
      refine lv_iload_n hx hb d_WS_begin_29 rfl (lv_at hl 1 rfl) ?_
      obtain ⟨a30, hv, h⟩ := bd h
      refine m_aaload hx hb hK hw hv d_WS_begin_30 ?_
      refine lv_iconst (v := 4) hx hb d_WS_begin_31 (by decide) ?_
      obtain ⟨v32, hv, h⟩ := bd h
      refine m_laload hx hb hK hw hv d_WS_begin_32 ?_
      obtain ⟨μ33, hm, h⟩ := bd h
      refine m_lastore hx hb hK hw hm d_WS_begin_33 (fun H locs hw => ?_)
      refine lv_iinc (v := x1 + 1) (lv' := [(1, .int (x1 + 1)), (0, .ref (G.2.1 5))]) hx hb d_WS_begin_34 hl (k := 1) rfl rfl (by decide) rfl (fun ls hl => ?_)
      refine lv_goto (tgt := 2) hx hb d_WS_begin_37 (by decide) ?_
      exact ih (x1 + 1) μ33 _ _ _ hw (lv_sub hl [1, 0] rfl) h
set_option maxRecDepth 100000 in
set_option maxHeartbeats 4000000 in
theorem c_WS_begin (l : Launch) (G : Gw) (N : Nat) (μ : Mem) {μ' : Mem} (h : M_WS_begin N μ = some μ') : CT l y_WS_begin ws_WS_begin rm_WS_begin [.ref (G.2.1 5)] G μ none μ' := by
  refine m_met (cc := prog_7_method_3_code) (maxL := 3) (ret := none) (by decide) rfl (Nat.le_of_ble_eq_true rfl) ?_
  intro p e s m args below meth c ls C hw hl
  obtain ⟨hx, hb, hr, hml, hown, hts, hlk, hK, hSt⟩ := id C
  have hl : lv_has ls 3 [(0, .ref (G.2.1 5))] := hl
  unfold M_WS_begin at h
  refine lv_iconst (v := 0) hx hb d_WS_begin_0 (by decide) ?_
  refine lv_istore_n (lv' := [(1, .int (0 : Int32)), (0, .ref (G.2.1 5))]) hx hb d_WS_begin_1 rfl hl (by decide) rfl (fun ls hl => ?_)
  exact w_WS_begin_2 C N (0 : Int32) μ _ _ _ hw (lv_sub hl [1, 0] rfl) h
set_option maxRecDepth 100000 in
set_option maxHeartbeats 4000000 in
theorem w_WS_mostLoads_14 {r : Int32} {μ' : Mem} {N : Nat} (C : CxA G p s m args meth c prog_7_method_7_code 9 (some .int) "RecipePlans$WholeSearch" ws_WS_mostLoads) : ∀ (n : Nat) (x1 : Int32) (x2 : Int64) (x4 : Int32) (μ : Mem) (H : Heap) (locs : List Loc) (ls : Array Slot), Wk G s μ H locs → lv_has ls 9 [(0, .ref (G.2.1 5)), (1, .int x1), (2, .long x2), (4, .int x4)] → M_WS_mostLoads_14 N n x1 x2 x4 μ = some (r, μ') → WA G rm_WS_mostLoads p l e s m args below meth c (some (.int r)) μ' H locs 14 ls [] := by
  obtain ⟨hx, hb, hr, hml, hown, hts, hlk, hK, hSt⟩ := id C
  intro n
  induction n with
  | zero =>
    intro x1 x2 x4 μ H locs ls hw hl h
    rw [M_WS_mostLoads_14] at h
    cases h
  | succ n ih =>
    intro x1 x2 x4 μ H locs ls hw hl h
    rw [M_WS_mostLoads_14] at h
    refine lv_iload hx hb d_WS_mostLoads_14 (lv_at hl 3 rfl) ?_
    refine lv_iconst (v := 2) hx hb d_WS_mostLoads_16 (by decide) ?_
    refine lv_aload_n hx hb d_WS_mostLoads_17 rfl (lv_at hl 0 rfl) ?_
    refine va_get (D := G.1) (ci := 5) (v := .ref (G.2.1 3)) (C := "RecipePlans$WholeSearch") (T := T_WS) (N := 9) hx hb hts (fun _ h9 => List.mem_cons_of_mem _ (inT_WS _ h9)) hown hK hw.1 5 (WL_get (by decide)) rfl 1 (by decide) (hts _ (List.mem_cons_of_mem _ tw_170)) (fun _ h9 => h9) rfl d_WS_mostLoads_18 ?_
    refine va_get (D := G.1) (ci := 3) (v := .int (μ.1 3 0)) (C := "RecipePlans$Sides") (T := T_Si) (N := 3) hx hb hts (fun _ h9 => List.mem_cons_of_mem _ (inT_Si _ h9)) hown hK hw.1 3 (WL_get (by decide)) rfl 0 (by decide) (hts _ (List.mem_cons_of_mem _ tw_114)) (fun _ h9 => h9) rfl d_WS_mostLoads_21 ?_
    refine lv_imul hx hb d_WS_mostLoads_24 ?_
    refine lv_icmp_ge (tgt := 110) hx hb d_WS_mostLoads_25 (by decide) (fun c25 => ?_) (fun c25 => ?_)
    · have h := ifp c25 h
      refine lv_lload_n hx hb d_WS_mostLoads_110 rfl (lv_at hl 2 rfl) ?_
      refine lv_ldc2 (v := -1) hx hb hown (hts _ (List.mem_cons_of_mem _ tw_385)) d_WS_mostLoads_111 ?_
      obtain ⟨r114, hq, h⟩ := bd h
      refine m_pcall (r := .long r114) (W.runS (As := [.long x2, .long (-1 : Int64)]) (rest := []) ⟨hx, hb, hml, hown, hts⟩ (c_Ma_max l N x2 (-1 : Int64) hq) (va_cwS 2 hts (gdS tw_375 tw_376 tw_43 tw_377) rfl rfl rfl (by decide +kernel) ⟨Nat.le_of_ble_eq_true rfl, Nat.le_of_ble_eq_true rfl⟩) preEq rfl rfl hl.1 rfl (lv_room (Nat.le_of_ble_eq_true rfl)) d_WS_mostLoads_114 ⟨Nat.zero_le _, Nat.zero_le _⟩) ?_
      refine lv_l2i hx hb d_WS_mostLoads_117 rfl ?_
      exact m_iret hx hb hr hlk hw h d_WS_mostLoads_118
    · have h := ifn c25 h
      refine lv_aload_n hx hb d_WS_mostLoads_28 rfl (lv_at hl 0 rfl) ?_
      refine va_get (D := G.1) (ci := 5) (v := .ref (G.2.1 3)) (C := "RecipePlans$WholeSearch") (T := T_WS) (N := 9) hx hb hts (fun _ h9 => List.mem_cons_of_mem _ (inT_WS _ h9)) hown hK hw.1 5 (WL_get (by decide)) rfl 1 (by decide) (hts _ (List.mem_cons_of_mem _ tw_170)) (fun _ h9 => h9) rfl d_WS_mostLoads_29 ?_
      refine va_get (D := G.1) (ci := 3) (v := .ref (G.2.1 9)) (C := "RecipePlans$Sides") (T := T_Si) (N := 3) hx hb hts (fun _ h9 => List.mem_cons_of_mem _ (inT_Si _ h9)) hown hK hw.1 3 (WL_get (by decide)) rfl 2 (by decide) (hts _ (List.mem_cons_of_mem _ tw_119)) (fun _ h9 => h9) rfl d_WS_mostLoads_32 ?_
      refine lv_iload hx hb d_WS_mostLoads_35 (lv_at hl 3 rfl) ?_
      obtain ⟨a37, hv, h⟩ := bd h
      refine m_aaload hx hb hK hw hv d_WS_mostLoads_37 ?_
      refine lv_iload_n hx hb d_WS_mostLoads_38 rfl (lv_at hl 1 rfl) ?_
      obtain ⟨v39, hv, h⟩ := bd h
      refine m_laload hx hb hK hw hv d_WS_mostLoads_39 ?_
      refine lv_lstore (lv' := [(5, .long v39), (0, .ref (G.2.1 5)), (1, .int x1), (2, .long x2), (4, .int x4)]) hx hb d_WS_mostLoads_40 hl (by decide) rfl (fun ls hl => ?_)
      refine lv_aload_n hx hb d_WS_mostLoads_42 rfl (lv_at hl 1 rfl) ?_
      refine va_get (D := G.1) (ci := 5) (v := .ref (G.2.1 11)) (C := "RecipePlans$WholeSearch") (T := T_WS) (N := 9) hx hb hts (fun _ h9 => List.mem_cons_of_mem _ (inT_WS _ h9)) hown hK hw.1 5 (WL_get (by decide)) rfl 2 (by decide) (hts _ (List.mem_cons_of_mem _ tw_171)) (fun _ h9 => h9) rfl d_WS_mostLoads_43 ?_
      refine lv_iload_n hx hb d_WS_mostLoads_46 rfl (lv_at hl 2 rfl) ?_
      obtain ⟨a47, hv, h⟩ := bd h
      refine m_aaload hx hb hK hw hv d_WS_mostLoads_47 ?_
      refine lv_iload hx hb d_WS_mostLoads_48 (lv_at hl 4 rfl) ?_
      obtain ⟨v50, hv, h⟩ := bd h
      refine m_laload hx hb hK hw hv d_WS_mostLoads_50 ?_
      refine lv_aload_n hx hb d_WS_mostLoads_51 rfl (lv_at hl 1 rfl) ?_
      refine va_get (D := G.1) (ci := 5) (v := .ref (G.2.1 12)) (C := "RecipePlans$WholeSearch") (T := T_WS) (N := 9) hx hb hts (fun _ h9 => List.mem_cons_of_mem _ (inT_WS _ h9)) hown hK hw.1 5 (WL_get (by decide)) rfl 3 (by decide) (hts _ (List.mem_cons_of_mem _ tw_172)) (fun _ h9 => h9) rfl d_WS_mostLoads_52 ?_
      refine lv_iload_n hx hb d_WS_mostLoads_55 rfl (lv_at hl 2 rfl) ?_
      refine lv_iconst (v := 1) hx hb d_WS_mostLoads_56 (by decide) ?_
      refine lv_iadd hx hb d_WS_mostLoads_57 ?_
      obtain ⟨a58, hv, h⟩ := bd h
      refine m_aaload hx hb hK hw hv d_WS_mostLoads_58 ?_
      refine lv_iload hx hb d_WS_mostLoads_59 (lv_at hl 4 rfl) ?_
      obtain ⟨v61, hv, h⟩ := bd h
      refine m_laload hx hb hK hw hv d_WS_mostLoads_61 ?_
      refine lv_ladd hx hb d_WS_mostLoads_62 ?_
      obtain ⟨x7_63, ex7_63, h⟩ := nmx h
      refine m_eql ex7_63 ?_
      refine lv_lstore (lv' := [(7, .long x7_63), (5, .long v39), (0, .ref (G.2.1 5)), (1, .int x1), (2, .long x2), (4, .int x4)]) hx hb d_WS_mostLoads_63 hl (by decide) rfl (fun ls hl => ?_)
      refine lv_lload hx hb d_WS_mostLoads_65 (lv_at hl 1 rfl) ?_
      refine lv_lconst (v := 0) hx hb d_WS_mostLoads_67 (by decide) ?_
      refine W.lcmp hx hb d_WS_mostLoads_68 ?_
      refine lv_if_ge (tgt := 88) hx hb d_WS_mostLoads_69 (by decide) (fun c69 => ?_) (fun c69 => ?_)
      · have h := ifp c69 h
        refine lv_lload hx hb d_WS_mostLoads_88 (lv_at hl 1 rfl) ?_
        refine lv_lconst (v := 0) hx hb d_WS_mostLoads_90 (by decide) ?_
        refine W.lcmp hx hb d_WS_mostLoads_91 ?_
        refine lv_if_ne (tgt := 104) hx hb d_WS_mostLoads_92 (by decide) (fun c92 => ?_) (fun c92 => ?_)
        · have h := ifn c92 h
          refine lv_iinc (v := x4 + 1) (lv' := [(4, .int (x4 + 1)), (7, .long x7_63), (5, .long v39), (0, .ref (G.2.1 5)), (1, .int x1), (2, .long x2)]) hx hb d_WS_mostLoads_104 hl (k := 5) rfl rfl (by decide) rfl (fun ls hl => ?_)
          refine lv_goto (tgt := 14) hx hb d_WS_mostLoads_107 (by decide) ?_
          exact ih x1 x2 (x4 + 1) μ _ _ _ hw (lv_sub hl [3, 4, 5, 0] rfl) h
        · have h := ifp c92 h
          refine lv_lload hx hb d_WS_mostLoads_95 (lv_at hl 0 rfl) ?_
          refine lv_lconst (v := 0) hx hb d_WS_mostLoads_97 (by decide) ?_
          refine W.lcmp hx hb d_WS_mostLoads_98 ?_
          refine lv_if_ge (tgt := 104) hx hb d_WS_mostLoads_99 (by decide) (fun c99 => ?_) (fun c99 => ?_)
          · have h := ifp c99 h
            refine lv_iinc (v := x4 + 1) (lv' := [(4, .int (x4 + 1)), (7, .long x7_63), (5, .long v39), (0, .ref (G.2.1 5)), (1, .int x1), (2, .long x2)]) hx hb d_WS_mostLoads_104 hl (k := 5) rfl rfl (by decide) rfl (fun ls hl => ?_)
            refine lv_goto (tgt := 14) hx hb d_WS_mostLoads_107 (by decide) ?_
            exact ih x1 x2 (x4 + 1) μ _ _ _ hw (lv_sub hl [3, 4, 5, 0] rfl) h
          · have h := ifn c99 h
            refine lv_iconst (v := -1) hx hb d_WS_mostLoads_102 (by decide) ?_
            exact m_iret hx hb hr hlk hw h d_WS_mostLoads_103
      · have h := ifn c69 h
        refine lv_lload_n hx hb d_WS_mostLoads_72 rfl (lv_at hl 4 rfl) ?_
        refine lv_lload hx hb d_WS_mostLoads_73 (lv_at hl 0 rfl) ?_
        refine lv_lload hx hb d_WS_mostLoads_75 (lv_at hl 1 rfl) ?_
        refine lv_lneg hx hb d_WS_mostLoads_77 ?_
        obtain ⟨r78, hq, h⟩ := bd h
        refine m_pcall (r := .long r78) (W.runS (As := [.long x7_63, .long (-v39)]) (rest := [.long x2]) ⟨hx, hb, hml, hown, hts⟩ (c_Ma_floorDiv l N x7_63 (-v39) hq) (va_cwS 2 hts (gdS tw_384 tw_342 tw_43 tw_343) rfl rfl rfl (by decide +kernel) ⟨Nat.le_of_ble_eq_true rfl, Nat.le_of_ble_eq_true rfl⟩) preEq rfl rfl hl.1 rfl (lv_room (Nat.le_of_ble_eq_true rfl)) d_WS_mostLoads_78 ⟨Nat.zero_le _, Nat.zero_le _⟩) ?_
        obtain ⟨r81, hq, h⟩ := bd h
        refine m_pcall (r := .long r81) (W.runS (As := [.long x2, .long r78]) (rest := []) ⟨hx, hb, hml, hown, hts⟩ (c_Ma_min l N x2 r78 hq) (va_cwS 2 hts (gdS tw_372 tw_373 tw_43 tw_374) rfl rfl rfl (by decide +kernel) ⟨Nat.le_of_ble_eq_true rfl, Nat.le_of_ble_eq_true rfl⟩) preEq rfl rfl hl.1 rfl (lv_room (Nat.le_of_ble_eq_true rfl)) d_WS_mostLoads_81 ⟨Nat.zero_le _, Nat.zero_le _⟩) ?_
        refine lv_lstore_n (lv' := [(2, .long r81), (7, .long x7_63), (5, .long v39), (0, .ref (G.2.1 5)), (1, .int x1), (4, .int x4)]) hx hb d_WS_mostLoads_84 rfl hl (by decide) rfl (fun ls hl => ?_)
        refine lv_goto (tgt := 104) hx hb d_WS_mostLoads_85 (by decide) ?_
        refine lv_iinc (v := x4 + 1) (lv' := [(4, .int (x4 + 1)), (2, .long r81), (7, .long x7_63), (5, .long v39), (0, .ref (G.2.1 5)), (1, .int x1)]) hx hb d_WS_mostLoads_104 hl (k := 5) rfl rfl (by decide) rfl (fun ls hl => ?_)
        refine lv_goto (tgt := 14) hx hb d_WS_mostLoads_107 (by decide) ?_
        exact ih x1 r81 (x4 + 1) μ _ _ _ hw (lv_sub hl [4, 5, 1, 0] rfl) h
set_option maxRecDepth 100000 in
set_option maxHeartbeats 4000000 in
theorem c_WS_mostLoads (l : Launch) (G : Gw) (N : Nat) (x1 : Int32) (μ : Mem) {r : Int32} {μ' : Mem} (h : M_WS_mostLoads N x1 μ = some (r, μ')) : CT l y_WS_mostLoads ws_WS_mostLoads rm_WS_mostLoads [.ref (G.2.1 5), .int x1] G μ (some (.int r)) μ' := by
  refine m_met (cc := prog_7_method_7_code) (maxL := 9) (ret := (some .int)) (by decide) rfl (Nat.le_of_ble_eq_true rfl) ?_
  intro p e s m args below meth c ls C hw hl
  obtain ⟨hx, hb, hr, hml, hown, hts, hlk, hK, hSt⟩ := id C
  have hl : lv_has ls 9 [(0, .ref (G.2.1 5)), (1, .int x1)] := hl
  unfold M_WS_mostLoads at h
  refine lv_aload_n hx hb d_WS_mostLoads_0 rfl (lv_at hl 0 rfl) ?_
  refine va_get (D := G.1) (ci := 5) (v := .ref (G.2.1 1)) (C := "RecipePlans$WholeSearch") (T := T_WS) (N := 9) hx hb hts (fun _ h9 => List.mem_cons_of_mem _ (inT_WS _ h9)) hown hK hw.1 5 (WL_get (by decide)) rfl 0 (by decide) (hts _ (List.mem_cons_of_mem _ tw_169)) (fun _ h9 => h9) rfl d_WS_mostLoads_1 ?_
  refine va_get (D := G.1) (ci := 1) (v := .ref (G.2.1 17)) (C := "RecipePlans$Lots") (T := T_Lo) (N := 4) hx hb hts (fun _ h9 => List.mem_cons_of_mem _ (inT_Lo _ h9)) hown hK hw.1 1 (WL_get (by decide)) rfl 1 (by decide) (hts _ (List.mem_cons_of_mem _ tw_62)) (fun _ h9 => h9) rfl d_WS_mostLoads_4 ?_
  refine lv_iload_n hx hb d_WS_mostLoads_7 rfl (lv_at hl 1 rfl) ?_
  obtain ⟨v8, hv, h⟩ := bd h
  refine m_iaload hx hb hK hw hv d_WS_mostLoads_8 ?_
  refine lv_i2l hx hb d_WS_mostLoads_9 rfl ?_
  obtain ⟨x2_10, ex2_10, h⟩ := nmx h
  refine m_eql ex2_10 ?_
  refine lv_lstore_n (lv' := [(2, .long x2_10), (0, .ref (G.2.1 5)), (1, .int x1)]) hx hb d_WS_mostLoads_10 rfl hl (by decide) rfl (fun ls hl => ?_)
  refine lv_iconst (v := 0) hx hb d_WS_mostLoads_11 (by decide) ?_
  refine lv_istore (lv' := [(4, .int (0 : Int32)), (2, .long x2_10), (0, .ref (G.2.1 5)), (1, .int x1)]) hx hb d_WS_mostLoads_12 hl (by decide) rfl (fun ls hl => ?_)
  exact w_WS_mostLoads_14 C N x1 x2_10 (0 : Int32) μ _ _ _ hw (lv_sub hl [2, 3, 1, 0] rfl) h
set_option maxRecDepth 100000 in
set_option maxHeartbeats 4000000 in
theorem w_WS_fewestLoads_5 {r : Int32} {μ' : Mem} {N : Nat} (C : CxA G p s m args meth c prog_7_method_8_code 9 (some .int) "RecipePlans$WholeSearch" ws_WS_fewestLoads) : ∀ (n : Nat) (x1 : Int32) (x2 : Int64) (x4 : Int32) (μ : Mem) (H : Heap) (locs : List Loc) (ls : Array Slot), Wk G s μ H locs → lv_has ls 9 [(0, .ref (G.2.1 5)), (1, .int x1), (2, .long x2), (4, .int x4)] → M_WS_fewestLoads_5 N n x1 x2 x4 μ = some (r, μ') → WA G rm_WS_fewestLoads p l e s m args below meth c (some (.int r)) μ' H locs 5 ls [] := by
  obtain ⟨hx, hb, hr, hml, hown, hts, hlk, hK, hSt⟩ := id C
  intro n
  induction n with
  | zero =>
    intro x1 x2 x4 μ H locs ls hw hl h
    rw [M_WS_fewestLoads_5] at h
    cases h
  | succ n ih =>
    intro x1 x2 x4 μ H locs ls hw hl h
    rw [M_WS_fewestLoads_5] at h
    refine lv_iload hx hb d_WS_fewestLoads_5 (lv_at hl 3 rfl) ?_
    refine lv_iconst (v := 2) hx hb d_WS_fewestLoads_7 (by decide) ?_
    refine lv_aload_n hx hb d_WS_fewestLoads_8 rfl (lv_at hl 0 rfl) ?_
    refine va_get (D := G.1) (ci := 5) (v := .ref (G.2.1 3)) (C := "RecipePlans$WholeSearch") (T := T_WS) (N := 9) hx hb hts (fun _ h9 => List.mem_cons_of_mem _ (inT_WS _ h9)) hown hK hw.1 5 (WL_get (by decide)) rfl 1 (by decide) (hts _ (List.mem_cons_of_mem _ tw_170)) (fun _ h9 => h9) rfl d_WS_fewestLoads_9 ?_
    refine va_get (D := G.1) (ci := 3) (v := .int (μ.1 3 0)) (C := "RecipePlans$Sides") (T := T_Si) (N := 3) hx hb hts (fun _ h9 => List.mem_cons_of_mem _ (inT_Si _ h9)) hown hK hw.1 3 (WL_get (by decide)) rfl 0 (by decide) (hts _ (List.mem_cons_of_mem _ tw_114)) (fun _ h9 => h9) rfl d_WS_fewestLoads_12 ?_
    refine lv_imul hx hb d_WS_fewestLoads_15 ?_
    refine lv_icmp_ge (tgt := 82) hx hb d_WS_fewestLoads_16 (by decide) (fun c16 => ?_) (fun c16 => ?_)
    · have h := ifp c16 h
      refine lv_lload_n hx hb d_WS_fewestLoads_82 rfl (lv_at hl 2 rfl) ?_
      refine lv_ldc2 (v := 10) hx hb hown (hts _ (List.mem_cons_of_mem _ tw_389)) d_WS_fewestLoads_83 ?_
      obtain ⟨r86, hq, h⟩ := bd h
      refine m_pcall (r := .long r86) (W.runS (As := [.long x2, .long (10 : Int64)]) (rest := []) ⟨hx, hb, hml, hown, hts⟩ (c_Ma_min l N x2 (10 : Int64) hq) (va_cwS 2 hts (gdS tw_372 tw_373 tw_43 tw_374) rfl rfl rfl (by decide +kernel) ⟨Nat.le_of_ble_eq_true rfl, Nat.le_of_ble_eq_true rfl⟩) preEq rfl rfl hl.1 rfl (lv_room (Nat.le_of_ble_eq_true rfl)) d_WS_fewestLoads_86 ⟨Nat.zero_le _, Nat.zero_le _⟩) ?_
      refine lv_l2i hx hb d_WS_fewestLoads_89 rfl ?_
      exact m_iret hx hb hr hlk hw h d_WS_fewestLoads_90
    · have h := ifn c16 h
      refine lv_aload_n hx hb d_WS_fewestLoads_19 rfl (lv_at hl 0 rfl) ?_
      refine va_get (D := G.1) (ci := 5) (v := .ref (G.2.1 3)) (C := "RecipePlans$WholeSearch") (T := T_WS) (N := 9) hx hb hts (fun _ h9 => List.mem_cons_of_mem _ (inT_WS _ h9)) hown hK hw.1 5 (WL_get (by decide)) rfl 1 (by decide) (hts _ (List.mem_cons_of_mem _ tw_170)) (fun _ h9 => h9) rfl d_WS_fewestLoads_20 ?_
      refine va_get (D := G.1) (ci := 3) (v := .ref (G.2.1 9)) (C := "RecipePlans$Sides") (T := T_Si) (N := 3) hx hb hts (fun _ h9 => List.mem_cons_of_mem _ (inT_Si _ h9)) hown hK hw.1 3 (WL_get (by decide)) rfl 2 (by decide) (hts _ (List.mem_cons_of_mem _ tw_119)) (fun _ h9 => h9) rfl d_WS_fewestLoads_23 ?_
      refine lv_iload hx hb d_WS_fewestLoads_26 (lv_at hl 3 rfl) ?_
      obtain ⟨a28, hv, h⟩ := bd h
      refine m_aaload hx hb hK hw hv d_WS_fewestLoads_28 ?_
      refine lv_iload_n hx hb d_WS_fewestLoads_29 rfl (lv_at hl 1 rfl) ?_
      obtain ⟨v30, hv, h⟩ := bd h
      refine m_laload hx hb hK hw hv d_WS_fewestLoads_30 ?_
      refine lv_lstore (lv' := [(5, .long v30), (0, .ref (G.2.1 5)), (1, .int x1), (2, .long x2), (4, .int x4)]) hx hb d_WS_fewestLoads_31 hl (by decide) rfl (fun ls hl => ?_)
      refine lv_lload hx hb d_WS_fewestLoads_33 (lv_at hl 0 rfl) ?_
      refine lv_lconst (v := 0) hx hb d_WS_fewestLoads_35 (by decide) ?_
      refine W.lcmp hx hb d_WS_fewestLoads_36 ?_
      refine lv_if_le (tgt := 76) hx hb d_WS_fewestLoads_37 (by decide) (fun c37 => ?_) (fun c37 => ?_)
      · have h := ifp c37 h
        refine lv_iinc (v := x4 + 1) (lv' := [(4, .int (x4 + 1)), (5, .long v30), (0, .ref (G.2.1 5)), (1, .int x1), (2, .long x2)]) hx hb d_WS_fewestLoads_76 hl (k := 4) rfl rfl (by decide) rfl (fun ls hl => ?_)
        refine lv_goto (tgt := 5) hx hb d_WS_fewestLoads_79 (by decide) ?_
        exact ih x1 x2 (x4 + 1) μ _ _ _ hw (lv_sub hl [2, 3, 4, 0] rfl) h
      · have h := ifn c37 h
        refine lv_aload_n hx hb d_WS_fewestLoads_40 rfl (lv_at hl 1 rfl) ?_
        refine va_get (D := G.1) (ci := 5) (v := .ref (G.2.1 11)) (C := "RecipePlans$WholeSearch") (T := T_WS) (N := 9) hx hb hts (fun _ h9 => List.mem_cons_of_mem _ (inT_WS _ h9)) hown hK hw.1 5 (WL_get (by decide)) rfl 2 (by decide) (hts _ (List.mem_cons_of_mem _ tw_171)) (fun _ h9 => h9) rfl d_WS_fewestLoads_41 ?_
        refine lv_iload_n hx hb d_WS_fewestLoads_44 rfl (lv_at hl 2 rfl) ?_
        obtain ⟨a45, hv, h⟩ := bd h
        refine m_aaload hx hb hK hw hv d_WS_fewestLoads_45 ?_
        refine lv_iload hx hb d_WS_fewestLoads_46 (lv_at hl 4 rfl) ?_
        obtain ⟨v48, hv, h⟩ := bd h
        refine m_laload hx hb hK hw hv d_WS_fewestLoads_48 ?_
        refine lv_aload_n hx hb d_WS_fewestLoads_49 rfl (lv_at hl 1 rfl) ?_
        refine va_get (D := G.1) (ci := 5) (v := .ref (G.2.1 12)) (C := "RecipePlans$WholeSearch") (T := T_WS) (N := 9) hx hb hts (fun _ h9 => List.mem_cons_of_mem _ (inT_WS _ h9)) hown hK hw.1 5 (WL_get (by decide)) rfl 3 (by decide) (hts _ (List.mem_cons_of_mem _ tw_172)) (fun _ h9 => h9) rfl d_WS_fewestLoads_50 ?_
        refine lv_iload_n hx hb d_WS_fewestLoads_53 rfl (lv_at hl 2 rfl) ?_
        refine lv_iconst (v := 1) hx hb d_WS_fewestLoads_54 (by decide) ?_
        refine lv_iadd hx hb d_WS_fewestLoads_55 ?_
        obtain ⟨a56, hv, h⟩ := bd h
        refine m_aaload hx hb hK hw hv d_WS_fewestLoads_56 ?_
        refine lv_iload hx hb d_WS_fewestLoads_57 (lv_at hl 4 rfl) ?_
        obtain ⟨v59, hv, h⟩ := bd h
        refine m_laload hx hb hK hw hv d_WS_fewestLoads_59 ?_
        refine lv_ladd hx hb d_WS_fewestLoads_60 ?_
        obtain ⟨x7_61, ex7_61, h⟩ := nmx h
        refine m_eql ex7_61 ?_
        refine lv_lstore (lv' := [(7, .long x7_61), (5, .long v30), (0, .ref (G.2.1 5)), (1, .int x1), (2, .long x2), (4, .int x4)]) hx hb d_WS_fewestLoads_61 hl (by decide) rfl (fun ls hl => ?_)
        refine lv_lload_n hx hb d_WS_fewestLoads_63 rfl (lv_at hl 4 rfl) ?_
        refine lv_lload hx hb d_WS_fewestLoads_64 (lv_at hl 0 rfl) ?_
        refine lv_lload hx hb d_WS_fewestLoads_66 (lv_at hl 1 rfl) ?_
        obtain ⟨r68, hq, h⟩ := bd h
        refine m_pcall (r := .long r68) (W.runS (As := [.long x7_61, .long v30]) (rest := [.long x2]) ⟨hx, hb, hml, hown, hts⟩ (c_Ma_floorDiv l N x7_61 v30 hq) (va_cwS 2 hts (gdS tw_384 tw_342 tw_43 tw_343) rfl rfl rfl (by decide +kernel) ⟨Nat.le_of_ble_eq_true rfl, Nat.le_of_ble_eq_true rfl⟩) preEq rfl rfl hl.1 rfl (lv_room (Nat.le_of_ble_eq_true rfl)) d_WS_fewestLoads_68 ⟨Nat.zero_le _, Nat.zero_le _⟩) ?_
        refine lv_lneg hx hb d_WS_fewestLoads_71 ?_
        obtain ⟨r72, hq, h⟩ := bd h
        refine m_pcall (r := .long r72) (W.runS (As := [.long x2, .long (-r68)]) (rest := []) ⟨hx, hb, hml, hown, hts⟩ (c_Ma_max l N x2 (-r68) hq) (va_cwS 2 hts (gdS tw_375 tw_376 tw_43 tw_377) rfl rfl rfl (by decide +kernel) ⟨Nat.le_of_ble_eq_true rfl, Nat.le_of_ble_eq_true rfl⟩) preEq rfl rfl hl.1 rfl (lv_room (Nat.le_of_ble_eq_true rfl)) d_WS_fewestLoads_72 ⟨Nat.zero_le _, Nat.zero_le _⟩) ?_
        refine lv_lstore_n (lv' := [(2, .long r72), (7, .long x7_61), (5, .long v30), (0, .ref (G.2.1 5)), (1, .int x1), (4, .int x4)]) hx hb d_WS_fewestLoads_75 rfl hl (by decide) rfl (fun ls hl => ?_)
        refine lv_iinc (v := x4 + 1) (lv' := [(4, .int (x4 + 1)), (2, .long r72), (7, .long x7_61), (5, .long v30), (0, .ref (G.2.1 5)), (1, .int x1)]) hx hb d_WS_fewestLoads_76 hl (k := 5) rfl rfl (by decide) rfl (fun ls hl => ?_)
        refine lv_goto (tgt := 5) hx hb d_WS_fewestLoads_79 (by decide) ?_
        exact ih x1 r72 (x4 + 1) μ _ _ _ hw (lv_sub hl [4, 5, 1, 0] rfl) h
set_option maxRecDepth 100000 in
set_option maxHeartbeats 4000000 in
theorem c_WS_fewestLoads (l : Launch) (G : Gw) (N : Nat) (x1 : Int32) (μ : Mem) {r : Int32} {μ' : Mem} (h : M_WS_fewestLoads N x1 μ = some (r, μ')) : CT l y_WS_fewestLoads ws_WS_fewestLoads rm_WS_fewestLoads [.ref (G.2.1 5), .int x1] G μ (some (.int r)) μ' := by
  refine m_met (cc := prog_7_method_8_code) (maxL := 9) (ret := (some .int)) (by decide) rfl (Nat.le_of_ble_eq_true rfl) ?_
  intro p e s m args below meth c ls C hw hl
  obtain ⟨hx, hb, hr, hml, hown, hts, hlk, hK, hSt⟩ := id C
  have hl : lv_has ls 9 [(0, .ref (G.2.1 5)), (1, .int x1)] := hl
  unfold M_WS_fewestLoads at h
  refine lv_lconst (v := 0) hx hb d_WS_fewestLoads_0 (by decide) ?_
  refine lv_lstore_n (lv' := [(2, .long (0 : Int64)), (0, .ref (G.2.1 5)), (1, .int x1)]) hx hb d_WS_fewestLoads_1 rfl hl (by decide) rfl (fun ls hl => ?_)
  refine lv_iconst (v := 0) hx hb d_WS_fewestLoads_2 (by decide) ?_
  refine lv_istore (lv' := [(4, .int (0 : Int32)), (2, .long (0 : Int64)), (0, .ref (G.2.1 5)), (1, .int x1)]) hx hb d_WS_fewestLoads_3 hl (by decide) rfl (fun ls hl => ?_)
  exact w_WS_fewestLoads_5 C N x1 (0 : Int64) (0 : Int32) μ _ _ _ hw (lv_sub hl [2, 3, 1, 0] rfl) h
set_option maxRecDepth 100000 in
set_option maxHeartbeats 4000000 in
theorem w_WS_take_36 {μ' : Mem} {N : Nat} {d : Nat} (C : CxA G p s m args meth c prog_7_method_5_code 6 none "RecipePlans$WholeSearch" ws_WS_take) {T_WS_place : Int32 → Int64 → Mem → Option Mem} (hT_T_WS_place : ∀ (x1 : Int32) (x2 : Int64) (μ : Mem) {μ1 : Mem}, T_WS_place x1 x2 μ = some μ1 → CT l y_WS_place ws_WS_place (rm_WS_place d) [.ref (G.2.1 5), .int x1, .long x2] G μ none μ1) : ∀ (n : Nat) (x1 : Int32) (x2 : Int32) (x3 : Int64) (x5 : Int32) (μ : Mem) (H : Heap) (locs : List Loc) (ls : Array Slot), Wk G s μ H locs → lv_has ls 6 [(0, .ref (G.2.1 5)), (1, .int x1), (2, .int x2), (3, .long x3), (5, .int x5)] → M_WS_take_36 N T_WS_place n x1 x2 x3 x5 μ = some μ' → WA G (rm_WS_take d) p l e s m args below meth c none μ' H locs 36 ls [] := by
  obtain ⟨hx, hb, hr, hml, hown, hts, hlk, hK, hSt⟩ := id C
  intro n
  induction n with
  | zero =>
    intro x1 x2 x3 x5 μ H locs ls hw hl h
    rw [M_WS_take_36] at h
    cases h
  | succ n ih =>
    intro x1 x2 x3 x5 μ H locs ls hw hl h
    rw [M_WS_take_36] at h
    refine lv_iload hx hb d_WS_take_36 (lv_at hl 4 rfl) ?_
    refine lv_iconst (v := 2) hx hb d_WS_take_38 (by decide) ?_
    refine lv_aload_n hx hb d_WS_take_39 rfl (lv_at hl 0 rfl) ?_
    refine va_get (D := G.1) (ci := 5) (v := .ref (G.2.1 3)) (C := "RecipePlans$WholeSearch") (T := T_WS) (N := 9) hx hb hts (fun _ h9 => List.mem_cons_of_mem _ (inT_WS _ h9)) hown hK hw.1 5 (WL_get (by decide)) rfl 1 (by decide) (hts _ (List.mem_cons_of_mem _ tw_170)) (fun _ h9 => h9) rfl d_WS_take_40 ?_
    refine va_get (D := G.1) (ci := 3) (v := .int (μ.1 3 0)) (C := "RecipePlans$Sides") (T := T_Si) (N := 3) hx hb hts (fun _ h9 => List.mem_cons_of_mem _ (inT_Si _ h9)) hown hK hw.1 3 (WL_get (by decide)) rfl 0 (by decide) (hts _ (List.mem_cons_of_mem _ tw_114)) (fun _ h9 => h9) rfl d_WS_take_43 ?_
    refine lv_imul hx hb d_WS_take_46 ?_
    refine lv_icmp_ge (tgt := 92) hx hb d_WS_take_47 (by decide) (fun c47 => ?_) (fun c47 => ?_)
    · have h := ifp c47 h
      refine lv_aload_n hx hb d_WS_take_92 rfl (lv_at hl 0 rfl) ?_
      refine lv_iload_n hx hb d_WS_take_93 rfl (lv_at hl 1 rfl) ?_
      refine lv_iconst (v := 1) hx hb d_WS_take_94 (by decide) ?_
      refine lv_iadd hx hb d_WS_take_95 ?_
      refine lv_lload_n hx hb d_WS_take_96 rfl (lv_at hl 3 rfl) ?_
      obtain ⟨μ97, hq, h⟩ := bd h
      refine m_call (r := none) (μ1 := μ97) (va_runV (C := "RecipePlans$WholeSearch") (As := [.int (x1 + (1 : Int32)), .long x3]) (rest := []) ⟨hx, hb, hml, hown, hts⟩ (hT_T_WS_place (x1 + (1 : Int32)) x3 μ hq _) (cwV 2 hts (gdV tw_378 tw_379 tw_10 tw_39 tw_380) rfl rfl rfl (by decide +kernel) ⟨by dsimp only [rm_WS_take, rm_WS_place]; omega, by dsimp only [rm_WS_take, rm_WS_place]; omega⟩) (m_preV (k := 5) (by decide) rfl hK hSt hw) rfl rfl hl.1 rfl (lv_room (Nat.le_of_ble_eq_true rfl)) d_WS_take_97 ⟨Nat.zero_le _, Nat.zero_le _⟩) hw (fun H locs hw => ?_)
      exact m_vret hx hb hr hlk hw h d_WS_take_100
    · have h := ifn c47 h
      refine lv_aload_n hx hb d_WS_take_50 rfl (lv_at hl 0 rfl) ?_
      refine va_get (D := G.1) (ci := 5) (v := .ref (G.2.1 11)) (C := "RecipePlans$WholeSearch") (T := T_WS) (N := 9) hx hb hts (fun _ h9 => List.mem_cons_of_mem _ (inT_WS _ h9)) hown hK hw.1 5 (WL_get (by decide)) rfl 2 (by decide) (hts _ (List.mem_cons_of_mem _ tw_171)) (fun _ h9 => h9) rfl d_WS_take_51 ?_
      refine lv_iload_n hx hb d_WS_take_54 rfl (lv_at hl 1 rfl) ?_
      refine lv_iconst (v := 1) hx hb d_WS_take_55 (by decide) ?_
      refine lv_iadd hx hb d_WS_take_56 ?_
      obtain ⟨a57, hv, h⟩ := bd h
      refine m_aaload hx hb hK hw hv d_WS_take_57 ?_
      refine lv_iload hx hb d_WS_take_58 (lv_at hl 4 rfl) ?_
      refine lv_aload_n hx hb d_WS_take_60 rfl (lv_at hl 0 rfl) ?_
      refine va_get (D := G.1) (ci := 5) (v := .ref (G.2.1 11)) (C := "RecipePlans$WholeSearch") (T := T_WS) (N := 9) hx hb hts (fun _ h9 => List.mem_cons_of_mem _ (inT_WS _ h9)) hown hK hw.1 5 (WL_get (by decide)) rfl 2 (by decide) (hts _ (List.mem_cons_of_mem _ tw_171)) (fun _ h9 => h9) rfl d_WS_take_61 ?_
      refine lv_iload_n hx hb d_WS_take_64 rfl (lv_at hl 1 rfl) ?_
      obtain ⟨a65, hv, h⟩ := bd h
      refine m_aaload hx hb hK hw hv d_WS_take_65 ?_
      refine lv_iload hx hb d_WS_take_66 (lv_at hl 4 rfl) ?_
      obtain ⟨v68, hv, h⟩ := bd h
      refine m_laload hx hb hK hw hv d_WS_take_68 ?_
      refine lv_aload_n hx hb d_WS_take_69 rfl (lv_at hl 0 rfl) ?_
      refine va_get (D := G.1) (ci := 5) (v := .ref (G.2.1 3)) (C := "RecipePlans$WholeSearch") (T := T_WS) (N := 9) hx hb hts (fun _ h9 => List.mem_cons_of_mem _ (inT_WS _ h9)) hown hK hw.1 5 (WL_get (by decide)) rfl 1 (by decide) (hts _ (List.mem_cons_of_mem _ tw_170)) (fun _ h9 => h9) rfl d_WS_take_70 ?_
      refine va_get (D := G.1) (ci := 3) (v := .ref (G.2.1 9)) (C := "RecipePlans$Sides") (T := T_Si) (N := 3) hx hb hts (fun _ h9 => List.mem_cons_of_mem _ (inT_Si _ h9)) hown hK hw.1 3 (WL_get (by decide)) rfl 2 (by decide) (hts _ (List.mem_cons_of_mem _ tw_119)) (fun _ h9 => h9) rfl d_WS_take_73 ?_
      refine lv_iload hx hb d_WS_take_76 (lv_at hl 4 rfl) ?_
      obtain ⟨a78, hv, h⟩ := bd h
      refine m_aaload hx hb hK hw hv d_WS_take_78 ?_
      refine lv_iload_n hx hb d_WS_take_79 rfl (lv_at hl 1 rfl) ?_
      obtain ⟨v80, hv, h⟩ := bd h
      refine m_laload hx hb hK hw hv d_WS_take_80 ?_
      refine lv_iload_n hx hb d_WS_take_81 rfl (lv_at hl 2 rfl) ?_
      refine lv_i2l hx hb d_WS_take_82 rfl ?_
      refine lv_lmul hx hb d_WS_take_83 ?_
      refine lv_ladd hx hb d_WS_take_84 ?_
      obtain ⟨μ85, hm, h⟩ := bd h
      refine m_lastore hx hb hK hw hm d_WS_take_85 (fun H locs hw => ?_)
      refine lv_iinc (v := x5 + 1) (lv' := [(5, .int (x5 + 1)), (0, .ref (G.2.1 5)), (1, .int x1), (2, .int x2), (3, .long x3)]) hx hb d_WS_take_86 hl (k := 4) rfl rfl (by decide) rfl (fun ls hl => ?_)
      refine lv_goto (tgt := 36) hx hb d_WS_take_89 (by decide) ?_
      exact ih x1 x2 x3 (x5 + 1) μ85 _ _ _ hw (lv_sub hl [1, 2, 3, 4, 0] rfl) h
set_option maxRecDepth 100000 in
set_option maxHeartbeats 4000000 in
theorem w_WS_take_26 {μ' : Mem} {N : Nat} {d : Nat} (C : CxA G p s m args meth c prog_7_method_5_code 6 none "RecipePlans$WholeSearch" ws_WS_take) {T_WS_place : Int32 → Int64 → Mem → Option Mem} (hT_T_WS_place : ∀ (x1 : Int32) (x2 : Int64) (μ : Mem) {μ1 : Mem}, T_WS_place x1 x2 μ = some μ1 → CT l y_WS_place ws_WS_place (rm_WS_place d) [.ref (G.2.1 5), .int x1, .long x2] G μ none μ1) : ∀ (x1 : Int32) (x2 : Int32) (x3 : Int64) (μ : Mem) (H : Heap) (locs : List Loc) (ls : Array Slot), Wk G s μ H locs → lv_has ls 6 [(0, .ref (G.2.1 5)), (1, .int x1), (2, .int x2), (3, .long x3)] → M_WS_take_26 N T_WS_place x1 x2 x3 μ = some μ' → WA G (rm_WS_take d) p l e s m args below meth c none μ' H locs 26 ls [] := by
  obtain ⟨hx, hb, hr, hml, hown, hts, hlk, hK, hSt⟩ := id C
  intro x1 x2 x3 μ H locs ls hw hl h
  unfold M_WS_take_26 at h
  refine lv_aload_n hx hb d_WS_take_26 rfl (lv_at hl 0 rfl) ?_
  refine va_get (D := G.1) (ci := 5) (v := .ref (G.2.1 25)) (C := "RecipePlans$WholeSearch") (T := T_WS) (N := 9) hx hb hts (fun _ h9 => List.mem_cons_of_mem _ (inT_WS _ h9)) hown hK hw.1 5 (WL_get (by decide)) rfl 5 (by decide) (hts _ (List.mem_cons_of_mem _ tw_174)) (fun _ h9 => h9) rfl d_WS_take_27 ?_
  refine lv_iload_n hx hb d_WS_take_30 rfl (lv_at hl 1 rfl) ?_
  refine lv_iload_n hx hb d_WS_take_31 rfl (lv_at hl 2 rfl) ?_
  obtain ⟨μ32, hm, h⟩ := bd h
  refine m_iastore hx hb hK hw hm d_WS_take_32 (fun H locs hw => ?_)
  refine lv_iconst (v := 0) hx hb d_WS_take_33 (by decide) ?_
  refine lv_istore (lv' := [(5, .int (0 : Int32)), (0, .ref (G.2.1 5)), (1, .int x1), (2, .int x2), (3, .long x3)]) hx hb d_WS_take_34 hl (by decide) rfl (fun ls hl => ?_)
  exact w_WS_take_36 C hT_T_WS_place N x1 x2 x3 (0 : Int32) μ32 _ _ _ hw (lv_sub hl [1, 2, 3, 4, 0] rfl) h
set_option maxRecDepth 100000 in
set_option maxHeartbeats 4000000 in
theorem c_WS_take (l : Launch) (G : Gw) (N : Nat) {d : Nat} {T_WS_place : Int32 → Int64 → Mem → Option Mem} (hT_T_WS_place : ∀ (x1 : Int32) (x2 : Int64) (μ : Mem) {μ1 : Mem}, T_WS_place x1 x2 μ = some μ1 → CT l y_WS_place ws_WS_place (rm_WS_place d) [.ref (G.2.1 5), .int x1, .long x2] G μ none μ1) (x1 : Int32) (x2 : Int32) (x3 : Int64) (μ : Mem) {μ' : Mem} (h : M_WS_take N T_WS_place x1 x2 x3 μ = some μ') : CT l y_WS_take ws_WS_take (rm_WS_take d) [.ref (G.2.1 5), .int x1, .int x2, .long x3] G μ none μ' := by
  refine m_met (cc := prog_7_method_5_code) (maxL := 6) (ret := none) (by decide) rfl (Nat.le_of_ble_eq_true rfl) ?_
  intro p e s m args below meth c ls C hw hl
  obtain ⟨hx, hb, hr, hml, hown, hts, hlk, hK, hSt⟩ := id C
  have hl : lv_has ls 6 [(0, .ref (G.2.1 5)), (1, .int x1), (2, .int x2), (3, .long x3)] := hl
  unfold M_WS_take at h
  refine lv_aload_n hx hb d_WS_take_0 rfl (lv_at hl 0 rfl) ?_
  refine va_get (D := G.1) (ci := 5) (v := .int (μ.1 5 6)) (C := "RecipePlans$WholeSearch") (T := T_WS) (N := 9) hx hb hts (fun _ h9 => List.mem_cons_of_mem _ (inT_WS _ h9)) hown hK hw.1 5 (WL_get (by decide)) rfl 6 (by decide) (hts _ (List.mem_cons_of_mem _ tw_175)) (fun _ h9 => h9) rfl d_WS_take_1 ?_
  refine lv_if_eq (tgt := 26) hx hb d_WS_take_4 (by decide) (fun c4 => ?_) (fun c4 => ?_)
  · have h := ifp c4 h
    exact w_WS_take_26 C hT_T_WS_place x1 x2 x3 μ _ _ _ hw hl h
  · have h := ifn c4 h
    refine lv_lload_n hx hb d_WS_take_7 rfl (lv_at hl 3 rfl) ?_
    refine lv_aload_n hx hb d_WS_take_8 rfl (lv_at hl 0 rfl) ?_
    refine va_get (D := G.1) (ci := 5) (v := .ref (G.2.1 45)) (C := "RecipePlans$WholeSearch") (T := T_WS) (N := 9) hx hb hts (fun _ h9 => List.mem_cons_of_mem _ (inT_WS _ h9)) hown hK hw.1 5 (WL_get (by decide)) rfl 4 (by decide) (hts _ (List.mem_cons_of_mem _ tw_173)) (fun _ h9 => h9) rfl d_WS_take_9 ?_
    refine lv_iload_n hx hb d_WS_take_12 rfl (lv_at hl 1 rfl) ?_
    refine lv_iconst (v := 1) hx hb d_WS_take_13 (by decide) ?_
    refine lv_iadd hx hb d_WS_take_14 ?_
    obtain ⟨v15, hv, h⟩ := bd h
    refine m_laload hx hb hK hw hv d_WS_take_15 ?_
    refine lv_ladd hx hb d_WS_take_16 ?_
    refine lv_aload_n hx hb d_WS_take_17 rfl (lv_at hl 0 rfl) ?_
    refine va_get (D := G.1) (ci := 5) (v := .long (μ.2 5 7)) (C := "RecipePlans$WholeSearch") (T := T_WS) (N := 9) hx hb hts (fun _ h9 => List.mem_cons_of_mem _ (inT_WS _ h9)) hown hK hw.1 5 (WL_get (by decide)) rfl 7 (by decide) (hts _ (List.mem_cons_of_mem _ tw_178)) (fun _ h9 => h9) rfl d_WS_take_18 ?_
    refine W.lcmp hx hb d_WS_take_21 ?_
    refine lv_if_lt (tgt := 26) hx hb d_WS_take_22 (by decide) (fun c22 => ?_) (fun c22 => ?_)
    · have h := ifp c22 h
      exact w_WS_take_26 C hT_T_WS_place x1 x2 x3 μ _ _ _ hw hl h
    · have h := ifn c22 h
      exact m_vret hx hb hr hlk hw h d_WS_take_25
set_option maxRecDepth 100000 in
set_option maxHeartbeats 4000000 in
theorem w_WS_offer_29 {μ' : Mem} {N : Nat} (C : CxA G p s m args meth c prog_7_method_6_code 4 none "RecipePlans$WholeSearch" ws_WS_offer) : ∀ (n : Nat) (x3 : Int32) (μ : Mem) (H : Heap) (locs : List Loc) (ls : Array Slot), Wk G s μ H locs → lv_has ls 4 [(0, .ref (G.2.1 5)), (3, .int x3)] → M_WS_offer_29 N n x3 μ = some μ' → WA G rm_WS_offer p l e s m args below meth c none μ' H locs 29 ls [] := by
  obtain ⟨hx, hb, hr, hml, hown, hts, hlk, hK, hSt⟩ := id C
  intro n
  induction n with
  | zero =>
    intro x3 μ H locs ls hw hl h
    rw [M_WS_offer_29] at h
    cases h
  | succ n ih =>
    intro x3 μ H locs ls hw hl h
    rw [M_WS_offer_29] at h
    refine lv_iload_n hx hb d_WS_offer_29 rfl (lv_at hl 1 rfl) ?_
    refine lv_iconst (v := 4) hx hb d_WS_offer_30 (by decide) ?_
    refine lv_icmp_ge (tgt := 52) hx hb d_WS_offer_31 (by decide) (fun c31 => ?_) (fun c31 => ?_)
    · have h := ifp c31 h
      exact m_vret hx hb hr hlk hw h d_WS_offer_52
    · have h := ifn c31 h
      refine lv_aload_n hx hb d_WS_offer_34 rfl (lv_at hl 0 rfl) ?_
      refine va_get (D := G.1) (ci := 5) (v := .ref (G.2.1 26)) (C := "RecipePlans$WholeSearch") (T := T_WS) (N := 9) hx hb hts (fun _ h9 => List.mem_cons_of_mem _ (inT_WS _ h9)) hown hK hw.1 5 (WL_get (by decide)) rfl 8 (by decide) (hts _ (List.mem_cons_of_mem _ tw_180)) (fun _ h9 => h9) rfl d_WS_offer_35 ?_
      refine lv_iload_n hx hb d_WS_offer_38 rfl (lv_at hl 1 rfl) ?_
      refine lv_aload_n hx hb d_WS_offer_39 rfl (lv_at hl 0 rfl) ?_
      refine va_get (D := G.1) (ci := 5) (v := .ref (G.2.1 25)) (C := "RecipePlans$WholeSearch") (T := T_WS) (N := 9) hx hb hts (fun _ h9 => List.mem_cons_of_mem _ (inT_WS _ h9)) hown hK hw.1 5 (WL_get (by decide)) rfl 5 (by decide) (hts _ (List.mem_cons_of_mem _ tw_174)) (fun _ h9 => h9) rfl d_WS_offer_40 ?_
      refine lv_iload_n hx hb d_WS_offer_43 rfl (lv_at hl 1 rfl) ?_
      obtain ⟨v44, hv, h⟩ := bd h
      refine m_iaload hx hb hK hw hv d_WS_offer_44 ?_
      obtain ⟨μ45, hm, h⟩ := bd h
      refine m_iastore hx hb hK hw hm d_WS_offer_45 (fun H locs hw => ?_)
      refine lv_iinc (v := x3 + 1) (lv' := [(3, .int (x3 + 1)), (0, .ref (G.2.1 5))]) hx hb d_WS_offer_46 hl (k := 1) rfl rfl (by decide) rfl (fun ls hl => ?_)
      refine lv_goto (tgt := 29) hx hb d_WS_offer_49 (by decide) ?_
      exact ih (x3 + 1) μ45 _ _ _ hw (lv_sub hl [1, 0] rfl) h
set_option maxRecDepth 100000 in
set_option maxHeartbeats 4000000 in
theorem w_WS_offer_17 {μ' : Mem} {N : Nat} (C : CxA G p s m args meth c prog_7_method_6_code 4 none "RecipePlans$WholeSearch" ws_WS_offer) : ∀ (x1 : Int64) (μ : Mem) (H : Heap) (locs : List Loc) (ls : Array Slot), Wk G s μ H locs → lv_has ls 4 [(0, .ref (G.2.1 5)), (1, .long x1)] → M_WS_offer_17 N x1 μ = some μ' → WA G rm_WS_offer p l e s m args below meth c none μ' H locs 17 ls [] := by
  obtain ⟨hx, hb, hr, hml, hown, hts, hlk, hK, hSt⟩ := id C
  intro x1 μ H locs ls hw hl h
  unfold M_WS_offer_17 at h
  refine lv_aload_n hx hb d_WS_offer_17 rfl (lv_at hl 0 rfl) ?_
  refine lv_iconst (v := 1) hx hb d_WS_offer_18 (by decide) ?_
  obtain ⟨μ19, hm, h⟩ := bd h
  refine va_put (D := G.1) (ci := 5) (v := .int (1 : Int32)) (ty := .boolean) (C := "RecipePlans$WholeSearch") (T := T_WS) (N := 9) hx hb hts (fun _ h9 => List.mem_cons_of_mem _ (inT_WS _ h9)) ty_WS tyok_WS nm_WS hown hK hw.1 hw.2.1 hw.2.2 5 (WL_get (by decide)) rfl 6 (by decide) (hts _ (List.mem_cons_of_mem _ tw_175)) (fun _ h9 => h9) rfl (by decide +kernel) (pZ_ok hm).1 (pZ_ok hm).2 (Nat.le_of_ble_eq_true rfl) d_WS_offer_19 (fun H locs hP hD hS => ?_)
  have hw := wk_pZ hm (by decide) (by rfl) hP hD hS
  refine lv_aload_n hx hb d_WS_offer_22 rfl (lv_at hl 0 rfl) ?_
  refine lv_lload_n hx hb d_WS_offer_23 rfl (lv_at hl 1 rfl) ?_
  obtain ⟨μ24, hm, h⟩ := bd h
  refine va_put (D := G.1) (ci := 5) (v := .long x1) (ty := .long) (C := "RecipePlans$WholeSearch") (T := T_WS) (N := 9) hx hb hts (fun _ h9 => List.mem_cons_of_mem _ (inT_WS _ h9)) ty_WS tyok_WS nm_WS hown hK hw.1 hw.2.1 hw.2.2 5 (WL_get (by decide)) rfl 7 (by decide) (hts _ (List.mem_cons_of_mem _ tw_178)) (fun _ h9 => h9) rfl (by decide +kernel) rfl rfl (Nat.le_of_ble_eq_true rfl) d_WS_offer_24 (fun H locs hP hD hS => ?_)
  have hw := wk_pJ hm (by decide) (by rfl) hP hD hS
  refine lv_iconst (v := 0) hx hb d_WS_offer_27 (by decide) ?_
  refine lv_istore_n (lv' := [(3, .int (0 : Int32)), (0, .ref (G.2.1 5)), (1, .long x1)]) hx hb d_WS_offer_28 rfl hl (by decide) rfl (fun ls hl => ?_)
  exact w_WS_offer_29 C N (0 : Int32) μ24 _ _ _ hw (lv_sub hl [1, 0] rfl) h
set_option maxRecDepth 100000 in
set_option maxHeartbeats 4000000 in
theorem c_WS_offer (l : Launch) (G : Gw) (N : Nat) (x1 : Int64) (μ : Mem) {μ' : Mem} (h : M_WS_offer N x1 μ = some μ') : CT l y_WS_offer ws_WS_offer rm_WS_offer [.ref (G.2.1 5), .long x1] G μ none μ' := by
  refine m_met (cc := prog_7_method_6_code) (maxL := 4) (ret := none) (by decide) rfl (Nat.le_of_ble_eq_true rfl) ?_
  intro p e s m args below meth c ls C hw hl
  obtain ⟨hx, hb, hr, hml, hown, hts, hlk, hK, hSt⟩ := id C
  have hl : lv_has ls 4 [(0, .ref (G.2.1 5)), (1, .long x1)] := hl
  unfold M_WS_offer at h
  refine lv_aload_n hx hb d_WS_offer_0 rfl (lv_at hl 0 rfl) ?_
  refine va_get (D := G.1) (ci := 5) (v := .int (μ.1 5 6)) (C := "RecipePlans$WholeSearch") (T := T_WS) (N := 9) hx hb hts (fun _ h9 => List.mem_cons_of_mem _ (inT_WS _ h9)) hown hK hw.1 5 (WL_get (by decide)) rfl 6 (by decide) (hts _ (List.mem_cons_of_mem _ tw_175)) (fun _ h9 => h9) rfl d_WS_offer_1 ?_
  refine lv_if_eq (tgt := 17) hx hb d_WS_offer_4 (by decide) (fun c4 => ?_) (fun c4 => ?_)
  · have h := ifp c4 h
    exact w_WS_offer_17 C x1 μ _ _ _ hw hl h
  · have h := ifn c4 h
    refine lv_lload_n hx hb d_WS_offer_7 rfl (lv_at hl 1 rfl) ?_
    refine lv_aload_n hx hb d_WS_offer_8 rfl (lv_at hl 0 rfl) ?_
    refine va_get (D := G.1) (ci := 5) (v := .long (μ.2 5 7)) (C := "RecipePlans$WholeSearch") (T := T_WS) (N := 9) hx hb hts (fun _ h9 => List.mem_cons_of_mem _ (inT_WS _ h9)) hown hK hw.1 5 (WL_get (by decide)) rfl 7 (by decide) (hts _ (List.mem_cons_of_mem _ tw_178)) (fun _ h9 => h9) rfl d_WS_offer_9 ?_
    refine W.lcmp hx hb d_WS_offer_12 ?_
    refine lv_if_lt (tgt := 17) hx hb d_WS_offer_13 (by decide) (fun c13 => ?_) (fun c13 => ?_)
    · have h := ifp c13 h
      exact w_WS_offer_17 C x1 μ _ _ _ hw hl h
    · have h := ifn c13 h
      exact m_vret hx hb hr hlk hw h d_WS_offer_16
set_option maxRecDepth 100000 in
set_option maxHeartbeats 4000000 in
theorem w_WS_place_99 {μ' : Mem} {N : Nat} {d : Nat} (C : CxA G p s m args meth c prog_7_method_4_code 7 none "RecipePlans$WholeSearch" ws_WS_place) {T_WS_place : Int32 → Int64 → Mem → Option Mem} (hT_T_WS_place : ∀ (x1 : Int32) (x2 : Int64) (μ : Mem) {μ1 : Mem}, T_WS_place x1 x2 μ = some μ1 → CT l y_WS_place ws_WS_place (rm_WS_place d) [.ref (G.2.1 5), .int x1, .long x2] G μ none μ1) : ∀ (x1 : Int32) (x2 : Int64) (y0 : Int32) (μ : Mem) (H : Heap) (locs : List Loc) (ls : Array Slot), Wk G s μ H locs → lv_has ls 7 [(0, .ref (G.2.1 5)), (1, .int x1), (2, .long x2)] → M_WS_place_99 N T_WS_place x1 x2 y0 μ = some μ' → WA G (rm_WS_place (d + 1)) p l e s m args below meth c none μ' H locs 99 ls [.int y0] := by
  obtain ⟨hx, hb, hr, hml, hown, hts, hlk, hK, hSt⟩ := id C
  intro x1 x2 y0 μ H locs ls hw hl h
  unfold M_WS_place_99 at h
  refine lv_istore (lv' := [(6, .int y0), (0, .ref (G.2.1 5)), (1, .int x1), (2, .long x2)]) hx hb d_WS_place_99 hl (by decide) rfl (fun ls hl => ?_)
  refine lv_aload_n hx hb d_WS_place_101 rfl (lv_at hl 1 rfl) ?_
  refine va_get (D := G.1) (ci := 5) (v := .ref (G.2.1 25)) (C := "RecipePlans$WholeSearch") (T := T_WS) (N := 9) hx hb hts (fun _ h9 => List.mem_cons_of_mem _ (inT_WS _ h9)) hown hK hw.1 5 (WL_get (by decide)) rfl 5 (by decide) (hts _ (List.mem_cons_of_mem _ tw_174)) (fun _ h9 => h9) rfl d_WS_place_102 ?_
  refine lv_iload_n hx hb d_WS_place_105 rfl (lv_at hl 2 rfl) ?_
  refine lv_iload hx hb d_WS_place_106 (lv_at hl 0 rfl) ?_
  obtain ⟨μ108, hm, h⟩ := bd h
  refine m_iastore hx hb hK hw hm d_WS_place_108 (fun H locs hw => ?_)
  refine lv_aload_n hx hb d_WS_place_109 rfl (lv_at hl 1 rfl) ?_
  refine lv_lload_n hx hb d_WS_place_110 rfl (lv_at hl 3 rfl) ?_
  refine lv_aload_n hx hb d_WS_place_111 rfl (lv_at hl 1 rfl) ?_
  refine va_get (D := G.1) (ci := 5) (v := .ref (G.2.1 1)) (C := "RecipePlans$WholeSearch") (T := T_WS) (N := 9) hx hb hts (fun _ h9 => List.mem_cons_of_mem _ (inT_WS _ h9)) hown hK hw.1 5 (WL_get (by decide)) rfl 0 (by decide) (hts _ (List.mem_cons_of_mem _ tw_169)) (fun _ h9 => h9) rfl d_WS_place_112 ?_
  refine va_get (D := G.1) (ci := 1) (v := .ref (G.2.1 42)) (C := "RecipePlans$Lots") (T := T_Lo) (N := 4) hx hb hts (fun _ h9 => List.mem_cons_of_mem _ (inT_Lo _ h9)) hown hK hw.1 1 (WL_get (by decide)) rfl 2 (by decide) (hts _ (List.mem_cons_of_mem _ tw_66)) (fun _ h9 => h9) rfl d_WS_place_115 ?_
  refine lv_iload_n hx hb d_WS_place_118 rfl (lv_at hl 2 rfl) ?_
  obtain ⟨v119, hv, h⟩ := bd h
  refine m_laload hx hb hK hw hv d_WS_place_119 ?_
  refine lv_iload hx hb d_WS_place_120 (lv_at hl 0 rfl) ?_
  refine lv_i2l hx hb d_WS_place_122 rfl ?_
  refine lv_lmul hx hb d_WS_place_123 ?_
  refine lv_ladd hx hb d_WS_place_124 ?_
  obtain ⟨μ125, hq, h⟩ := bd h
  refine m_call (r := none) (μ1 := μ125) (va_runV (C := "RecipePlans$WholeSearch") (As := [.long (x2 + (v119 * y0.toInt64))]) (rest := []) ⟨hx, hb, hml, hown, hts⟩ (c_WS_offer l G N (x2 + (v119 * y0.toInt64)) μ108 hq _) (cwV 1 hts (gdV tw_393 tw_394 tw_14 tw_39 tw_395) rfl rfl rfl (by decide +kernel) ⟨by dsimp only [rm_WS_place, rm_WS_offer]; omega, by dsimp only [rm_WS_place, rm_WS_offer]; omega⟩) (m_preV (k := 5) (by decide) rfl hK hSt hw) rfl rfl hl.1 rfl (lv_room (Nat.le_of_ble_eq_true rfl)) d_WS_place_125 ⟨Nat.zero_le _, Nat.zero_le _⟩) hw (fun H locs hw => ?_)
  exact m_vret hx hb hr hlk hw h d_WS_place_128
set_option maxRecDepth 100000 in
set_option maxHeartbeats 4000000 in
theorem w_WS_place_33 {μ' : Mem} {N : Nat} {d : Nat} (C : CxA G p s m args meth c prog_7_method_4_code 7 none "RecipePlans$WholeSearch" ws_WS_place) {T_WS_place : Int32 → Int64 → Mem → Option Mem} (hT_T_WS_place : ∀ (x1 : Int32) (x2 : Int64) (μ : Mem) {μ1 : Mem}, T_WS_place x1 x2 μ = some μ1 → CT l y_WS_place ws_WS_place (rm_WS_place d) [.ref (G.2.1 5), .int x1, .long x2] G μ none μ1) : ∀ (n : Nat) (x1 : Int32) (x2 : Int64) (x4 : Int32) (x6 : Int32) (μ : Mem) (H : Heap) (locs : List Loc) (ls : Array Slot), Wk G s μ H locs → lv_has ls 7 [(0, .ref (G.2.1 5)), (1, .int x1), (2, .long x2), (4, .int x4), (6, .int x6)] → M_WS_place_33 N T_WS_place n x1 x2 x4 x6 μ = some μ' → WA G (rm_WS_place (d + 1)) p l e s m args below meth c none μ' H locs 33 ls [] := by
  obtain ⟨hx, hb, hr, hml, hown, hts, hlk, hK, hSt⟩ := id C
  intro n
  induction n with
  | zero =>
    intro x1 x2 x4 x6 μ H locs ls hw hl h
    rw [M_WS_place_33] at h
    cases h
  | succ n ih =>
    intro x1 x2 x4 x6 μ H locs ls hw hl h
    rw [M_WS_place_33] at h
    refine lv_iload hx hb d_WS_place_33 (lv_at hl 4 rfl) ?_
    refine lv_iload hx hb d_WS_place_35 (lv_at hl 3 rfl) ?_
    refine lv_icmp_gt (tgt := 68) hx hb d_WS_place_37 (by decide) (fun c37 => ?_) (fun c37 => ?_)
    · have h := ifp c37 h
      refine lv_goto (tgt := 128) hx hb d_WS_place_68 (by decide) ?_
      exact m_vret hx hb hr hlk hw h d_WS_place_128
    · have h := ifn c37 h
      refine lv_aload_n hx hb d_WS_place_40 rfl (lv_at hl 0 rfl) ?_
      refine lv_iload_n hx hb d_WS_place_41 rfl (lv_at hl 1 rfl) ?_
      refine lv_iload hx hb d_WS_place_42 (lv_at hl 4 rfl) ?_
      refine lv_lload_n hx hb d_WS_place_44 rfl (lv_at hl 2 rfl) ?_
      refine lv_aload_n hx hb d_WS_place_45 rfl (lv_at hl 0 rfl) ?_
      refine va_get (D := G.1) (ci := 5) (v := .ref (G.2.1 1)) (C := "RecipePlans$WholeSearch") (T := T_WS) (N := 9) hx hb hts (fun _ h9 => List.mem_cons_of_mem _ (inT_WS _ h9)) hown hK hw.1 5 (WL_get (by decide)) rfl 0 (by decide) (hts _ (List.mem_cons_of_mem _ tw_169)) (fun _ h9 => h9) rfl d_WS_place_46 ?_
      refine va_get (D := G.1) (ci := 1) (v := .ref (G.2.1 42)) (C := "RecipePlans$Lots") (T := T_Lo) (N := 4) hx hb hts (fun _ h9 => List.mem_cons_of_mem _ (inT_Lo _ h9)) hown hK hw.1 1 (WL_get (by decide)) rfl 2 (by decide) (hts _ (List.mem_cons_of_mem _ tw_66)) (fun _ h9 => h9) rfl d_WS_place_49 ?_
      refine lv_iload_n hx hb d_WS_place_52 rfl (lv_at hl 1 rfl) ?_
      obtain ⟨v53, hv, h⟩ := bd h
      refine m_laload hx hb hK hw hv d_WS_place_53 ?_
      refine lv_iload hx hb d_WS_place_54 (lv_at hl 4 rfl) ?_
      refine lv_i2l hx hb d_WS_place_56 rfl ?_
      refine lv_lmul hx hb d_WS_place_57 ?_
      refine lv_ladd hx hb d_WS_place_58 ?_
      obtain ⟨μ59, hq, h⟩ := bd h
      refine m_call (r := none) (μ1 := μ59) (va_runV (C := "RecipePlans$WholeSearch") (As := [.int x1, .int x6, .long (x2 + (v53 * x6.toInt64))]) (rest := []) ⟨hx, hb, hml, hown, hts⟩ (c_WS_take l G N hT_T_WS_place x1 x6 (x2 + (v53 * x6.toInt64)) μ hq _) (cwV 3 hts (gdV tw_390 tw_391 tw_13 tw_39 tw_392) rfl rfl rfl (by decide +kernel) ⟨by dsimp only [rm_WS_place, rm_WS_take]; omega, by dsimp only [rm_WS_place, rm_WS_take]; omega⟩) (m_preV (k := 5) (by decide) rfl hK hSt hw) rfl rfl hl.1 rfl (lv_room (Nat.le_of_ble_eq_true rfl)) d_WS_place_59 ⟨Nat.zero_le _, Nat.zero_le _⟩) hw (fun H locs hw => ?_)
      refine lv_iinc (v := x6 + 1) (lv' := [(6, .int (x6 + 1)), (0, .ref (G.2.1 5)), (1, .int x1), (2, .long x2), (4, .int x4)]) hx hb d_WS_place_62 hl (k := 4) rfl rfl (by decide) rfl (fun ls hl => ?_)
      refine lv_goto (tgt := 33) hx hb d_WS_place_65 (by decide) ?_
      exact ih x1 x2 x4 (x6 + 1) μ59 _ _ _ hw (lv_sub hl [1, 2, 3, 4, 0] rfl) h
set_option maxRecDepth 100000 in
set_option maxHeartbeats 4000000 in
theorem c_WS_place (l : Launch) (G : Gw) (N : Nat) : ∀ (d : Nat) (x1 : Int32) (x2 : Int64) (μ : Mem) {μ' : Mem}, M_WS_place N d x1 x2 μ = some μ' → CT l y_WS_place ws_WS_place (rm_WS_place d) [.ref (G.2.1 5), .int x1, .long x2] G μ none μ' := by
  intro d
  induction d with
  | zero =>
    intro x1 x2 μ μ' h
    rw [M_WS_place] at h
    cases h
  | succ d ihd =>
    intro x1 x2 μ μ' h
    rw [M_WS_place] at h
    have hT_T_WS_place := @ihd
    refine m_met (cc := prog_7_method_4_code) (maxL := 7) (ret := none) (by decide) rfl (Nat.le_of_ble_eq_true rfl) ?_
    intro p e s m args below meth c ls C hw hl
    obtain ⟨hx, hb, hr, hml, hown, hts, hlk, hK, hSt⟩ := id C
    have hl : lv_has ls 7 [(0, .ref (G.2.1 5)), (1, .int x1), (2, .long x2)] := hl
    refine lv_iload_n hx hb d_WS_place_0 rfl (lv_at hl 1 rfl) ?_
    refine lv_if_lt (tgt := 9) hx hb d_WS_place_1 (by decide) (fun c1 => ?_) (fun c1 => ?_)
    · have h := ifp c1 h
      exact m_vret hx hb hr hlk hw h d_WS_place_9
    · have h := ifn c1 h
      refine lv_iload_n hx hb d_WS_place_4 rfl (lv_at hl 1 rfl) ?_
      refine lv_iconst (v := 4) hx hb d_WS_place_5 (by decide) ?_
      refine lv_icmp_lt (tgt := 10) hx hb d_WS_place_6 (by decide) (fun c6 => ?_) (fun c6 => ?_)
      · have h := ifp c6 h
        refine lv_aload_n hx hb d_WS_place_10 rfl (lv_at hl 0 rfl) ?_
        refine lv_iload_n hx hb d_WS_place_11 rfl (lv_at hl 1 rfl) ?_
        obtain ⟨r12, μ12, hq, h⟩ := bd2 h
        refine m_call (r := some (.int r12)) (μ1 := μ12) (va_runV (C := "RecipePlans$WholeSearch") (As := [.int x1]) (rest := []) ⟨hx, hb, hml, hown, hts⟩ (c_WS_mostLoads l G N x1 μ hq _) (cwV 1 hts (gdV tw_381 tw_382 tw_11 tw_39 tw_383) rfl rfl rfl (by decide +kernel) ⟨by dsimp only [rm_WS_place, rm_WS_mostLoads]; omega, by dsimp only [rm_WS_place, rm_WS_mostLoads]; omega⟩) (m_preV (k := 5) (by decide) rfl hK hSt hw) rfl rfl hl.1 rfl (lv_room (Nat.le_of_ble_eq_true rfl)) d_WS_place_12 ⟨Nat.zero_le _, Nat.zero_le _⟩) hw (fun H locs hw => ?_)
        refine lv_istore (lv' := [(4, .int r12), (0, .ref (G.2.1 5)), (1, .int x1), (2, .long x2)]) hx hb d_WS_place_15 hl (by decide) rfl (fun ls hl => ?_)
        refine lv_aload_n hx hb d_WS_place_17 rfl (lv_at hl 1 rfl) ?_
        refine lv_iload_n hx hb d_WS_place_18 rfl (lv_at hl 2 rfl) ?_
        obtain ⟨r19, μ19, hq, h⟩ := bd2 h
        refine m_call (r := some (.int r19)) (μ1 := μ19) (va_runV (C := "RecipePlans$WholeSearch") (As := [.int x1]) (rest := []) ⟨hx, hb, hml, hown, hts⟩ (c_WS_fewestLoads l G N x1 μ12 hq _) (cwV 1 hts (gdV tw_386 tw_387 tw_12 tw_39 tw_388) rfl rfl rfl (by decide +kernel) ⟨by dsimp only [rm_WS_place, rm_WS_fewestLoads]; omega, by dsimp only [rm_WS_place, rm_WS_fewestLoads]; omega⟩) (m_preV (k := 5) (by decide) rfl hK hSt hw) rfl rfl hl.1 rfl (lv_room (Nat.le_of_ble_eq_true rfl)) d_WS_place_19 ⟨Nat.zero_le _, Nat.zero_le _⟩) hw (fun H locs hw => ?_)
        refine lv_istore (lv' := [(5, .int r19), (4, .int r12), (0, .ref (G.2.1 5)), (1, .int x1), (2, .long x2)]) hx hb d_WS_place_22 hl (by decide) rfl (fun ls hl => ?_)
        refine lv_iload_n hx hb d_WS_place_24 rfl (lv_at hl 3 rfl) ?_
        refine lv_iconst (v := 3) hx hb d_WS_place_25 (by decide) ?_
        refine lv_icmp_ge (tgt := 71) hx hb d_WS_place_26 (by decide) (fun c26 => ?_) (fun c26 => ?_)
        · have h := ifp c26 h
          refine lv_iload hx hb d_WS_place_71 (lv_at hl 0 rfl) ?_
          refine lv_iload hx hb d_WS_place_73 (lv_at hl 1 rfl) ?_
          refine lv_icmp_gt (tgt := 128) hx hb d_WS_place_75 (by decide) (fun c75 => ?_) (fun c75 => ?_)
          · have h := ifp c75 h
            exact m_vret hx hb hr hlk hw h d_WS_place_128
          · have h := ifn c75 h
            refine lv_aload_n hx hb d_WS_place_78 rfl (lv_at hl 2 rfl) ?_
            refine va_get (D := G.1) (ci := 5) (v := .ref (G.2.1 1)) (C := "RecipePlans$WholeSearch") (T := T_WS) (N := 9) hx hb hts (fun _ h9 => List.mem_cons_of_mem _ (inT_WS _ h9)) hown hK hw.1 5 (WL_get (by decide)) rfl 0 (by decide) (hts _ (List.mem_cons_of_mem _ tw_169)) (fun _ h9 => h9) rfl d_WS_place_79 ?_
            refine va_get (D := G.1) (ci := 1) (v := .ref (G.2.1 42)) (C := "RecipePlans$Lots") (T := T_Lo) (N := 4) hx hb hts (fun _ h9 => List.mem_cons_of_mem _ (inT_Lo _ h9)) hown hK hw.1 1 (WL_get (by decide)) rfl 2 (by decide) (hts _ (List.mem_cons_of_mem _ tw_66)) (fun _ h9 => h9) rfl d_WS_place_82 ?_
            refine lv_iload_n hx hb d_WS_place_85 rfl (lv_at hl 3 rfl) ?_
            obtain ⟨v86, hv, h⟩ := bd h
            refine m_laload hx hb hK hw hv d_WS_place_86 ?_
            refine lv_lconst (v := 0) hx hb d_WS_place_87 (by decide) ?_
            refine W.lcmp hx hb d_WS_place_88 ?_
            refine lv_if_ge (tgt := 97) hx hb d_WS_place_89 (by decide) (fun c89 => ?_) (fun c89 => ?_)
            · have h := ifp c89 h
              refine lv_iload hx hb d_WS_place_97 (lv_at hl 0 rfl) ?_
              exact w_WS_place_99 C hT_T_WS_place x1 x2 r19 μ19 _ _ _ hw (lv_sub hl [2, 3, 4] rfl) h
            · have h := ifn c89 h
              refine lv_iload hx hb d_WS_place_92 (lv_at hl 1 rfl) ?_
              refine lv_goto (tgt := 99) hx hb d_WS_place_94 (by decide) ?_
              exact w_WS_place_99 C hT_T_WS_place x1 x2 r12 μ19 _ _ _ hw (lv_sub hl [2, 3, 4] rfl) h
        · have h := ifn c26 h
          refine lv_iload hx hb d_WS_place_29 (lv_at hl 0 rfl) ?_
          refine lv_istore (lv' := [(6, .int r19), (5, .int r19), (4, .int r12), (0, .ref (G.2.1 5)), (1, .int x1), (2, .long x2)]) hx hb d_WS_place_31 hl (by decide) rfl (fun ls hl => ?_)
          exact w_WS_place_33 C hT_T_WS_place N x1 x2 r12 r19 μ19 _ _ _ hw (lv_sub hl [3, 4, 5, 2, 0] rfl) h
      · have h := ifn c6 h
        exact m_vret hx hb hr hlk hw h d_WS_place_9
set_option maxRecDepth 100000 in
set_option maxHeartbeats 4000000 in
theorem c_WS_search (l : Launch) (G : Gw) (N : Nat) (x1 : Int32) (μ : Mem) {μ' : Mem} (h : M_WS_search N x1 μ = some μ') : CT l y_WS_search ws_WS_search rm_WS_search [.ref (G.2.1 5), .int x1] G μ none μ' := by
  refine m_met (cc := prog_7_method_2_code) (maxL := 2) (ret := none) (by decide) rfl (Nat.le_of_ble_eq_true rfl) ?_
  intro p e s m args below meth c ls C hw hl
  obtain ⟨hx, hb, hr, hml, hown, hts, hlk, hK, hSt⟩ := id C
  have hl : lv_has ls 2 [(0, .ref (G.2.1 5)), (1, .int x1)] := hl
  unfold M_WS_search at h
  refine lv_aload_n hx hb d_WS_search_0 rfl (lv_at hl 0 rfl) ?_
  refine lv_iconst (v := 0) hx hb d_WS_search_1 (by decide) ?_
  obtain ⟨μ2, hm, h⟩ := bd h
  refine va_put (D := G.1) (ci := 5) (v := .int (0 : Int32)) (ty := .boolean) (C := "RecipePlans$WholeSearch") (T := T_WS) (N := 9) hx hb hts (fun _ h9 => List.mem_cons_of_mem _ (inT_WS _ h9)) ty_WS tyok_WS nm_WS hown hK hw.1 hw.2.1 hw.2.2 5 (WL_get (by decide)) rfl 6 (by decide) (hts _ (List.mem_cons_of_mem _ tw_175)) (fun _ h9 => h9) rfl (by decide +kernel) (pZ_ok hm).1 (pZ_ok hm).2 (Nat.le_of_ble_eq_true rfl) d_WS_search_2 (fun H locs hP hD hS => ?_)
  have hw := wk_pZ hm (by decide) (by rfl) hP hD hS
  refine lv_aload_n hx hb d_WS_search_5 rfl (lv_at hl 0 rfl) ?_
  refine lv_lconst (v := 0) hx hb d_WS_search_6 (by decide) ?_
  obtain ⟨μ7, hm, h⟩ := bd h
  refine va_put (D := G.1) (ci := 5) (v := .long (0 : Int64)) (ty := .long) (C := "RecipePlans$WholeSearch") (T := T_WS) (N := 9) hx hb hts (fun _ h9 => List.mem_cons_of_mem _ (inT_WS _ h9)) ty_WS tyok_WS nm_WS hown hK hw.1 hw.2.1 hw.2.2 5 (WL_get (by decide)) rfl 7 (by decide) (hts _ (List.mem_cons_of_mem _ tw_178)) (fun _ h9 => h9) rfl (by decide +kernel) rfl rfl (Nat.le_of_ble_eq_true rfl) d_WS_search_7 (fun H locs hP hD hS => ?_)
  have hw := wk_pJ hm (by decide) (by rfl) hP hD hS
  refine lv_iload_n hx hb d_WS_search_10 rfl (lv_at hl 1 rfl) ?_
  refine lv_if_eq (tgt := 24) hx hb d_WS_search_11 (by decide) (fun c11 => ?_) (fun c11 => ?_)
  · have h := ifp c11 h
    exact m_vret hx hb hr hlk hw h d_WS_search_24
  · have h := ifn c11 h
    refine lv_aload_n hx hb d_WS_search_14 rfl (lv_at hl 0 rfl) ?_
    obtain ⟨μ15, hq, h⟩ := bd h
    refine m_call (r := none) (μ1 := μ15) (va_runV (C := "RecipePlans$WholeSearch") (As := []) (rest := []) ⟨hx, hb, hml, hown, hts⟩ (c_WS_begin l G N μ7 hq _) (cwV 0 hts (gdV tw_369 tw_370 tw_9 tw_39 tw_371) rfl rfl rfl (by decide +kernel) ⟨Nat.le_of_ble_eq_true rfl, Nat.le_of_ble_eq_true rfl⟩) (m_preV (k := 5) (by decide) rfl hK hSt hw) rfl rfl hl.1 rfl (lv_room (Nat.le_of_ble_eq_true rfl)) d_WS_search_15 ⟨Nat.zero_le _, Nat.zero_le _⟩) hw (fun H locs hw => ?_)
    refine lv_aload_n hx hb d_WS_search_18 rfl (lv_at hl 0 rfl) ?_
    refine lv_iconst (v := 0) hx hb d_WS_search_19 (by decide) ?_
    refine lv_lconst (v := 0) hx hb d_WS_search_20 (by decide) ?_
    obtain ⟨μ21, hq, h⟩ := bd h
    refine m_call (r := none) (μ1 := μ21) (va_runV (C := "RecipePlans$WholeSearch") (As := [.int (0 : Int32), .long (0 : Int64)]) (rest := []) ⟨hx, hb, hml, hown, hts⟩ (c_WS_place l G N 5 (0 : Int32) (0 : Int64) μ15 hq _) (cwV 2 hts (gdV tw_378 tw_379 tw_10 tw_39 tw_380) rfl rfl rfl (by decide +kernel) ⟨Nat.le_of_ble_eq_true rfl, Nat.le_of_ble_eq_true rfl⟩) (m_preV (k := 5) (by decide) rfl hK hSt hw) rfl rfl hl.1 rfl (lv_room (Nat.le_of_ble_eq_true rfl)) d_WS_search_21 ⟨Nat.zero_le _, Nat.zero_le _⟩) hw (fun H locs hw => ?_)
    exact m_vret hx hb hr hlk hw h d_WS_search_24
set_option maxRecDepth 100000 in
set_option maxHeartbeats 4000000 in
theorem w_Fo_takeCut_39 {μ' : Mem} {N : Nat} (C : CxA G p s m args meth c prog_3_method_2_code 4 none "RecipePlans$Found" ws_Fo_takeCut) : ∀ (μ : Mem) (H : Heap) (locs : List Loc) (ls : Array Slot), Wk G s μ H locs → lv_has ls 4 [(0, .ref (G.2.1 6)), (1, .ref (G.2.1 4))] → M_Fo_takeCut_39 N μ = some μ' → WA G rm_Fo_takeCut p l e s m args below meth c none μ' H locs 39 ls [] := by
  obtain ⟨hx, hb, hr, hml, hown, hts, hlk, hK, hSt⟩ := id C
  intro  μ H locs ls hw hl h
  unfold M_Fo_takeCut_39 at h
  refine lv_aload_n hx hb d_Fo_takeCut_39 rfl (lv_at hl 0 rfl) ?_
  refine lv_aload_n hx hb d_Fo_takeCut_40 rfl (lv_at hl 1 rfl) ?_
  refine va_get (D := G.1) (ci := 4) (v := .int (μ.1 4 10)) (C := "RecipePlans$CutSearch") (T := T_CS) (N := 13) hx hb hts (fun _ h9 => List.mem_cons_of_mem _ (inT_CS _ h9)) hown hK hw.1 4 (WL_get (by decide)) rfl 10 (by decide) (hts _ (List.mem_cons_of_mem _ tw_141)) (fun _ h9 => h9) rfl d_Fo_takeCut_41 ?_
  refine lv_if_eq (tgt := 51) hx hb d_Fo_takeCut_44 (by decide) (fun c44 => ?_) (fun c44 => ?_)
  · have h := ifp c44 h
    refine lv_aload_n hx hb d_Fo_takeCut_51 rfl (lv_at hl 1 rfl) ?_
    obtain ⟨r52, μ52, hq, h⟩ := bd2 h
    refine m_call (r := some (.int r52)) (μ1 := μ52) (va_runV (C := "RecipePlans$CutSearch") (As := []) (rest := [.ref (G.2.1 6)]) ⟨hx, hb, hml, hown, hts⟩ (c_CS_fewestClashing l G N μ hq _) (cwV 0 hts (gdV tw_407 tw_408 tw_409 tw_38 tw_410) rfl rfl rfl (by decide +kernel) ⟨Nat.le_of_ble_eq_true rfl, Nat.le_of_ble_eq_true rfl⟩) (m_preV (k := 4) (by decide) rfl hK hSt hw) rfl rfl hl.1 rfl (lv_room (Nat.le_of_ble_eq_true rfl)) d_Fo_takeCut_52 ⟨Nat.zero_le _, Nat.zero_le _⟩) hw (fun H locs hw => ?_)
    obtain ⟨μ55, hm, h⟩ := bd h
    refine va_put (D := G.1) (ci := 6) (v := .int r52) (ty := .int) (C := "RecipePlans$Found") (T := T_Fo) (N := 8) hx hb hts (fun _ h9 => List.mem_cons_of_mem _ (inT_Fo _ h9)) ty_Fo tyok_Fo nm_Fo hown hK hw.1 hw.2.1 hw.2.2 6 (WL_get (by decide)) rfl 7 (by decide) (hts _ (List.mem_cons_of_mem _ tw_211)) (fun _ h9 => h9) rfl (by decide +kernel) rfl rfl (Nat.le_of_ble_eq_true rfl) d_Fo_takeCut_55 (fun H locs hP hD hS => ?_)
    have hw := wk_pI hm (by decide) (by rfl) hP hD hS
    exact m_vret hx hb hr hlk hw h d_Fo_takeCut_58
  · have h := ifn c44 h
    refine lv_iconst (v := 0) hx hb d_Fo_takeCut_47 (by decide) ?_
    refine lv_goto (tgt := 55) hx hb d_Fo_takeCut_48 (by decide) ?_
    obtain ⟨μ55, hm, h⟩ := bd h
    refine va_put (D := G.1) (ci := 6) (v := .int (0 : Int32)) (ty := .int) (C := "RecipePlans$Found") (T := T_Fo) (N := 8) hx hb hts (fun _ h9 => List.mem_cons_of_mem _ (inT_Fo _ h9)) ty_Fo tyok_Fo nm_Fo hown hK hw.1 hw.2.1 hw.2.2 6 (WL_get (by decide)) rfl 7 (by decide) (hts _ (List.mem_cons_of_mem _ tw_211)) (fun _ h9 => h9) rfl (by decide +kernel) rfl rfl (Nat.le_of_ble_eq_true rfl) d_Fo_takeCut_55 (fun H locs hP hD hS => ?_)
    have hw := wk_pI hm (by decide) (by rfl) hP hD hS
    exact m_vret hx hb hr hlk hw h d_Fo_takeCut_58
set_option maxRecDepth 100000 in
set_option maxHeartbeats 4000000 in
theorem c_Fo_takeCut (l : Launch) (G : Gw) (N : Nat) (μ : Mem) {μ' : Mem} (h : M_Fo_takeCut N μ = some μ') : CT l y_Fo_takeCut ws_Fo_takeCut rm_Fo_takeCut [.ref (G.2.1 6), .ref (G.2.1 4)] G μ none μ' := by
  refine m_met (cc := prog_3_method_2_code) (maxL := 4) (ret := none) (by decide) rfl (Nat.le_of_ble_eq_true rfl) ?_
  intro p e s m args below meth c ls C hw hl
  obtain ⟨hx, hb, hr, hml, hown, hts, hlk, hK, hSt⟩ := id C
  have hl : lv_has ls 4 [(0, .ref (G.2.1 6)), (1, .ref (G.2.1 4))] := hl
  unfold M_Fo_takeCut at h
  refine lv_aload_n hx hb d_Fo_takeCut_0 rfl (lv_at hl 1 rfl) ?_
  obtain ⟨r1, μ1, hq, h⟩ := bd2 h
  refine m_call (r := some (.long r1)) (μ1 := μ1) (va_runV (C := "RecipePlans$CutSearch") (As := []) (rest := []) ⟨hx, hb, hml, hown, hts⟩ (c_CS_commonDivisor l G N μ hq _) (cwV 0 hts (gdV tw_400 tw_401 tw_402 tw_38 tw_403) rfl rfl rfl (by decide +kernel) ⟨Nat.le_of_ble_eq_true rfl, Nat.le_of_ble_eq_true rfl⟩) (m_preV (k := 4) (by decide) rfl hK hSt hw) rfl rfl hl.1 rfl (lv_room (Nat.le_of_ble_eq_true rfl)) d_Fo_takeCut_1 ⟨Nat.zero_le _, Nat.zero_le _⟩) hw (fun H locs hw => ?_)
  refine lv_lstore_n (lv' := [(2, .long r1), (0, .ref (G.2.1 6)), (1, .ref (G.2.1 4))]) hx hb d_Fo_takeCut_4 rfl hl (by decide) rfl (fun ls hl => ?_)
  refine lv_aload_n hx hb d_Fo_takeCut_5 rfl (lv_at hl 1 rfl) ?_
  refine lv_aload_n hx hb d_Fo_takeCut_6 rfl (lv_at hl 2 rfl) ?_
  refine va_get (D := G.1) (ci := 4) (v := .int (μ1.1 4 10)) (C := "RecipePlans$CutSearch") (T := T_CS) (N := 13) hx hb hts (fun _ h9 => List.mem_cons_of_mem _ (inT_CS _ h9)) hown hK hw.1 4 (WL_get (by decide)) rfl 10 (by decide) (hts _ (List.mem_cons_of_mem _ tw_141)) (fun _ h9 => h9) rfl d_Fo_takeCut_7 ?_
  obtain ⟨μ10, hm, h⟩ := bd h
  refine va_put (D := G.1) (ci := 6) (v := .int (μ1.1 4 10)) (ty := .boolean) (C := "RecipePlans$Found") (T := T_Fo) (N := 8) hx hb hts (fun _ h9 => List.mem_cons_of_mem _ (inT_Fo _ h9)) ty_Fo tyok_Fo nm_Fo hown hK hw.1 hw.2.1 hw.2.2 6 (WL_get (by decide)) rfl 4 (by decide) (hts _ (List.mem_cons_of_mem _ tw_205)) (fun _ h9 => h9) rfl (by decide +kernel) (pZ_ok hm).1 (pZ_ok hm).2 (Nat.le_of_ble_eq_true rfl) d_Fo_takeCut_10 (fun H locs hP hD hS => ?_)
  have hw := wk_pZ hm (by decide) (by rfl) hP hD hS
  refine lv_lload_n hx hb d_Fo_takeCut_13 rfl (lv_at hl 0 rfl) ?_
  refine lv_lconst (v := 0) hx hb d_Fo_takeCut_14 (by decide) ?_
  refine W.lcmp hx hb d_Fo_takeCut_15 ?_
  refine lv_if_le (tgt := 39) hx hb d_Fo_takeCut_16 (by decide) (fun c16 => ?_) (fun c16 => ?_)
  · have h := ifp c16 h
    exact w_Fo_takeCut_39 C μ10 _ _ _ hw (lv_sub hl [1, 2] rfl) h
  · have h := ifn c16 h
    refine lv_aload_n hx hb d_Fo_takeCut_19 rfl (lv_at hl 1 rfl) ?_
    refine lv_aload_n hx hb d_Fo_takeCut_20 rfl (lv_at hl 2 rfl) ?_
    refine va_get (D := G.1) (ci := 4) (v := .long (μ10.2 4 11)) (C := "RecipePlans$CutSearch") (T := T_CS) (N := 13) hx hb hts (fun _ h9 => List.mem_cons_of_mem _ (inT_CS _ h9)) hown hK hw.1 4 (WL_get (by decide)) rfl 11 (by decide) (hts _ (List.mem_cons_of_mem _ tw_144)) (fun _ h9 => h9) rfl d_Fo_takeCut_21 ?_
    refine lv_lload_n hx hb d_Fo_takeCut_24 rfl (lv_at hl 0 rfl) ?_
    obtain ⟨v25, hv, h⟩ := bd h
    refine m_ldiv hx hb hv d_Fo_takeCut_25 ?_
    obtain ⟨μ26, hm, h⟩ := bd h
    refine va_put (D := G.1) (ci := 6) (v := .long v25) (ty := .long) (C := "RecipePlans$Found") (T := T_Fo) (N := 8) hx hb hts (fun _ h9 => List.mem_cons_of_mem _ (inT_Fo _ h9)) ty_Fo tyok_Fo nm_Fo hown hK hw.1 hw.2.1 hw.2.2 6 (WL_get (by decide)) rfl 5 (by decide) (hts _ (List.mem_cons_of_mem _ tw_207)) (fun _ h9 => h9) rfl (by decide +kernel) rfl rfl (Nat.le_of_ble_eq_true rfl) d_Fo_takeCut_26 (fun H locs hP hD hS => ?_)
    have hw := wk_pJ hm (by decide) (by rfl) hP hD hS
    refine lv_aload_n hx hb d_Fo_takeCut_29 rfl (lv_at hl 1 rfl) ?_
    refine lv_aload_n hx hb d_Fo_takeCut_30 rfl (lv_at hl 2 rfl) ?_
    refine va_get (D := G.1) (ci := 4) (v := .long (μ26.2 4 12)) (C := "RecipePlans$CutSearch") (T := T_CS) (N := 13) hx hb hts (fun _ h9 => List.mem_cons_of_mem _ (inT_CS _ h9)) hown hK hw.1 4 (WL_get (by decide)) rfl 12 (by decide) (hts _ (List.mem_cons_of_mem _ tw_146)) (fun _ h9 => h9) rfl d_Fo_takeCut_31 ?_
    refine lv_lload_n hx hb d_Fo_takeCut_34 rfl (lv_at hl 0 rfl) ?_
    obtain ⟨v35, hv, h⟩ := bd h
    refine m_ldiv hx hb hv d_Fo_takeCut_35 ?_
    obtain ⟨μ36, hm, h⟩ := bd h
    refine va_put (D := G.1) (ci := 6) (v := .long v35) (ty := .long) (C := "RecipePlans$Found") (T := T_Fo) (N := 8) hx hb hts (fun _ h9 => List.mem_cons_of_mem _ (inT_Fo _ h9)) ty_Fo tyok_Fo nm_Fo hown hK hw.1 hw.2.1 hw.2.2 6 (WL_get (by decide)) rfl 6 (by decide) (hts _ (List.mem_cons_of_mem _ tw_209)) (fun _ h9 => h9) rfl (by decide +kernel) rfl rfl (Nat.le_of_ble_eq_true rfl) d_Fo_takeCut_36 (fun H locs hP hD hS => ?_)
    have hw := wk_pJ hm (by decide) (by rfl) hP hD hS
    exact w_Fo_takeCut_39 C μ36 _ _ _ hw (lv_sub hl [1, 2] rfl) h
set_option maxRecDepth 100000 in
set_option maxHeartbeats 4000000 in
theorem w_Fo_takeWhole_23 {μ' : Mem} {N : Nat} (C : CxA G p s m args meth c prog_3_method_3_code 4 none "RecipePlans$Found" ws_Fo_takeWhole) : ∀ (n : Nat) (x3 : Int32) (μ : Mem) (H : Heap) (locs : List Loc) (ls : Array Slot), Wk G s μ H locs → lv_has ls 4 [(0, .ref (G.2.1 6)), (1, .ref (G.2.1 5)), (3, .int x3)] → M_Fo_takeWhole_23 N n x3 μ = some μ' → WA G rm_Fo_takeWhole p l e s m args below meth c none μ' H locs 23 ls [] := by
  obtain ⟨hx, hb, hr, hml, hown, hts, hlk, hK, hSt⟩ := id C
  intro n
  induction n with
  | zero =>
    intro x3 μ H locs ls hw hl h
    rw [M_Fo_takeWhole_23] at h
    cases h
  | succ n ih =>
    intro x3 μ H locs ls hw hl h
    rw [M_Fo_takeWhole_23] at h
    refine lv_iload_n hx hb d_Fo_takeWhole_23 rfl (lv_at hl 2 rfl) ?_
    refine lv_iconst (v := 4) hx hb d_Fo_takeWhole_24 (by decide) ?_
    refine lv_icmp_ge (tgt := 46) hx hb d_Fo_takeWhole_25 (by decide) (fun c25 => ?_) (fun c25 => ?_)
    · have h := ifp c25 h
      exact m_vret hx hb hr hlk hw h d_Fo_takeWhole_46
    · have h := ifn c25 h
      refine lv_aload_n hx hb d_Fo_takeWhole_28 rfl (lv_at hl 0 rfl) ?_
      refine va_get (D := G.1) (ci := 6) (v := .ref (G.2.1 27)) (C := "RecipePlans$Found") (T := T_Fo) (N := 8) hx hb hts (fun _ h9 => List.mem_cons_of_mem _ (inT_Fo _ h9)) hown hK hw.1 6 (WL_get (by decide)) rfl 2 (by decide) (hts _ (List.mem_cons_of_mem _ tw_201)) (fun _ h9 => h9) rfl d_Fo_takeWhole_29 ?_
      refine lv_iload_n hx hb d_Fo_takeWhole_32 rfl (lv_at hl 2 rfl) ?_
      refine lv_aload_n hx hb d_Fo_takeWhole_33 rfl (lv_at hl 1 rfl) ?_
      refine va_get (D := G.1) (ci := 5) (v := .ref (G.2.1 26)) (C := "RecipePlans$WholeSearch") (T := T_WS) (N := 9) hx hb hts (fun _ h9 => List.mem_cons_of_mem _ (inT_WS _ h9)) hown hK hw.1 5 (WL_get (by decide)) rfl 8 (by decide) (hts _ (List.mem_cons_of_mem _ tw_181)) (fun _ h9 => h9) rfl d_Fo_takeWhole_34 ?_
      refine lv_iload_n hx hb d_Fo_takeWhole_37 rfl (lv_at hl 2 rfl) ?_
      obtain ⟨v38, hv, h⟩ := bd h
      refine m_iaload hx hb hK hw hv d_Fo_takeWhole_38 ?_
      obtain ⟨μ39, hm, h⟩ := bd h
      refine m_iastore hx hb hK hw hm d_Fo_takeWhole_39 (fun H locs hw => ?_)
      refine lv_iinc (v := x3 + 1) (lv' := [(3, .int (x3 + 1)), (0, .ref (G.2.1 6)), (1, .ref (G.2.1 5))]) hx hb d_Fo_takeWhole_40 hl (k := 2) rfl rfl (by decide) rfl (fun ls hl => ?_)
      refine lv_goto (tgt := 23) hx hb d_Fo_takeWhole_43 (by decide) ?_
      exact ih (x3 + 1) μ39 _ _ _ hw (lv_sub hl [1, 2, 0] rfl) h
set_option maxRecDepth 100000 in
set_option maxHeartbeats 4000000 in
theorem c_Fo_takeWhole (l : Launch) (G : Gw) (N : Nat) (x2 : Int32) (μ : Mem) {μ' : Mem} (h : M_Fo_takeWhole N x2 μ = some μ') : CT l y_Fo_takeWhole ws_Fo_takeWhole rm_Fo_takeWhole [.ref (G.2.1 6), .ref (G.2.1 5), .int x2] G μ none μ' := by
  refine m_met (cc := prog_3_method_3_code) (maxL := 4) (ret := none) (by decide) rfl (Nat.le_of_ble_eq_true rfl) ?_
  intro p e s m args below meth c ls C hw hl
  obtain ⟨hx, hb, hr, hml, hown, hts, hlk, hK, hSt⟩ := id C
  have hl : lv_has ls 4 [(0, .ref (G.2.1 6)), (1, .ref (G.2.1 5)), (2, .int x2)] := hl
  unfold M_Fo_takeWhole at h
  refine lv_aload_n hx hb d_Fo_takeWhole_0 rfl (lv_at hl 0 rfl) ?_
  refine lv_aload_n hx hb d_Fo_takeWhole_1 rfl (lv_at hl 1 rfl) ?_
  refine va_get (D := G.1) (ci := 5) (v := .int (μ.1 5 6)) (C := "RecipePlans$WholeSearch") (T := T_WS) (N := 9) hx hb hts (fun _ h9 => List.mem_cons_of_mem _ (inT_WS _ h9)) hown hK hw.1 5 (WL_get (by decide)) rfl 6 (by decide) (hts _ (List.mem_cons_of_mem _ tw_176)) (fun _ h9 => h9) rfl d_Fo_takeWhole_2 ?_
  obtain ⟨μ5, hm, h⟩ := bd h
  refine va_put (D := G.1) (ci := 6) (v := .int (μ.1 5 6)) (ty := .boolean) (C := "RecipePlans$Found") (T := T_Fo) (N := 8) hx hb hts (fun _ h9 => List.mem_cons_of_mem _ (inT_Fo _ h9)) ty_Fo tyok_Fo nm_Fo hown hK hw.1 hw.2.1 hw.2.2 6 (WL_get (by decide)) rfl 0 (by decide) (hts _ (List.mem_cons_of_mem _ tw_197)) (fun _ h9 => h9) rfl (by decide +kernel) (pZ_ok hm).1 (pZ_ok hm).2 (Nat.le_of_ble_eq_true rfl) d_Fo_takeWhole_5 (fun H locs hP hD hS => ?_)
  have hw := wk_pZ hm (by decide) (by rfl) hP hD hS
  refine lv_aload_n hx hb d_Fo_takeWhole_8 rfl (lv_at hl 0 rfl) ?_
  refine lv_iload_n hx hb d_Fo_takeWhole_9 rfl (lv_at hl 2 rfl) ?_
  obtain ⟨μ10, hm, h⟩ := bd h
  refine va_put (D := G.1) (ci := 6) (v := .int x2) (ty := .int) (C := "RecipePlans$Found") (T := T_Fo) (N := 8) hx hb hts (fun _ h9 => List.mem_cons_of_mem _ (inT_Fo _ h9)) ty_Fo tyok_Fo nm_Fo hown hK hw.1 hw.2.1 hw.2.2 6 (WL_get (by decide)) rfl 1 (by decide) (hts _ (List.mem_cons_of_mem _ tw_199)) (fun _ h9 => h9) rfl (by decide +kernel) rfl rfl (Nat.le_of_ble_eq_true rfl) d_Fo_takeWhole_10 (fun H locs hP hD hS => ?_)
  have hw := wk_pI hm (by decide) (by rfl) hP hD hS
  refine lv_aload_n hx hb d_Fo_takeWhole_13 rfl (lv_at hl 0 rfl) ?_
  refine lv_aload_n hx hb d_Fo_takeWhole_14 rfl (lv_at hl 1 rfl) ?_
  refine va_get (D := G.1) (ci := 5) (v := .long (μ10.2 5 7)) (C := "RecipePlans$WholeSearch") (T := T_WS) (N := 9) hx hb hts (fun _ h9 => List.mem_cons_of_mem _ (inT_WS _ h9)) hown hK hw.1 5 (WL_get (by decide)) rfl 7 (by decide) (hts _ (List.mem_cons_of_mem _ tw_179)) (fun _ h9 => h9) rfl d_Fo_takeWhole_15 ?_
  obtain ⟨μ18, hm, h⟩ := bd h
  refine va_put (D := G.1) (ci := 6) (v := .long (μ10.2 5 7)) (ty := .long) (C := "RecipePlans$Found") (T := T_Fo) (N := 8) hx hb hts (fun _ h9 => List.mem_cons_of_mem _ (inT_Fo _ h9)) ty_Fo tyok_Fo nm_Fo hown hK hw.1 hw.2.1 hw.2.2 6 (WL_get (by decide)) rfl 3 (by decide) (hts _ (List.mem_cons_of_mem _ tw_203)) (fun _ h9 => h9) rfl (by decide +kernel) rfl rfl (Nat.le_of_ble_eq_true rfl) d_Fo_takeWhole_18 (fun H locs hP hD hS => ?_)
  have hw := wk_pJ hm (by decide) (by rfl) hP hD hS
  refine lv_iconst (v := 0) hx hb d_Fo_takeWhole_21 (by decide) ?_
  refine lv_istore_n (lv' := [(3, .int (0 : Int32)), (0, .ref (G.2.1 6)), (1, .ref (G.2.1 5)), (2, .int x2)]) hx hb d_Fo_takeWhole_22 rfl hl (by decide) rfl (fun ls hl => ?_)
  exact w_Fo_takeWhole_23 C N (0 : Int32) μ18 _ _ _ hw (lv_sub hl [1, 2, 0] rfl) h
end WK
