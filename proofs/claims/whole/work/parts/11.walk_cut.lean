section WK
variable {p : Program} {l : Launch} {e : Env} {s : State} {m : MethodId} {args : Array Value} {below : List Frame} {meth : Method} {c : Code} {G : Gw}
set_option maxRecDepth 100000 in
set_option maxHeartbeats 4000000 in
theorem w_CS_begin_2 {μ' : Mem} {N : Nat} (C : CxA G p s m args meth c prog_2_method_3_code 2 none "RecipePlans$CutSearch" ws_CS_begin) : ∀ (n : Nat) (x1 : Int32) (μ : Mem) (H : Heap) (locs : List Loc) (ls : Array Slot), Wk G s μ H locs → lv_has ls 2 [(0, .ref (G.2.1 4)), (1, .int x1)] → M_CS_begin_2 N n x1 μ = some μ' → WA G rm_CS_begin p l e s m args below meth c none μ' H locs 2 ls [] := by
  obtain ⟨hx, hb, hr, hml, hown, hts, hlk, hK, hSt⟩ := id C
  intro n
  induction n with
  | zero =>
    intro x1 μ H locs ls hw hl h
    rw [M_CS_begin_2] at h
    cases h
  | succ n ih =>
    intro x1 μ H locs ls hw hl h
    rw [M_CS_begin_2] at h
    refine lv_iload_n hx hb d_CS_begin_2 rfl (lv_at hl 1 rfl) ?_
    refine lv_aload_n hx hb d_CS_begin_3 rfl (lv_at hl 0 rfl) ?_
    refine va_get (D := G.1) (ci := 4) (v := .int (μ.1 4 8)) (C := "RecipePlans$CutSearch") (T := T_CS) (N := 13) hx hb hts (fun _ h9 => List.mem_cons_of_mem _ (inT_CS _ h9)) hown hK hw.1 4 (WL_get (by decide)) rfl 8 (by decide) (hts _ (List.mem_cons_of_mem _ tw_139)) (fun _ h9 => h9) rfl d_CS_begin_4 ?_
    refine lv_icmp_ge (tgt := 28) hx hb d_CS_begin_7 (by decide) (fun c7 => ?_) (fun c7 => ?_)
    · have h := ifp c7 h
      refine lv_aload_n hx hb d_CS_begin_28 rfl (lv_at hl 0 rfl) ?_
      refine lv_iconst (v := 0) hx hb d_CS_begin_29 (by decide) ?_
      obtain ⟨μ30, hm, h⟩ := bd h
      refine va_put (D := G.1) (ci := 4) (v := .int (0 : Int32)) (ty := .int) (C := "RecipePlans$CutSearch") (T := T_CS) (N := 13) hx hb hts (fun _ h9 => List.mem_cons_of_mem _ (inT_CS _ h9)) ty_CS tyok_CS nm_CS hown hK hw.1 hw.2.1 hw.2.2 4 (WL_get (by decide)) rfl 8 (by decide) (hts _ (List.mem_cons_of_mem _ tw_139)) (fun _ h9 => h9) rfl (by decide +kernel) rfl rfl (Nat.le_of_ble_eq_true rfl) d_CS_begin_30 (fun H locs hP hD hS => ?_)
      have hw := wk_pI hm (by decide) (by rfl) hP hD hS
      refine lv_aload_n hx hb d_CS_begin_33 rfl (lv_at hl 0 rfl) ?_
      refine lv_iconst (v := 0) hx hb d_CS_begin_34 (by decide) ?_
      obtain ⟨μ35, hm, h⟩ := bd h
      refine va_put (D := G.1) (ci := 4) (v := .int (0 : Int32)) (ty := .boolean) (C := "RecipePlans$CutSearch") (T := T_CS) (N := 13) hx hb hts (fun _ h9 => List.mem_cons_of_mem _ (inT_CS _ h9)) ty_CS tyok_CS nm_CS hown hK hw.1 hw.2.1 hw.2.2 4 (WL_get (by decide)) rfl 10 (by decide) (hts _ (List.mem_cons_of_mem _ tw_142)) (fun _ h9 => h9) rfl (by decide +kernel) (pZ_ok hm).1 (pZ_ok hm).2 (Nat.le_of_ble_eq_true rfl) d_CS_begin_35 (fun H locs hP hD hS => ?_)
      have hw := wk_pZ hm (by decide) (by rfl) hP hD hS
      refine lv_aload_n hx hb d_CS_begin_38 rfl (lv_at hl 0 rfl) ?_
      refine lv_lconst (v := 0) hx hb d_CS_begin_39 (by decide) ?_
      obtain ⟨μ40, hm, h⟩ := bd h
      refine va_put (D := G.1) (ci := 4) (v := .long (0 : Int64)) (ty := .long) (C := "RecipePlans$CutSearch") (T := T_CS) (N := 13) hx hb hts (fun _ h9 => List.mem_cons_of_mem _ (inT_CS _ h9)) ty_CS tyok_CS nm_CS hown hK hw.1 hw.2.1 hw.2.2 4 (WL_get (by decide)) rfl 11 (by decide) (hts _ (List.mem_cons_of_mem _ tw_145)) (fun _ h9 => h9) rfl (by decide +kernel) rfl rfl (Nat.le_of_ble_eq_true rfl) d_CS_begin_40 (fun H locs hP hD hS => ?_)
      have hw := wk_pJ hm (by decide) (by rfl) hP hD hS
      refine lv_aload_n hx hb d_CS_begin_43 rfl (lv_at hl 0 rfl) ?_
      refine lv_lconst (v := 1) hx hb d_CS_begin_44 (by decide) ?_
      obtain ⟨μ45, hm, h⟩ := bd h
      refine va_put (D := G.1) (ci := 4) (v := .long (1 : Int64)) (ty := .long) (C := "RecipePlans$CutSearch") (T := T_CS) (N := 13) hx hb hts (fun _ h9 => List.mem_cons_of_mem _ (inT_CS _ h9)) ty_CS tyok_CS nm_CS hown hK hw.1 hw.2.1 hw.2.2 4 (WL_get (by decide)) rfl 12 (by decide) (hts _ (List.mem_cons_of_mem _ tw_147)) (fun _ h9 => h9) rfl (by decide +kernel) rfl rfl (Nat.le_of_ble_eq_true rfl) d_CS_begin_45 (fun H locs hP hD hS => ?_)
      have hw := wk_pJ hm (by decide) (by rfl) hP hD hS
      refine lv_aload_n hx hb d_CS_begin_48 rfl (lv_at hl 0 rfl) ?_
      refine lv_aload_n hx hb d_CS_begin_49 rfl (lv_at hl 0 rfl) ?_
      refine va_get (D := G.1) (ci := 4) (v := .ref (G.2.1 1)) (C := "RecipePlans$CutSearch") (T := T_CS) (N := 13) hx hb hts (fun _ h9 => List.mem_cons_of_mem _ (inT_CS _ h9)) hown hK hw.1 4 (WL_get (by decide)) rfl 0 (by decide) (hts _ (List.mem_cons_of_mem _ tw_131)) (fun _ h9 => h9) rfl d_CS_begin_50 ?_
      obtain ⟨r53, μ53, hq, h⟩ := bd2 h
      refine m_call (r := some (.int r53)) (μ1 := μ53) (va_runV (C := "RecipePlans$Lots") (As := []) (rest := [.ref (G.2.1 4)]) ⟨hx, hb, hml, hown, hts⟩ (c_Lo_inStock l G N μ45 hq _) (cwV 0 hts (gdV tw_308 tw_309 tw_310 tw_35 tw_311) rfl rfl rfl (by decide +kernel) ⟨Nat.le_of_ble_eq_true rfl, Nat.le_of_ble_eq_true rfl⟩) (m_preV (k := 1) (by decide) rfl hK hSt hw) rfl rfl hl.1 rfl (lv_room (Nat.le_of_ble_eq_true rfl)) d_CS_begin_53 ⟨Nat.zero_le _, Nat.zero_le _⟩) hw (fun H locs hw => ?_)
      obtain ⟨μ56, hm, h⟩ := bd h
      refine va_put (D := G.1) (ci := 4) (v := .int r53) (ty := .int) (C := "RecipePlans$CutSearch") (T := T_CS) (N := 13) hx hb hts (fun _ h9 => List.mem_cons_of_mem _ (inT_CS _ h9)) ty_CS tyok_CS nm_CS hown hK hw.1 hw.2.1 hw.2.2 4 (WL_get (by decide)) rfl 9 (by decide) (hts _ (List.mem_cons_of_mem _ tw_140)) (fun _ h9 => h9) rfl (by decide +kernel) rfl rfl (Nat.le_of_ble_eq_true rfl) d_CS_begin_56 (fun H locs hP hD hS => ?_)
      have hw := wk_pI hm (by decide) (by rfl) hP hD hS
      refine lv_aload_n hx hb d_CS_begin_59 rfl (lv_at hl 0 rfl) ?_
      refine va_get (D := G.1) (ci := 4) (v := .ref (G.2.1 10)) (C := "RecipePlans$CutSearch") (T := T_CS) (N := 13) hx hb hts (fun _ h9 => List.mem_cons_of_mem _ (inT_CS _ h9)) hown hK hw.1 4 (WL_get (by decide)) rfl 3 (by decide) (hts _ (List.mem_cons_of_mem _ tw_134)) (fun _ h9 => h9) rfl d_CS_begin_60 ?_
      refine lv_iconst (v := 0) hx hb d_CS_begin_63 (by decide) ?_
      obtain ⟨a64, hv, h⟩ := bd h
      refine m_aaload hx hb hK hw hv d_CS_begin_64 ?_
      refine lv_iconst (v := 0) hx hb d_CS_begin_65 (by decide) ?_
      refine lv_lconst (v := 1) hx hb d_CS_begin_66 (by decide) ?_
      obtain ⟨μ67, hm, h⟩ := bd h
      refine m_lastore hx hb hK hw hm d_CS_begin_67 (fun H locs hw => ?_)
      exact m_vret hx hb hr hlk hw h d_CS_begin_68
    · have h := ifn c7 h
      refine lv_aload_n hx hb d_CS_begin_10 rfl (lv_at hl 0 rfl) ?_
      refine va_get (D := G.1) (ci := 4) (v := .ref (G.2.1 13)) (C := "RecipePlans$CutSearch") (T := T_CS) (N := 13) hx hb hts (fun _ h9 => List.mem_cons_of_mem _ (inT_CS _ h9)) hown hK hw.1 4 (WL_get (by decide)) rfl 6 (by decide) (hts _ (List.mem_cons_of_mem _ tw_137)) (fun _ h9 => h9) rfl d_CS_begin_11 ?_
      refine lv_aload_n hx hb d_CS_begin_14 rfl (lv_at hl 0 rfl) ?_
      refine va_get (D := G.1) (ci := 4) (v := .ref (G.2.1 24)) (C := "RecipePlans$CutSearch") (T := T_CS) (N := 13) hx hb hts (fun _ h9 => List.mem_cons_of_mem _ (inT_CS _ h9)) hown hK hw.1 4 (WL_get (by decide)) rfl 7 (by decide) (hts _ (List.mem_cons_of_mem _ tw_138)) (fun _ h9 => h9) rfl d_CS_begin_15 ?_
      refine lv_iload_n hx hb d_CS_begin_18 rfl (lv_at hl 1 rfl) ?_
      obtain ⟨v19, hv, h⟩ := bd h
      refine m_iaload hx hb hK hw hv d_CS_begin_19 ?_
      refine lv_iconst (v := 0) hx hb d_CS_begin_20 (by decide) ?_
      obtain ⟨μ21, hm, h⟩ := bd h
      refine m_bastore hx hb hK hw hm d_CS_begin_21 (fun H locs hw => ?_)
      refine lv_iinc (v := x1 + 1) (lv' := [(1, .int (x1 + 1)), (0, .ref (G.2.1 4))]) hx hb d_CS_begin_22 hl (k := 1) rfl rfl (by decide) rfl (fun ls hl => ?_)
      refine lv_goto (tgt := 2) hx hb d_CS_begin_25 (by decide) ?_
      exact ih (x1 + 1) μ21 _ _ _ hw (lv_sub hl [1, 0] rfl) h
set_option maxRecDepth 100000 in
set_option maxHeartbeats 4000000 in
theorem c_CS_begin (l : Launch) (G : Gw) (N : Nat) (μ : Mem) {μ' : Mem} (h : M_CS_begin N μ = some μ') : CT l y_CS_begin ws_CS_begin rm_CS_begin [.ref (G.2.1 4)] G μ none μ' := by
  refine m_met (cc := prog_2_method_3_code) (maxL := 2) (ret := none) (by decide) rfl (Nat.le_of_ble_eq_true rfl) ?_
  intro p e s m args below meth c ls C hw hl
  obtain ⟨hx, hb, hr, hml, hown, hts, hlk, hK, hSt⟩ := id C
  have hl : lv_has ls 2 [(0, .ref (G.2.1 4))] := hl
  unfold M_CS_begin at h
  refine lv_iconst (v := 0) hx hb d_CS_begin_0 (by decide) ?_
  refine lv_istore_n (lv' := [(1, .int (0 : Int32)), (0, .ref (G.2.1 4))]) hx hb d_CS_begin_1 rfl hl (by decide) rfl (fun ls hl => ?_)
  exact w_CS_begin_2 C N (0 : Int32) μ _ _ _ hw (lv_sub hl [1, 0] rfl) h
set_option maxRecDepth 100000 in
set_option maxHeartbeats 4000000 in
theorem w_CS_replaced_109 {r : Int64} {μ' : Mem} {N : Nat} (C : CxA G p s m args meth c prog_2_method_10_code 14 (some .long) "RecipePlans$CutSearch" ws_CS_replaced) {K13 : Nat → Int32 → Int32 → Int64 → Int32 → Int32 → Mem → Option (Int64 × Mem)} (hK13 : ∀ (k1 : Nat) (x2 : Int32) (x4 : Int32) (x5 : Int64) (x7 : Int32) (x8 : Int32) (μ : Mem) (H : Heap) (locs : List Loc) (ls : Array Slot), Wk G s μ H locs → lv_has ls 14 [(0, .ref (G.2.1 4)), (1, .ref (G.2.1 k1)), (2, .int x2), (4, .int x4), (5, .long x5), (7, .int x7), (8, .int x8)] → K13 k1 x2 x4 x5 x7 x8 μ = some (r, μ') → WA G rm_CS_replaced p l e s m args below meth c (some (.long r)) μ' H locs 13 ls []) : ∀ (k1 : Nat) (x2 : Int32) (x4 : Int32) (x7 : Int32) (x8 : Int32) (y0 : Int64) (y1 : Int64) (μ : Mem) (H : Heap) (locs : List Loc) (ls : Array Slot), Wk G s μ H locs → lv_has ls 14 [(0, .ref (G.2.1 4)), (1, .ref (G.2.1 k1)), (2, .int x2), (4, .int x4), (7, .int x7), (8, .int x8)] → M_CS_replaced_109 N K13 k1 x2 x4 x7 x8 y0 y1 μ = some (r, μ') → WA G rm_CS_replaced p l e s m args below meth c (some (.long r)) μ' H locs 109 ls [.long y1, .long y0] := by
  obtain ⟨hx, hb, hr, hml, hown, hts, hlk, hK, hSt⟩ := id C
  intro k1 x2 x4 x7 x8 y0 y1 μ H locs ls hw hl h
  unfold M_CS_replaced_109 at h
  refine lv_ladd hx hb d_CS_replaced_109 ?_
  obtain ⟨x5_110, ex5_110, h⟩ := nmx h
  refine m_eql ex5_110 ?_
  refine lv_lstore (lv' := [(5, .long x5_110), (0, .ref (G.2.1 4)), (1, .ref (G.2.1 k1)), (2, .int x2), (4, .int x4), (7, .int x7), (8, .int x8)]) hx hb d_CS_replaced_110 hl (by decide) rfl (fun ls hl => ?_)
  refine lv_iinc (v := x8 + 1) (lv' := [(8, .int (x8 + 1)), (5, .long x5_110), (0, .ref (G.2.1 4)), (1, .ref (G.2.1 k1)), (2, .int x2), (4, .int x4), (7, .int x7)]) hx hb d_CS_replaced_112 hl (k := 6) rfl rfl (by decide) rfl (fun ls hl => ?_)
  refine lv_goto (tgt := 13) hx hb d_CS_replaced_115 (by decide) ?_
  exact hK13 k1 x2 x4 x5_110 x7 (x8 + 1) μ _ _ _ hw (lv_sub hl [2, 3, 4, 5, 1, 6, 0] rfl) h
set_option maxRecDepth 100000 in
set_option maxHeartbeats 4000000 in
theorem w_CS_replaced_59 {r : Int64} {μ' : Mem} {N : Nat} (C : CxA G p s m args meth c prog_2_method_10_code 14 (some .long) "RecipePlans$CutSearch" ws_CS_replaced) {K13 : Nat → Int32 → Int32 → Int64 → Int32 → Int32 → Mem → Option (Int64 × Mem)} (hK13 : ∀ (k1 : Nat) (x2 : Int32) (x4 : Int32) (x5 : Int64) (x7 : Int32) (x8 : Int32) (μ : Mem) (H : Heap) (locs : List Loc) (ls : Array Slot), Wk G s μ H locs → lv_has ls 14 [(0, .ref (G.2.1 4)), (1, .ref (G.2.1 k1)), (2, .int x2), (4, .int x4), (5, .long x5), (7, .int x7), (8, .int x8)] → K13 k1 x2 x4 x5 x7 x8 μ = some (r, μ') → WA G rm_CS_replaced p l e s m args below meth c (some (.long r)) μ' H locs 13 ls []) : ∀ (k1 : Nat) (x2 : Int32) (x4 : Int32) (x5 : Int64) (x7 : Int32) (x8 : Int32) (y0 : Int64) (μ : Mem) (H : Heap) (locs : List Loc) (ls : Array Slot), Wk G s μ H locs → lv_has ls 14 [(0, .ref (G.2.1 4)), (1, .ref (G.2.1 k1)), (2, .int x2), (4, .int x4), (5, .long x5), (7, .int x7), (8, .int x8)] → M_CS_replaced_59 N K13 k1 x2 x4 x5 x7 x8 y0 μ = some (r, μ') → WA G rm_CS_replaced p l e s m args below meth c (some (.long r)) μ' H locs 59 ls [.long y0] := by
  obtain ⟨hx, hb, hr, hml, hown, hts, hlk, hK, hSt⟩ := id C
  intro k1 x2 x4 x5 x7 x8 y0 μ H locs ls hw hl h
  unfold M_CS_replaced_59 at h
  refine lv_lstore (lv' := [(9, .long y0), (0, .ref (G.2.1 4)), (1, .ref (G.2.1 k1)), (2, .int x2), (4, .int x4), (5, .long x5), (7, .int x7), (8, .int x8)]) hx hb d_CS_replaced_59 hl (by decide) rfl (fun ls hl => ?_)
  refine lv_iload_n hx hb d_CS_replaced_61 rfl (lv_at hl 3 rfl) ?_
  refine lv_iload hx hb d_CS_replaced_62 (lv_at hl 6 rfl) ?_
  refine lv_iconst (v := 1) hx hb d_CS_replaced_64 (by decide) ?_
  refine lv_iload hx hb d_CS_replaced_65 (lv_at hl 7 rfl) ?_
  refine lv_ishl hx hb d_CS_replaced_67 ?_
  refine lv_iconst (v := 1) hx hb d_CS_replaced_68 (by decide) ?_
  refine lv_isub hx hb d_CS_replaced_69 ?_
  refine lv_ixor hx hb d_CS_replaced_70 ?_
  refine lv_iand hx hb d_CS_replaced_71 ?_
  obtain ⟨x11_72, ex11_72, h⟩ := nmx h
  refine m_eqi ex11_72 ?_
  refine lv_istore (lv' := [(11, .int x11_72), (9, .long y0), (0, .ref (G.2.1 4)), (1, .ref (G.2.1 k1)), (2, .int x2), (4, .int x4), (5, .long x5), (7, .int x7), (8, .int x8)]) hx hb d_CS_replaced_72 hl (by decide) rfl (fun ls hl => ?_)
  refine lv_lload hx hb d_CS_replaced_74 (lv_at hl 1 rfl) ?_
  refine lv_aload_n hx hb d_CS_replaced_76 rfl (lv_at hl 3 rfl) ?_
  refine lv_iload_n hx hb d_CS_replaced_77 rfl (lv_at hl 4 rfl) ?_
  refine lv_iconst (v := 1) hx hb d_CS_replaced_78 (by decide) ?_
  refine lv_iload hx hb d_CS_replaced_79 (lv_at hl 8 rfl) ?_
  refine lv_ishl hx hb d_CS_replaced_81 ?_
  refine lv_ior hx hb d_CS_replaced_82 ?_
  obtain ⟨v83, hv, h⟩ := bd h
  refine m_laload hx hb hK hw hv d_CS_replaced_83 ?_
  refine lv_lmul hx hb d_CS_replaced_84 ?_
  obtain ⟨x12_85, ex12_85, h⟩ := nmx h
  refine m_eql ex12_85 ?_
  refine lv_lstore (lv' := [(12, .long x12_85), (11, .int x11_72), (9, .long y0), (0, .ref (G.2.1 4)), (1, .ref (G.2.1 k1)), (2, .int x2), (4, .int x4), (5, .long x5), (7, .int x7), (8, .int x8)]) hx hb d_CS_replaced_85 hl (by decide) rfl (fun ls hl => ?_)
  refine lv_lload hx hb d_CS_replaced_87 (lv_at hl 7 rfl) ?_
  refine lv_iload hx hb d_CS_replaced_89 (lv_at hl 1 rfl) ?_
  obtain ⟨r91, hq, h⟩ := bd h
  refine m_pcall (r := .int r91) (W.runS (As := [.int x11_72]) (rest := [.long x5]) ⟨hx, hb, hml, hown, hts⟩ (c_In_bitCount l N x11_72 hq) (va_cwS 1 hts (gdS tw_325 tw_326 tw_42 tw_327) rfl rfl rfl (by decide +kernel) ⟨Nat.le_of_ble_eq_true rfl, Nat.le_of_ble_eq_true rfl⟩) preEq rfl rfl hl.1 rfl (lv_room (Nat.le_of_ble_eq_true rfl)) d_CS_replaced_91 ⟨Nat.zero_le _, Nat.zero_le _⟩) ?_
  refine lv_iconst (v := 0) hx hb d_CS_replaced_94 (by decide) ?_
  obtain ⟨r95, hq, h⟩ := bd h
  refine m_pcall (r := .int r95) ((va_runSN (As := [.int r91, .int (0 : Int32)]) (rest := [.long x5]) ⟨hx, hb, hml, hown, hts⟩ (c_RP_hasBit l N r91 (0 : Int32) hq) ⟨va_cnB 2 hts (gd0 tw_288) rfl rfl rfl (hSt.2 (.methodLinkNest "RecipePlans$CutSearch" 124 ⟨"RecipePlans", "hasBit", "(II)Z"⟩ "RecipePlans") (by decide +kernel)) (hts _ (List.mem_cons_of_mem _ tw_34)) (by decide +kernel) ⟨Nat.le_of_ble_eq_true rfl, Nat.le_of_ble_eq_true rfl⟩, (hts _ (List.mem_cons_of_mem _ tw_287)), trivial⟩ preEq rfl rfl hl.1 rfl (lv_room (Nat.le_of_ble_eq_true rfl)) d_CS_replaced_95 ⟨Nat.zero_le _, Nat.zero_le _⟩).run) ?_
  refine lv_if_eq (tgt := 107) hx hb d_CS_replaced_98 (by decide) (fun c98 => ?_) (fun c98 => ?_)
  · have h := ifp c98 h
    refine lv_lload hx hb d_CS_replaced_107 (lv_at hl 0 rfl) ?_
    exact w_CS_replaced_109 C hK13 k1 x2 x4 x7 x8 x5 x12_85 μ _ _ _ hw (lv_sub hl [3, 4, 5, 6, 8, 9] rfl) h
  · have h := ifn c98 h
    refine lv_lload hx hb d_CS_replaced_101 (lv_at hl 0 rfl) ?_
    refine lv_lneg hx hb d_CS_replaced_103 ?_
    refine lv_goto (tgt := 109) hx hb d_CS_replaced_104 (by decide) ?_
    exact w_CS_replaced_109 C hK13 k1 x2 x4 x7 x8 x5 (-x12_85) μ _ _ _ hw (lv_sub hl [3, 4, 5, 6, 8, 9] rfl) h
set_option maxRecDepth 100000 in
set_option maxHeartbeats 4000000 in
theorem w_CS_replaced_38 {r : Int64} {μ' : Mem} {N : Nat} (C : CxA G p s m args meth c prog_2_method_10_code 14 (some .long) "RecipePlans$CutSearch" ws_CS_replaced) {K13 : Nat → Int32 → Int32 → Int64 → Int32 → Int32 → Mem → Option (Int64 × Mem)} (hK13 : ∀ (k1 : Nat) (x2 : Int32) (x4 : Int32) (x5 : Int64) (x7 : Int32) (x8 : Int32) (μ : Mem) (H : Heap) (locs : List Loc) (ls : Array Slot), Wk G s μ H locs → lv_has ls 14 [(0, .ref (G.2.1 4)), (1, .ref (G.2.1 k1)), (2, .int x2), (4, .int x4), (5, .long x5), (7, .int x7), (8, .int x8)] → K13 k1 x2 x4 x5 x7 x8 μ = some (r, μ') → WA G rm_CS_replaced p l e s m args below meth c (some (.long r)) μ' H locs 13 ls []) : ∀ (k1 : Nat) (x2 : Int32) (x4 : Int32) (x5 : Int64) (x7 : Int32) (x8 : Int32) (μ : Mem) (H : Heap) (locs : List Loc) (ls : Array Slot), Wk G s μ H locs → lv_has ls 14 [(0, .ref (G.2.1 4)), (1, .ref (G.2.1 k1)), (2, .int x2), (4, .int x4), (5, .long x5), (7, .int x7), (8, .int x8)] → M_CS_replaced_38 N K13 k1 x2 x4 x5 x7 x8 μ = some (r, μ') → WA G rm_CS_replaced p l e s m args below meth c (some (.long r)) μ' H locs 38 ls [] := by
  obtain ⟨hx, hb, hr, hml, hown, hts, hlk, hK, hSt⟩ := id C
  intro k1 x2 x4 x5 x7 x8 μ H locs ls hw hl h
  unfold M_CS_replaced_38 at h
  refine lv_iload hx hb d_CS_replaced_38 (lv_at hl 6 rfl) ?_
  refine lv_iconst (v := 4) hx hb d_CS_replaced_40 (by decide) ?_
  refine lv_icmp_ne (tgt := 48) hx hb d_CS_replaced_41 (by decide) (fun c41 => ?_) (fun c41 => ?_)
  · have h := ifn c41 h
    refine lv_aload_n hx hb d_CS_replaced_48 rfl (lv_at hl 0 rfl) ?_
    refine va_get (D := G.1) (ci := 4) (v := .ref (G.2.1 1)) (C := "RecipePlans$CutSearch") (T := T_CS) (N := 13) hx hb hts (fun _ h9 => List.mem_cons_of_mem _ (inT_CS _ h9)) hown hK hw.1 4 (WL_get (by decide)) rfl 0 (by decide) (hts _ (List.mem_cons_of_mem _ tw_131)) (fun _ h9 => h9) rfl d_CS_replaced_49 ?_
    refine va_get (D := G.1) (ci := 1) (v := .ref (G.2.1 17)) (C := "RecipePlans$Lots") (T := T_Lo) (N := 4) hx hb hts (fun _ h9 => List.mem_cons_of_mem _ (inT_Lo _ h9)) hown hK hw.1 1 (WL_get (by decide)) rfl 1 (by decide) (hts _ (List.mem_cons_of_mem _ tw_63)) (fun _ h9 => h9) rfl d_CS_replaced_52 ?_
    refine lv_iload hx hb d_CS_replaced_55 (lv_at hl 6 rfl) ?_
    obtain ⟨v57, hv, h⟩ := bd h
    refine m_iaload hx hb hK hw hv d_CS_replaced_57 ?_
    refine lv_i2l hx hb d_CS_replaced_58 rfl ?_
    exact w_CS_replaced_59 C hK13 k1 x2 x4 x5 x7 x8 v57.toInt64 μ _ _ _ hw hl h
  · have h := ifp c41 h
    refine lv_lconst (v := 1) hx hb d_CS_replaced_44 (by decide) ?_
    refine lv_goto (tgt := 59) hx hb d_CS_replaced_45 (by decide) ?_
    exact w_CS_replaced_59 C hK13 k1 x2 x4 x5 x7 x8 (1 : Int64) μ _ _ _ hw hl h
set_option maxRecDepth 100000 in
set_option maxHeartbeats 4000000 in
theorem w_CS_replaced_13 {r : Int64} {μ' : Mem} {N : Nat} (C : CxA G p s m args meth c prog_2_method_10_code 14 (some .long) "RecipePlans$CutSearch" ws_CS_replaced) : ∀ (n : Nat) (k1 : Nat) (x2 : Int32) (x4 : Int32) (x5 : Int64) (x7 : Int32) (x8 : Int32) (μ : Mem) (H : Heap) (locs : List Loc) (ls : Array Slot), Wk G s μ H locs → lv_has ls 14 [(0, .ref (G.2.1 4)), (1, .ref (G.2.1 k1)), (2, .int x2), (4, .int x4), (5, .long x5), (7, .int x7), (8, .int x8)] → M_CS_replaced_13 N n k1 x2 x4 x5 x7 x8 μ = some (r, μ') → WA G rm_CS_replaced p l e s m args below meth c (some (.long r)) μ' H locs 13 ls [] := by
  obtain ⟨hx, hb, hr, hml, hown, hts, hlk, hK, hSt⟩ := id C
  intro n
  induction n with
  | zero =>
    intro k1 x2 x4 x5 x7 x8 μ H locs ls hw hl h
    rw [M_CS_replaced_13] at h
    cases h
  | succ n ih =>
    intro k1 x2 x4 x5 x7 x8 μ H locs ls hw hl h
    rw [M_CS_replaced_13] at h
    refine lv_iload hx hb d_CS_replaced_13 (lv_at hl 6 rfl) ?_
    refine lv_iconst (v := 5) hx hb d_CS_replaced_15 (by decide) ?_
    refine lv_icmp_ge (tgt := 118) hx hb d_CS_replaced_16 (by decide) (fun c16 => ?_) (fun c16 => ?_)
    · have h := ifp c16 h
      refine lv_lload hx hb d_CS_replaced_118 (lv_at hl 4 rfl) ?_
      exact m_lret hx hb hr hlk hw h d_CS_replaced_120
    · have h := ifn c16 h
      refine lv_iload hx hb d_CS_replaced_19 (lv_at hl 6 rfl) ?_
      refine lv_iconst (v := 4) hx hb d_CS_replaced_21 (by decide) ?_
      refine lv_icmp_eq (tgt := 38) hx hb d_CS_replaced_22 (by decide) (fun c22 => ?_) (fun c22 => ?_)
      · have h := ifp c22 h
        exact w_CS_replaced_38 C ih k1 x2 x4 x5 x7 x8 μ _ _ _ hw hl h
      · have h := ifn c22 h
        refine lv_iload hx hb d_CS_replaced_25 (lv_at hl 3 rfl) ?_
        refine lv_iload hx hb d_CS_replaced_27 (lv_at hl 6 rfl) ?_
        obtain ⟨r29, hq, h⟩ := bd h
        refine m_pcall (r := .int r29) ((va_runSN (As := [.int x4, .int x8]) (rest := []) ⟨hx, hb, hml, hown, hts⟩ (c_RP_hasBit l N x4 x8 hq) ⟨va_cnB 2 hts (gd0 tw_288) rfl rfl rfl (hSt.2 (.methodLinkNest "RecipePlans$CutSearch" 124 ⟨"RecipePlans", "hasBit", "(II)Z"⟩ "RecipePlans") (by decide +kernel)) (hts _ (List.mem_cons_of_mem _ tw_34)) (by decide +kernel) ⟨Nat.le_of_ble_eq_true rfl, Nat.le_of_ble_eq_true rfl⟩, (hts _ (List.mem_cons_of_mem _ tw_287)), trivial⟩ preEq rfl rfl hl.1 rfl (lv_room (Nat.le_of_ble_eq_true rfl)) d_CS_replaced_29 ⟨Nat.zero_le _, Nat.zero_le _⟩).run) ?_
        refine lv_if_ne (tgt := 38) hx hb d_CS_replaced_32 (by decide) (fun c32 => ?_) (fun c32 => ?_)
        · have h := ifn c32 h
          exact w_CS_replaced_38 C ih k1 x2 x4 x5 x7 x8 μ _ _ _ hw hl h
        · have h := ifp c32 h
          refine lv_goto (tgt := 112) hx hb d_CS_replaced_35 (by decide) ?_
          refine lv_iinc (v := x8 + 1) (lv' := [(8, .int (x8 + 1)), (0, .ref (G.2.1 4)), (1, .ref (G.2.1 k1)), (2, .int x2), (4, .int x4), (5, .long x5), (7, .int x7)]) hx hb d_CS_replaced_112 hl (k := 6) rfl rfl (by decide) rfl (fun ls hl => ?_)
          refine lv_goto (tgt := 13) hx hb d_CS_replaced_115 (by decide) ?_
          exact ih k1 x2 x4 x5 x7 (x8 + 1) μ _ _ _ hw (lv_sub hl [1, 2, 3, 4, 5, 6, 0] rfl) h
set_option maxRecDepth 100000 in
set_option maxHeartbeats 4000000 in
theorem c_CS_replaced (l : Launch) (G : Gw) (N : Nat) (k1 : Nat) (x2 : Int32) (x3 : Int32) (x4 : Int32) (μ : Mem) {r : Int64} {μ' : Mem} (h : M_CS_replaced N k1 x2 x3 x4 μ = some (r, μ')) : CT l y_CS_replaced ws_CS_replaced rm_CS_replaced [.ref (G.2.1 4), .ref (G.2.1 k1), .int x2, .int x3, .int x4] G μ (some (.long r)) μ' := by
  refine m_met (cc := prog_2_method_10_code) (maxL := 14) (ret := (some .long)) (by decide) rfl (Nat.le_of_ble_eq_true rfl) ?_
  intro p e s m args below meth c ls C hw hl
  obtain ⟨hx, hb, hr, hml, hown, hts, hlk, hK, hSt⟩ := id C
  have hl : lv_has ls 14 [(0, .ref (G.2.1 4)), (1, .ref (G.2.1 k1)), (2, .int x2), (3, .int x3), (4, .int x4)] := hl
  unfold M_CS_replaced at h
  refine lv_lconst (v := 0) hx hb d_CS_replaced_0 (by decide) ?_
  refine lv_lstore (lv' := [(5, .long (0 : Int64)), (0, .ref (G.2.1 4)), (1, .ref (G.2.1 k1)), (2, .int x2), (3, .int x3), (4, .int x4)]) hx hb d_CS_replaced_1 hl (by decide) rfl (fun ls hl => ?_)
  refine lv_iconst (v := 1) hx hb d_CS_replaced_3 (by decide) ?_
  refine lv_iload_n hx hb d_CS_replaced_4 rfl (lv_at hl 4 rfl) ?_
  refine lv_ishl hx hb d_CS_replaced_5 ?_
  refine lv_iconst (v := 1) hx hb d_CS_replaced_6 (by decide) ?_
  refine lv_isub hx hb d_CS_replaced_7 ?_
  obtain ⟨x7_8, ex7_8, h⟩ := nmx h
  refine m_eqi ex7_8 ?_
  refine lv_istore (lv' := [(7, .int x7_8), (5, .long (0 : Int64)), (0, .ref (G.2.1 4)), (1, .ref (G.2.1 k1)), (2, .int x2), (3, .int x3), (4, .int x4)]) hx hb d_CS_replaced_8 hl (by decide) rfl (fun ls hl => ?_)
  refine lv_iconst (v := 0) hx hb d_CS_replaced_10 (by decide) ?_
  refine lv_istore (lv' := [(8, .int (0 : Int32)), (7, .int x7_8), (5, .long (0 : Int64)), (0, .ref (G.2.1 4)), (1, .ref (G.2.1 k1)), (2, .int x2), (3, .int x3), (4, .int x4)]) hx hb d_CS_replaced_11 hl (by decide) rfl (fun ls hl => ?_)
  exact w_CS_replaced_13 C N k1 x2 x4 (0 : Int64) x7_8 (0 : Int32) μ _ _ _ hw (lv_sub hl [3, 4, 5, 7, 2, 1, 0] rfl) h
set_option maxRecDepth 100000 in
set_option maxHeartbeats 4000000 in
theorem w_CS_meets_88 {r : Int32} {μ' : Mem} {N : Nat} (C : CxA G p s m args meth c prog_2_method_9_code 13 (some .boolean) "RecipePlans$CutSearch" ws_CS_meets) {K36 : Nat → Int32 → Int32 → Int64 → Int64 → Int32 → Mem → Option (Int32 × Mem)} (hK36 : ∀ (k1 : Nat) (x2 : Int32) (x3 : Int32) (x4 : Int64) (x6 : Int64) (x8 : Int32) (μ : Mem) (H : Heap) (locs : List Loc) (ls : Array Slot), Wk G s μ H locs → lv_has ls 13 [(0, .ref (G.2.1 4)), (1, .ref (G.2.1 k1)), (2, .int x2), (3, .int x3), (4, .long x4), (6, .long x6), (8, .int x8)] → K36 k1 x2 x3 x4 x6 x8 μ = some (r, μ') → WA G rm_CS_meets p l e s m args below meth c (some (.int r)) μ' H locs 36 ls []) : ∀ (k1 : Nat) (x2 : Int32) (x3 : Int32) (x4 : Int64) (x6 : Int64) (x8 : Int32) (y1 : Int32) (y2 : Int64) (μ : Mem) (H : Heap) (locs : List Loc) (ls : Array Slot), Wk G s μ H locs → lv_has ls 13 [(0, .ref (G.2.1 4)), (1, .ref (G.2.1 k1)), (2, .int x2), (3, .int x3), (4, .long x4), (6, .long x6), (8, .int x8)] → M_CS_meets_88 N K36 k1 x2 x3 x4 x6 x8 y1 y2 μ = some (r, μ') → WA G rm_CS_meets p l e s m args below meth c (some (.int r)) μ' H locs 88 ls [.long y2, .int y1, .ref (G.2.1 43)] := by
  obtain ⟨hx, hb, hr, hml, hown, hts, hlk, hK, hSt⟩ := id C
  intro k1 x2 x3 x4 x6 x8 y1 y2 μ H locs ls hw hl h
  unfold M_CS_meets_88 at h
  obtain ⟨μ88, hm, h⟩ := bd h
  refine m_lastore hx hb hK hw hm d_CS_meets_88 (fun H locs hw => ?_)
  refine lv_goto (tgt := 134) hx hb d_CS_meets_89 (by decide) ?_
  refine lv_iinc (v := x8 + 1) (lv' := [(8, .int (x8 + 1)), (0, .ref (G.2.1 4)), (1, .ref (G.2.1 k1)), (2, .int x2), (3, .int x3), (4, .long x4), (6, .long x6)]) hx hb d_CS_meets_134 hl (k := 6) rfl rfl (by decide) rfl (fun ls hl => ?_)
  refine lv_goto (tgt := 36) hx hb d_CS_meets_137 (by decide) ?_
  exact hK36 k1 x2 x3 x4 x6 (x8 + 1) μ88 _ _ _ hw (lv_sub hl [1, 2, 3, 4, 5, 6, 0] rfl) h
set_option maxRecDepth 100000 in
set_option maxHeartbeats 4000000 in
theorem w_CS_meets_36 {r : Int32} {μ' : Mem} {N : Nat} (C : CxA G p s m args meth c prog_2_method_9_code 13 (some .boolean) "RecipePlans$CutSearch" ws_CS_meets) : ∀ (n : Nat) (k1 : Nat) (x2 : Int32) (x3 : Int32) (x4 : Int64) (x6 : Int64) (x8 : Int32) (μ : Mem) (H : Heap) (locs : List Loc) (ls : Array Slot), Wk G s μ H locs → lv_has ls 13 [(0, .ref (G.2.1 4)), (1, .ref (G.2.1 k1)), (2, .int x2), (3, .int x3), (4, .long x4), (6, .long x6), (8, .int x8)] → M_CS_meets_36 N n k1 x2 x3 x4 x6 x8 μ = some (r, μ') → WA G rm_CS_meets p l e s m args below meth c (some (.int r)) μ' H locs 36 ls [] := by
  obtain ⟨hx, hb, hr, hml, hown, hts, hlk, hK, hSt⟩ := id C
  intro n
  induction n with
  | zero =>
    intro k1 x2 x3 x4 x6 x8 μ H locs ls hw hl h
    rw [M_CS_meets_36] at h
    cases h
  | succ n ih =>
    intro k1 x2 x3 x4 x6 x8 μ H locs ls hw hl h
    rw [M_CS_meets_36] at h
    refine lv_iload hx hb d_CS_meets_36 (lv_at hl 6 rfl) ?_
    refine lv_iconst (v := 4) hx hb d_CS_meets_38 (by decide) ?_
    refine lv_icmp_ge (tgt := 140) hx hb d_CS_meets_39 (by decide) (fun c39 => ?_) (fun c39 => ?_)
    · have h := ifp c39 h
      refine lv_iconst (v := 1) hx hb d_CS_meets_140 (by decide) ?_
      exact m_zret hx hb hr hlk hw h d_CS_meets_141
    · have h := ifn c39 h
      refine lv_aload_n hx hb d_CS_meets_42 rfl (lv_at hl 0 rfl) ?_
      refine va_get (D := G.1) (ci := 4) (v := .ref (G.2.1 1)) (C := "RecipePlans$CutSearch") (T := T_CS) (N := 13) hx hb hts (fun _ h9 => List.mem_cons_of_mem _ (inT_CS _ h9)) hown hK hw.1 4 (WL_get (by decide)) rfl 0 (by decide) (hts _ (List.mem_cons_of_mem _ tw_131)) (fun _ h9 => h9) rfl d_CS_meets_43 ?_
      refine va_get (D := G.1) (ci := 1) (v := .ref (G.2.1 17)) (C := "RecipePlans$Lots") (T := T_Lo) (N := 4) hx hb hts (fun _ h9 => List.mem_cons_of_mem _ (inT_Lo _ h9)) hown hK hw.1 1 (WL_get (by decide)) rfl 1 (by decide) (hts _ (List.mem_cons_of_mem _ tw_63)) (fun _ h9 => h9) rfl d_CS_meets_46 ?_
      refine lv_iload hx hb d_CS_meets_49 (lv_at hl 6 rfl) ?_
      obtain ⟨v51, hv, h⟩ := bd h
      refine m_iaload hx hb hK hw hv d_CS_meets_51 ?_
      refine lv_i2l hx hb d_CS_meets_52 rfl ?_
      refine lv_lload hx hb d_CS_meets_53 (lv_at hl 5 rfl) ?_
      refine lv_lmul hx hb d_CS_meets_55 ?_
      obtain ⟨x9_56, ex9_56, h⟩ := nmx h
      refine m_eql ex9_56 ?_
      refine lv_lstore (lv' := [(9, .long x9_56), (0, .ref (G.2.1 4)), (1, .ref (G.2.1 k1)), (2, .int x2), (3, .int x3), (4, .long x4), (6, .long x6), (8, .int x8)]) hx hb d_CS_meets_56 hl (by decide) rfl (fun ls hl => ?_)
      refine lv_iload_n hx hb d_CS_meets_58 rfl (lv_at hl 3 rfl) ?_
      refine lv_iload hx hb d_CS_meets_59 (lv_at hl 7 rfl) ?_
      obtain ⟨r61, hq, h⟩ := bd h
      refine m_pcall (r := .int r61) ((va_runSN (As := [.int x2, .int x8]) (rest := []) ⟨hx, hb, hml, hown, hts⟩ (c_RP_hasBit l N x2 x8 hq) ⟨va_cnB 2 hts (gd0 tw_288) rfl rfl rfl (hSt.2 (.methodLinkNest "RecipePlans$CutSearch" 124 ⟨"RecipePlans", "hasBit", "(II)Z"⟩ "RecipePlans") (by decide +kernel)) (hts _ (List.mem_cons_of_mem _ tw_34)) (by decide +kernel) ⟨Nat.le_of_ble_eq_true rfl, Nat.le_of_ble_eq_true rfl⟩, (hts _ (List.mem_cons_of_mem _ tw_287)), trivial⟩ preEq rfl rfl hl.1 rfl (lv_room (Nat.le_of_ble_eq_true rfl)) d_CS_meets_61 ⟨Nat.zero_le _, Nat.zero_le _⟩).run) ?_
      refine lv_if_ne (tgt := 92) hx hb d_CS_meets_64 (by decide) (fun c64 => ?_) (fun c64 => ?_)
      · have h := ifn c64 h
        refine lv_lload hx hb d_CS_meets_92 (lv_at hl 5 rfl) ?_
        refine lv_lneg hx hb d_CS_meets_94 ?_
        refine lv_aload_n hx hb d_CS_meets_95 rfl (lv_at hl 1 rfl) ?_
        refine lv_aload_n hx hb d_CS_meets_96 rfl (lv_at hl 2 rfl) ?_
        refine lv_iload_n hx hb d_CS_meets_97 rfl (lv_at hl 3 rfl) ?_
        refine lv_iconst (v := 1) hx hb d_CS_meets_98 (by decide) ?_
        refine lv_iload hx hb d_CS_meets_99 (lv_at hl 7 rfl) ?_
        refine lv_ishl hx hb d_CS_meets_101 ?_
        refine lv_ixor hx hb d_CS_meets_102 ?_
        refine lv_iload hx hb d_CS_meets_103 (lv_at hl 7 rfl) ?_
        refine lv_iload_n hx hb d_CS_meets_105 rfl (lv_at hl 4 rfl) ?_
        obtain ⟨r106, μ106, hq, h⟩ := bd2 h
        refine m_call (r := some (.long r106)) (μ1 := μ106) (va_runV (C := "RecipePlans$CutSearch") (As := [.ref (G.2.1 k1), .int (x2 ^^^ ((1 : Int32) <<< (x8 &&& 31))), .int x8, .int x3]) (rest := [.long (-x4)]) ⟨hx, hb, hml, hown, hts⟩ (c_CS_replaced l G N k1 (x2 ^^^ ((1 : Int32) <<< (x8 &&& 31))) x8 x3 μ hq _) (cwV 4 hts (gdV tw_322 tw_323 tw_5 tw_38 tw_324) rfl rfl rfl (by decide +kernel) ⟨Nat.le_of_ble_eq_true rfl, Nat.le_of_ble_eq_true rfl⟩) (m_preV (k := 4) (by decide) rfl hK hSt hw) rfl rfl hl.1 rfl (lv_room (Nat.le_of_ble_eq_true rfl)) d_CS_meets_106 ⟨Nat.zero_le _, Nat.zero_le _⟩) hw (fun H locs hw => ?_)
        refine lv_lmul hx hb d_CS_meets_109 ?_
        obtain ⟨x11_110, ex11_110, h⟩ := nmx h
        refine m_eql ex11_110 ?_
        refine lv_lstore (lv' := [(11, .long x11_110), (9, .long x9_56), (0, .ref (G.2.1 4)), (1, .ref (G.2.1 k1)), (2, .int x2), (3, .int x3), (4, .long x4), (6, .long x6), (8, .int x8)]) hx hb d_CS_meets_110 hl (by decide) rfl (fun ls hl => ?_)
        refine lv_lload hx hb d_CS_meets_112 (lv_at hl 0 rfl) ?_
        refine lv_lconst (v := 0) hx hb d_CS_meets_114 (by decide) ?_
        refine lv_lload hx hb d_CS_meets_115 (lv_at hl 1 rfl) ?_
        obtain ⟨r117, hq, h⟩ := bd h
        refine m_pcall (r := .int r117) ((va_runSN (As := [.long x11_110, .long (0 : Int64), .long x9_56]) (rest := []) ⟨hx, hb, hml, hown, hts⟩ (c_RP_within l N x11_110 (0 : Int64) x9_56 hq) ⟨va_cnB 3 hts (gd0 tw_244) rfl rfl rfl (hSt.2 (.methodLinkNest "RecipePlans$CutSearch" 143 ⟨"RecipePlans", "within", "(JJJ)Z"⟩ "RecipePlans") (by decide +kernel)) (hts _ (List.mem_cons_of_mem _ tw_34)) (by decide +kernel) ⟨Nat.le_of_ble_eq_true rfl, Nat.le_of_ble_eq_true rfl⟩, (hts _ (List.mem_cons_of_mem _ tw_243)), trivial⟩ preEq rfl rfl hl.1 rfl (lv_room (Nat.le_of_ble_eq_true rfl)) d_CS_meets_117 ⟨Nat.zero_le _, Nat.zero_le _⟩).run) ?_
        refine lv_if_ne (tgt := 125) hx hb d_CS_meets_120 (by decide) (fun c120 => ?_) (fun c120 => ?_)
        · have h := ifn c120 h
          refine lv_aload_n hx hb d_CS_meets_125 rfl (lv_at hl 2 rfl) ?_
          refine va_get (D := G.1) (ci := 4) (v := .ref (G.2.1 43)) (C := "RecipePlans$CutSearch") (T := T_CS) (N := 13) hx hb hts (fun _ h9 => List.mem_cons_of_mem _ (inT_CS _ h9)) hown hK hw.1 4 (WL_get (by decide)) rfl 4 (by decide) (hts _ (List.mem_cons_of_mem _ tw_135)) (fun _ h9 => h9) rfl d_CS_meets_126 ?_
          refine lv_iload hx hb d_CS_meets_129 (lv_at hl 8 rfl) ?_
          refine lv_lload hx hb d_CS_meets_131 (lv_at hl 0 rfl) ?_
          obtain ⟨μ133, hm, h⟩ := bd h
          refine m_lastore hx hb hK hw hm d_CS_meets_133 (fun H locs hw => ?_)
          refine lv_iinc (v := x8 + 1) (lv' := [(8, .int (x8 + 1)), (11, .long x11_110), (9, .long x9_56), (0, .ref (G.2.1 4)), (1, .ref (G.2.1 k1)), (2, .int x2), (3, .int x3), (4, .long x4), (6, .long x6)]) hx hb d_CS_meets_134 hl (k := 8) rfl rfl (by decide) rfl (fun ls hl => ?_)
          refine lv_goto (tgt := 36) hx hb d_CS_meets_137 (by decide) ?_
          exact ih k1 x2 x3 x4 x6 (x8 + 1) μ133 _ _ _ hw (lv_sub hl [3, 4, 5, 6, 7, 8, 0] rfl) h
        · have h := ifp c120 h
          refine lv_iconst (v := 0) hx hb d_CS_meets_123 (by decide) ?_
          exact m_zret hx hb hr hlk hw h d_CS_meets_124
      · have h := ifp c64 h
        refine lv_aload_n hx hb d_CS_meets_67 rfl (lv_at hl 1 rfl) ?_
        refine va_get (D := G.1) (ci := 4) (v := .ref (G.2.1 43)) (C := "RecipePlans$CutSearch") (T := T_CS) (N := 13) hx hb hts (fun _ h9 => List.mem_cons_of_mem _ (inT_CS _ h9)) hown hK hw.1 4 (WL_get (by decide)) rfl 4 (by decide) (hts _ (List.mem_cons_of_mem _ tw_135)) (fun _ h9 => h9) rfl d_CS_meets_68 ?_
        refine lv_iload hx hb d_CS_meets_71 (lv_at hl 7 rfl) ?_
        refine lv_iload_n hx hb d_CS_meets_73 rfl (lv_at hl 4 rfl) ?_
        refine lv_iload hx hb d_CS_meets_74 (lv_at hl 7 rfl) ?_
        obtain ⟨r76, hq, h⟩ := bd h
        refine m_pcall (r := .int r76) ((va_runSN (As := [.int x3, .int x8]) (rest := [.int x8, .ref (G.2.1 43)]) ⟨hx, hb, hml, hown, hts⟩ (c_RP_hasBit l N x3 x8 hq) ⟨va_cnB 2 hts (gd0 tw_288) rfl rfl rfl (hSt.2 (.methodLinkNest "RecipePlans$CutSearch" 124 ⟨"RecipePlans", "hasBit", "(II)Z"⟩ "RecipePlans") (by decide +kernel)) (hts _ (List.mem_cons_of_mem _ tw_34)) (by decide +kernel) ⟨Nat.le_of_ble_eq_true rfl, Nat.le_of_ble_eq_true rfl⟩, (hts _ (List.mem_cons_of_mem _ tw_287)), trivial⟩ preEq rfl rfl hl.1 rfl (lv_room (Nat.le_of_ble_eq_true rfl)) d_CS_meets_76 ⟨Nat.zero_le _, Nat.zero_le _⟩).run) ?_
        refine lv_if_eq (tgt := 87) hx hb d_CS_meets_79 (by decide) (fun c79 => ?_) (fun c79 => ?_)
        · have h := ifp c79 h
          refine lv_lconst (v := 0) hx hb d_CS_meets_87 (by decide) ?_
          exact w_CS_meets_88 C ih k1 x2 x3 x4 x6 x8 x8 (0 : Int64) μ _ _ _ hw (lv_sub hl [1, 2, 3, 4, 5, 6, 7] rfl) h
        · have h := ifn c79 h
          refine lv_lload hx hb d_CS_meets_82 (lv_at hl 0 rfl) ?_
          refine lv_goto (tgt := 88) hx hb d_CS_meets_84 (by decide) ?_
          exact w_CS_meets_88 C ih k1 x2 x3 x4 x6 x8 x8 x9_56 μ _ _ _ hw (lv_sub hl [1, 2, 3, 4, 5, 6, 7] rfl) h
set_option maxRecDepth 100000 in
set_option maxHeartbeats 4000000 in
theorem w_CS_meets_15 {r : Int32} {μ' : Mem} {N : Nat} (C : CxA G p s m args meth c prog_2_method_9_code 13 (some .boolean) "RecipePlans$CutSearch" ws_CS_meets) : ∀ (k1 : Nat) (x2 : Int32) (x3 : Int32) (y0 : Int64) (μ : Mem) (H : Heap) (locs : List Loc) (ls : Array Slot), Wk G s μ H locs → lv_has ls 13 [(0, .ref (G.2.1 4)), (1, .ref (G.2.1 k1)), (2, .int x2), (3, .int x3)] → M_CS_meets_15 N k1 x2 x3 y0 μ = some (r, μ') → WA G rm_CS_meets p l e s m args below meth c (some (.int r)) μ' H locs 15 ls [.long y0] := by
  obtain ⟨hx, hb, hr, hml, hown, hts, hlk, hK, hSt⟩ := id C
  intro k1 x2 x3 y0 μ H locs ls hw hl h
  unfold M_CS_meets_15 at h
  refine lv_lstore (lv' := [(4, .long y0), (0, .ref (G.2.1 4)), (1, .ref (G.2.1 k1)), (2, .int x2), (3, .int x3)]) hx hb d_CS_meets_15 hl (by decide) rfl (fun ls hl => ?_)
  refine lv_lload hx hb d_CS_meets_17 (lv_at hl 0 rfl) ?_
  refine lv_aload_n hx hb d_CS_meets_19 rfl (lv_at hl 2 rfl) ?_
  refine lv_iload_n hx hb d_CS_meets_20 rfl (lv_at hl 3 rfl) ?_
  obtain ⟨v21, hv, h⟩ := bd h
  refine m_laload hx hb hK hw hv d_CS_meets_21 ?_
  refine lv_lmul hx hb d_CS_meets_22 ?_
  obtain ⟨x6_23, ex6_23, h⟩ := nmx h
  refine m_eql ex6_23 ?_
  refine lv_lstore (lv' := [(6, .long x6_23), (4, .long y0), (0, .ref (G.2.1 4)), (1, .ref (G.2.1 k1)), (2, .int x2), (3, .int x3)]) hx hb d_CS_meets_23 hl (by decide) rfl (fun ls hl => ?_)
  refine lv_aload_n hx hb d_CS_meets_25 rfl (lv_at hl 2 rfl) ?_
  refine va_get (D := G.1) (ci := 4) (v := .ref (G.2.1 43)) (C := "RecipePlans$CutSearch") (T := T_CS) (N := 13) hx hb hts (fun _ h9 => List.mem_cons_of_mem _ (inT_CS _ h9)) hown hK hw.1 4 (WL_get (by decide)) rfl 4 (by decide) (hts _ (List.mem_cons_of_mem _ tw_135)) (fun _ h9 => h9) rfl d_CS_meets_26 ?_
  refine lv_iconst (v := 4) hx hb d_CS_meets_29 (by decide) ?_
  refine lv_lload hx hb d_CS_meets_30 (lv_at hl 0 rfl) ?_
  obtain ⟨μ32, hm, h⟩ := bd h
  refine m_lastore hx hb hK hw hm d_CS_meets_32 (fun H locs hw => ?_)
  refine lv_iconst (v := 0) hx hb d_CS_meets_33 (by decide) ?_
  refine lv_istore (lv' := [(8, .int (0 : Int32)), (6, .long x6_23), (4, .long y0), (0, .ref (G.2.1 4)), (1, .ref (G.2.1 k1)), (2, .int x2), (3, .int x3)]) hx hb d_CS_meets_34 hl (by decide) rfl (fun ls hl => ?_)
  exact w_CS_meets_36 C N k1 x2 x3 y0 x6_23 (0 : Int32) μ32 _ _ _ hw (lv_sub hl [3, 4, 5, 6, 2, 1, 0] rfl) h
set_option maxRecDepth 100000 in
set_option maxHeartbeats 4000000 in
theorem c_CS_meets (l : Launch) (G : Gw) (N : Nat) (k1 : Nat) (x2 : Int32) (x3 : Int32) (μ : Mem) {r : Int32} {μ' : Mem} (h : M_CS_meets N k1 x2 x3 μ = some (r, μ')) : CT l y_CS_meets ws_CS_meets rm_CS_meets [.ref (G.2.1 4), .ref (G.2.1 k1), .int x2, .int x3] G μ (some (.int r)) μ' := by
  refine m_met (cc := prog_2_method_9_code) (maxL := 13) (ret := (some .boolean)) (by decide) rfl (Nat.le_of_ble_eq_true rfl) ?_
  intro p e s m args below meth c ls C hw hl
  obtain ⟨hx, hb, hr, hml, hown, hts, hlk, hK, hSt⟩ := id C
  have hl : lv_has ls 13 [(0, .ref (G.2.1 4)), (1, .ref (G.2.1 k1)), (2, .int x2), (3, .int x3)] := hl
  unfold M_CS_meets at h
  refine lv_aload_n hx hb d_CS_meets_0 rfl (lv_at hl 1 rfl) ?_
  refine lv_iload_n hx hb d_CS_meets_1 rfl (lv_at hl 2 rfl) ?_
  obtain ⟨v2, hv, h⟩ := bd h
  refine m_laload hx hb hK hw hv d_CS_meets_2 ?_
  refine lv_lconst (v := 0) hx hb d_CS_meets_3 (by decide) ?_
  refine W.lcmp hx hb d_CS_meets_4 ?_
  refine lv_if_ge (tgt := 14) hx hb d_CS_meets_5 (by decide) (fun c5 => ?_) (fun c5 => ?_)
  · have h := ifp c5 h
    refine lv_lconst (v := 1) hx hb d_CS_meets_14 (by decide) ?_
    exact w_CS_meets_15 C k1 x2 x3 (1 : Int64) μ _ _ _ hw hl h
  · have h := ifn c5 h
    refine lv_ldc2 (v := -1) hx hb hown (hts _ (List.mem_cons_of_mem _ tw_321)) d_CS_meets_8 ?_
    refine lv_goto (tgt := 15) hx hb d_CS_meets_11 (by decide) ?_
    exact w_CS_meets_15 C k1 x2 x3 (-1 : Int64) μ _ _ _ hw hl h
set_option maxRecDepth 100000 in
set_option maxHeartbeats 4000000 in
theorem w_CS_isLess_96 {r : Int32} {N : Nat} (C : CxP p s m args meth c prog_2_method_12_code 17 (some .boolean) "RecipePlans$CutSearch" ws_CS_isLess) : ∀ (x15 : Int64) (ls : Array Slot), lv_has ls 17 [(15, .long x15)] → M_CS_isLess_96 N x15 = some r → WP rm_CS_isLess p l e s m args below meth c (.int r) 96 ls [] := by
  obtain ⟨hx, hb, hr, hml, hown, hts, hlk⟩ := id C
  intro x15 ls hl h
  unfold M_CS_isLess_96 at h
  refine lv_lload hx hb d_CS_isLess_96 (lv_at hl 0 rfl) ?_
  refine lv_lconst (v := 0) hx hb d_CS_isLess_98 (by decide) ?_
  refine W.lcmp hx hb d_CS_isLess_99 ?_
  refine lv_if_eq (tgt := 107) hx hb d_CS_isLess_100 (by decide) (fun c100 => ?_) (fun c100 => ?_)
  · have h := ifp c100 h
    refine lv_iconst (v := 0) hx hb d_CS_isLess_107 (by decide) ?_
    exact m_pzret hx hb hr hlk h d_CS_isLess_108
  · have h := ifn c100 h
    refine lv_iconst (v := 1) hx hb d_CS_isLess_103 (by decide) ?_
    refine lv_goto (tgt := 108) hx hb d_CS_isLess_104 (by decide) ?_
    exact m_pzret hx hb hr hlk h d_CS_isLess_108
set_option maxRecDepth 100000 in
set_option maxHeartbeats 4000000 in
theorem w_CS_isLess_3 {r : Int32} {N : Nat} (C : CxP p s m args meth c prog_2_method_12_code 17 (some .boolean) "RecipePlans$CutSearch" ws_CS_isLess) : ∀ (n : Nat) (x0 : Int64) (x2 : Int64) (x4 : Int64) (x6 : Int64) (x8 : Int32) (ls : Array Slot), lv_has ls 17 [(0, .long x0), (2, .long x2), (4, .long x4), (6, .long x6), (8, .int x8)] → M_CS_isLess_3 N n x0 x2 x4 x6 x8 = some r → WP rm_CS_isLess p l e s m args below meth c (.int r) 3 ls [] := by
  obtain ⟨hx, hb, hr, hml, hown, hts, hlk⟩ := id C
  intro n
  induction n with
  | zero =>
    intro x0 x2 x4 x6 x8 ls hl h
    rw [M_CS_isLess_3] at h
    cases h
  | succ n ih =>
    intro x0 x2 x4 x6 x8 ls hl h
    rw [M_CS_isLess_3] at h
    refine lv_iload hx hb d_CS_isLess_3 (lv_at hl 4 rfl) ?_
    refine lv_sipush (v := 200) hx hb d_CS_isLess_5 (by decide) ?_
    refine lv_icmp_ge (tgt := 128) hx hb d_CS_isLess_8 (by decide) (fun c8 => ?_) (fun c8 => ?_)
    · have h := ifp c8 h
      refine lv_iconst (v := 0) hx hb d_CS_isLess_128 (by decide) ?_
      exact m_pzret hx hb hr hlk h d_CS_isLess_129
    · have h := ifn c8 h
      refine lv_lload_n hx hb d_CS_isLess_11 rfl (lv_at hl 1 rfl) ?_
      refine lv_lconst (v := 0) hx hb d_CS_isLess_12 (by decide) ?_
      refine W.lcmp hx hb d_CS_isLess_13 ?_
      refine lv_if_le (tgt := 24) hx hb d_CS_isLess_14 (by decide) (fun c14 => ?_) (fun c14 => ?_)
      · have h := ifp c14 h
        refine lv_iconst (v := 0) hx hb d_CS_isLess_24 (by decide) ?_
        exact m_pzret hx hb hr hlk h d_CS_isLess_25
      · have h := ifn c14 h
        refine lv_lload hx hb d_CS_isLess_17 (lv_at hl 3 rfl) ?_
        refine lv_lconst (v := 0) hx hb d_CS_isLess_19 (by decide) ?_
        refine W.lcmp hx hb d_CS_isLess_20 ?_
        refine lv_if_gt (tgt := 26) hx hb d_CS_isLess_21 (by decide) (fun c21 => ?_) (fun c21 => ?_)
        · have h := ifp c21 h
          refine lv_lload_n hx hb d_CS_isLess_26 rfl (lv_at hl 0 rfl) ?_
          refine lv_lload_n hx hb d_CS_isLess_27 rfl (lv_at hl 1 rfl) ?_
          obtain ⟨r28, hq, h⟩ := bd h
          refine m_pcall (r := .long r28) (W.runS (As := [.long x0, .long x2]) (rest := []) ⟨hx, hb, hml, hown, hts⟩ (c_Ma_floorDiv l N x0 x2 hq) (va_cwS 2 hts (gdS tw_341 tw_342 tw_43 tw_343) rfl rfl rfl (by decide +kernel) ⟨Nat.le_of_ble_eq_true rfl, Nat.le_of_ble_eq_true rfl⟩) preEq rfl rfl hl.1 rfl (lv_room (Nat.le_of_ble_eq_true rfl)) d_CS_isLess_28 ⟨Nat.zero_le _, Nat.zero_le _⟩) ?_
          refine lv_lstore (lv' := [(9, .long r28), (0, .long x0), (2, .long x2), (4, .long x4), (6, .long x6), (8, .int x8)]) hx hb d_CS_isLess_31 hl (by decide) rfl (fun ls hl => ?_)
          refine lv_lload hx hb d_CS_isLess_33 (lv_at hl 3 rfl) ?_
          refine lv_lload hx hb d_CS_isLess_35 (lv_at hl 4 rfl) ?_
          obtain ⟨r37, hq, h⟩ := bd h
          refine m_pcall (r := .long r37) (W.runS (As := [.long x4, .long x6]) (rest := []) ⟨hx, hb, hml, hown, hts⟩ (c_Ma_floorDiv l N x4 x6 hq) (va_cwS 2 hts (gdS tw_341 tw_342 tw_43 tw_343) rfl rfl rfl (by decide +kernel) ⟨Nat.le_of_ble_eq_true rfl, Nat.le_of_ble_eq_true rfl⟩) preEq rfl rfl hl.1 rfl (lv_room (Nat.le_of_ble_eq_true rfl)) d_CS_isLess_37 ⟨Nat.zero_le _, Nat.zero_le _⟩) ?_
          refine lv_lstore (lv' := [(11, .long r37), (9, .long r28), (0, .long x0), (2, .long x2), (4, .long x4), (6, .long x6), (8, .int x8)]) hx hb d_CS_isLess_40 hl (by decide) rfl (fun ls hl => ?_)
          refine lv_lload hx hb d_CS_isLess_42 (lv_at hl 1 rfl) ?_
          refine lv_lload hx hb d_CS_isLess_44 (lv_at hl 0 rfl) ?_
          refine W.lcmp hx hb d_CS_isLess_46 ?_
          refine lv_if_eq (tgt := 64) hx hb d_CS_isLess_47 (by decide) (fun c47 => ?_) (fun c47 => ?_)
          · have h := ifp c47 h
            refine lv_lload_n hx hb d_CS_isLess_64 rfl (lv_at hl 2 rfl) ?_
            refine lv_lload hx hb d_CS_isLess_65 (lv_at hl 1 rfl) ?_
            refine lv_lload_n hx hb d_CS_isLess_67 rfl (lv_at hl 3 rfl) ?_
            refine lv_lmul hx hb d_CS_isLess_68 ?_
            refine lv_lsub hx hb d_CS_isLess_69 ?_
            obtain ⟨x13_70, ex13_70, h⟩ := nmx h
            refine m_eql ex13_70 ?_
            refine lv_lstore (lv' := [(13, .long x13_70), (11, .long r37), (9, .long r28), (0, .long x0), (2, .long x2), (4, .long x4), (6, .long x6), (8, .int x8)]) hx hb d_CS_isLess_70 hl (by decide) rfl (fun ls hl => ?_)
            refine lv_lload hx hb d_CS_isLess_72 (lv_at hl 5 rfl) ?_
            refine lv_lload hx hb d_CS_isLess_74 (lv_at hl 1 rfl) ?_
            refine lv_lload hx hb d_CS_isLess_76 (lv_at hl 6 rfl) ?_
            refine lv_lmul hx hb d_CS_isLess_78 ?_
            refine lv_lsub hx hb d_CS_isLess_79 ?_
            obtain ⟨x15_80, ex15_80, h⟩ := nmx h
            refine m_eql ex15_80 ?_
            refine lv_lstore (lv' := [(15, .long x15_80), (13, .long x13_70), (11, .long r37), (9, .long r28), (0, .long x0), (2, .long x2), (4, .long x4), (6, .long x6), (8, .int x8)]) hx hb d_CS_isLess_80 hl (by decide) rfl (fun ls hl => ?_)
            refine lv_lload hx hb d_CS_isLess_82 (lv_at hl 1 rfl) ?_
            refine lv_lconst (v := 0) hx hb d_CS_isLess_84 (by decide) ?_
            refine W.lcmp hx hb d_CS_isLess_85 ?_
            refine lv_if_eq (tgt := 96) hx hb d_CS_isLess_86 (by decide) (fun c86 => ?_) (fun c86 => ?_)
            · have h := ifp c86 h
              exact w_CS_isLess_96 C x15_80 _ (lv_sub hl [0] rfl) h
            · have h := ifn c86 h
              refine lv_lload hx hb d_CS_isLess_89 (lv_at hl 0 rfl) ?_
              refine lv_lconst (v := 0) hx hb d_CS_isLess_91 (by decide) ?_
              refine W.lcmp hx hb d_CS_isLess_92 ?_
              refine lv_if_ne (tgt := 109) hx hb d_CS_isLess_93 (by decide) (fun c93 => ?_) (fun c93 => ?_)
              · have h := ifn c93 h
                refine lv_lload hx hb d_CS_isLess_109 (lv_at hl 7 rfl) ?_
                refine lv_lstore_n (lv' := [(0, .long x6), (15, .long x15_80), (13, .long x13_70), (11, .long r37), (9, .long r28), (2, .long x2), (4, .long x4), (6, .long x6), (8, .int x8)]) hx hb d_CS_isLess_111 rfl hl (by decide) rfl (fun ls hl => ?_)
                refine lv_lload_n hx hb d_CS_isLess_112 rfl (lv_at hl 5 rfl) ?_
                refine lv_lstore (lv' := [(4, .long x2), (0, .long x6), (15, .long x15_80), (13, .long x13_70), (11, .long r37), (9, .long r28), (2, .long x2), (6, .long x6), (8, .int x8)]) hx hb d_CS_isLess_113 hl (by decide) rfl (fun ls hl => ?_)
                refine lv_lload hx hb d_CS_isLess_115 (lv_at hl 2 rfl) ?_
                refine lv_lstore_n (lv' := [(2, .long x15_80), (4, .long x2), (0, .long x6), (15, .long x15_80), (13, .long x13_70), (11, .long r37), (9, .long r28), (6, .long x6), (8, .int x8)]) hx hb d_CS_isLess_117 rfl hl (by decide) rfl (fun ls hl => ?_)
                refine lv_lload hx hb d_CS_isLess_118 (lv_at hl 4 rfl) ?_
                refine lv_lstore (lv' := [(6, .long x13_70), (2, .long x15_80), (4, .long x2), (0, .long x6), (15, .long x15_80), (13, .long x13_70), (11, .long r37), (9, .long r28), (8, .int x8)]) hx hb d_CS_isLess_120 hl (by decide) rfl (fun ls hl => ?_)
                refine lv_iinc (v := x8 + 1) (lv' := [(8, .int (x8 + 1)), (6, .long x13_70), (2, .long x15_80), (4, .long x2), (0, .long x6), (15, .long x15_80), (13, .long x13_70), (11, .long r37), (9, .long r28)]) hx hb d_CS_isLess_122 hl (k := 8) rfl rfl (by decide) rfl (fun ls hl => ?_)
                refine lv_goto (tgt := 3) hx hb d_CS_isLess_125 (by decide) ?_
                exact ih x6 x15_80 x2 x13_70 (x8 + 1) _ (lv_sub hl [4, 2, 3, 1, 0] rfl) h
              · have h := ifp c93 h
                exact w_CS_isLess_96 C x15_80 _ (lv_sub hl [0] rfl) h
          · have h := ifn c47 h
            refine lv_lload hx hb d_CS_isLess_50 (lv_at hl 1 rfl) ?_
            refine lv_lload hx hb d_CS_isLess_52 (lv_at hl 0 rfl) ?_
            refine W.lcmp hx hb d_CS_isLess_54 ?_
            refine lv_if_ge (tgt := 62) hx hb d_CS_isLess_55 (by decide) (fun c55 => ?_) (fun c55 => ?_)
            · have h := ifp c55 h
              refine lv_iconst (v := 0) hx hb d_CS_isLess_62 (by decide) ?_
              exact m_pzret hx hb hr hlk h d_CS_isLess_63
            · have h := ifn c55 h
              refine lv_iconst (v := 1) hx hb d_CS_isLess_58 (by decide) ?_
              refine lv_goto (tgt := 63) hx hb d_CS_isLess_59 (by decide) ?_
              exact m_pzret hx hb hr hlk h d_CS_isLess_63
        · have h := ifn c21 h
          refine lv_iconst (v := 0) hx hb d_CS_isLess_24 (by decide) ?_
          exact m_pzret hx hb hr hlk h d_CS_isLess_25
set_option maxRecDepth 100000 in
set_option maxHeartbeats 4000000 in
theorem c_CS_isLess (l : Launch) (N : Nat) (x0 : Int64) (x2 : Int64) (x4 : Int64) (x6 : Int64) {r : Int32} (h : M_CS_isLess N x0 x2 x4 x6 = some r) : CTp l y_CS_isLess ws_CS_isLess rm_CS_isLess [.long x0, .long x2, .long x4, .long x6] (.int r) := by
  refine m_metP (cc := prog_2_method_12_code) (maxL := 17) (ret := (some .boolean)) (by decide +kernel) rfl (Nat.le_of_ble_eq_true rfl) ?_
  intro p e s m args below meth c ls C hl
  obtain ⟨hx, hb, hr, hml, hown, hts, hlk⟩ := id C
  have hl : lv_has ls 17 [(0, .long x0), (2, .long x2), (4, .long x4), (6, .long x6)] := hl
  unfold M_CS_isLess at h
  refine lv_iconst (v := 0) hx hb d_CS_isLess_0 (by decide) ?_
  refine lv_istore (lv' := [(8, .int (0 : Int32)), (0, .long x0), (2, .long x2), (4, .long x4), (6, .long x6)]) hx hb d_CS_isLess_1 hl (by decide) rfl (fun ls hl => ?_)
  exact w_CS_isLess_3 C N x0 x2 x4 x6 (0 : Int32) _ (lv_sub hl [1, 2, 3, 4, 0] rfl) h
set_option maxRecDepth 100000 in
set_option maxHeartbeats 4000000 in
theorem w_CS_weigh_61 {μ' : Mem} {N : Nat} (C : CxA G p s m args meth c prog_2_method_11_code 5 none "RecipePlans$CutSearch" ws_CS_weigh) : ∀ (n : Nat) (x1 : Int64) (x3 : Int32) (x4 : Int32) (μ : Mem) (H : Heap) (locs : List Loc) (ls : Array Slot), Wk G s μ H locs → lv_has ls 5 [(0, .ref (G.2.1 4)), (1, .long x1), (3, .int x3), (4, .int x4)] → M_CS_weigh_61 N n x1 x3 x4 μ = some μ' → WA G rm_CS_weigh p l e s m args below meth c none μ' H locs 61 ls [] := by
  obtain ⟨hx, hb, hr, hml, hown, hts, hlk, hK, hSt⟩ := id C
  intro n
  induction n with
  | zero =>
    intro x1 x3 x4 μ H locs ls hw hl h
    rw [M_CS_weigh_61] at h
    cases h
  | succ n ih =>
    intro x1 x3 x4 μ H locs ls hw hl h
    rw [M_CS_weigh_61] at h
    refine lv_iload hx hb d_CS_weigh_61 (lv_at hl 3 rfl) ?_
    refine lv_aload_n hx hb d_CS_weigh_63 rfl (lv_at hl 0 rfl) ?_
    refine va_get (D := G.1) (ci := 4) (v := .ref (G.2.1 3)) (C := "RecipePlans$CutSearch") (T := T_CS) (N := 13) hx hb hts (fun _ h9 => List.mem_cons_of_mem _ (inT_CS _ h9)) hown hK hw.1 4 (WL_get (by decide)) rfl 2 (by decide) (hts _ (List.mem_cons_of_mem _ tw_133)) (fun _ h9 => h9) rfl d_CS_weigh_64 ?_
    refine va_get (D := G.1) (ci := 3) (v := .int (μ.1 3 0)) (C := "RecipePlans$Sides") (T := T_Si) (N := 3) hx hb hts (fun _ h9 => List.mem_cons_of_mem _ (inT_Si _ h9)) hown hK hw.1 3 (WL_get (by decide)) rfl 0 (by decide) (hts _ (List.mem_cons_of_mem _ tw_115)) (fun _ h9 => h9) rfl d_CS_weigh_67 ?_
    refine lv_icmp_ge (tgt := 118) hx hb d_CS_weigh_70 (by decide) (fun c70 => ?_) (fun c70 => ?_)
    · have h := ifp c70 h
      refine lv_iload_n hx hb d_CS_weigh_118 rfl (lv_at hl 2 rfl) ?_
      refine lv_if_ne (tgt := 145) hx hb d_CS_weigh_119 (by decide) (fun c119 => ?_) (fun c119 => ?_)
      · have h := ifn c119 h
        refine lv_aload_n hx hb d_CS_weigh_145 rfl (lv_at hl 0 rfl) ?_
        refine va_get (D := G.1) (ci := 4) (v := .ref (G.2.1 13)) (C := "RecipePlans$CutSearch") (T := T_CS) (N := 13) hx hb hts (fun _ h9 => List.mem_cons_of_mem _ (inT_CS _ h9)) hown hK hw.1 4 (WL_get (by decide)) rfl 6 (by decide) (hts _ (List.mem_cons_of_mem _ tw_137)) (fun _ h9 => h9) rfl d_CS_weigh_146 ?_
        refine lv_iload_n hx hb d_CS_weigh_149 rfl (lv_at hl 2 rfl) ?_
        obtain ⟨v150, hv, h⟩ := bd h
        refine m_baload hx hb hK hw hv d_CS_weigh_150 ?_
        refine lv_if_ne (tgt := 181) hx hb d_CS_weigh_151 (by decide) (fun c151 => ?_) (fun c151 => ?_)
        · have h := ifn c151 h
          exact m_vret hx hb hr hlk hw h d_CS_weigh_181
        · have h := ifp c151 h
          refine lv_aload_n hx hb d_CS_weigh_154 rfl (lv_at hl 0 rfl) ?_
          refine va_get (D := G.1) (ci := 4) (v := .ref (G.2.1 13)) (C := "RecipePlans$CutSearch") (T := T_CS) (N := 13) hx hb hts (fun _ h9 => List.mem_cons_of_mem _ (inT_CS _ h9)) hown hK hw.1 4 (WL_get (by decide)) rfl 6 (by decide) (hts _ (List.mem_cons_of_mem _ tw_137)) (fun _ h9 => h9) rfl d_CS_weigh_155 ?_
          refine lv_iload_n hx hb d_CS_weigh_158 rfl (lv_at hl 2 rfl) ?_
          refine lv_iconst (v := 1) hx hb d_CS_weigh_159 (by decide) ?_
          obtain ⟨μ160, hm, h⟩ := bd h
          refine m_bastore hx hb hK hw hm d_CS_weigh_160 (fun H locs hw => ?_)
          refine lv_aload_n hx hb d_CS_weigh_161 rfl (lv_at hl 0 rfl) ?_
          refine va_get (D := G.1) (ci := 4) (v := .ref (G.2.1 24)) (C := "RecipePlans$CutSearch") (T := T_CS) (N := 13) hx hb hts (fun _ h9 => List.mem_cons_of_mem _ (inT_CS _ h9)) hown hK hw.1 4 (WL_get (by decide)) rfl 7 (by decide) (hts _ (List.mem_cons_of_mem _ tw_138)) (fun _ h9 => h9) rfl d_CS_weigh_162 ?_
          refine lv_aload_n hx hb d_CS_weigh_165 rfl (lv_at hl 0 rfl) ?_
          refine va_get (D := G.1) (ci := 4) (v := .int (μ160.1 4 8)) (C := "RecipePlans$CutSearch") (T := T_CS) (N := 13) hx hb hts (fun _ h9 => List.mem_cons_of_mem _ (inT_CS _ h9)) hown hK hw.1 4 (WL_get (by decide)) rfl 8 (by decide) (hts _ (List.mem_cons_of_mem _ tw_139)) (fun _ h9 => h9) rfl d_CS_weigh_166 ?_
          refine lv_iload_n hx hb d_CS_weigh_169 rfl (lv_at hl 2 rfl) ?_
          obtain ⟨μ170, hm, h⟩ := bd h
          refine m_iastore hx hb hK hw hm d_CS_weigh_170 (fun H locs hw => ?_)
          refine lv_aload_n hx hb d_CS_weigh_171 rfl (lv_at hl 0 rfl) ?_
          refine lv_dup hx hb d_CS_weigh_172 rfl ?_
          refine va_get (D := G.1) (ci := 4) (v := .int (μ170.1 4 8)) (C := "RecipePlans$CutSearch") (T := T_CS) (N := 13) hx hb hts (fun _ h9 => List.mem_cons_of_mem _ (inT_CS _ h9)) hown hK hw.1 4 (WL_get (by decide)) rfl 8 (by decide) (hts _ (List.mem_cons_of_mem _ tw_139)) (fun _ h9 => h9) rfl d_CS_weigh_173 ?_
          refine lv_iconst (v := 1) hx hb d_CS_weigh_176 (by decide) ?_
          refine lv_iadd hx hb d_CS_weigh_177 ?_
          obtain ⟨μ178, hm, h⟩ := bd h
          refine va_put (D := G.1) (ci := 4) (v := .int ((μ170.1 4 8) + (1 : Int32))) (ty := .int) (C := "RecipePlans$CutSearch") (T := T_CS) (N := 13) hx hb hts (fun _ h9 => List.mem_cons_of_mem _ (inT_CS _ h9)) ty_CS tyok_CS nm_CS hown hK hw.1 hw.2.1 hw.2.2 4 (WL_get (by decide)) rfl 8 (by decide) (hts _ (List.mem_cons_of_mem _ tw_139)) (fun _ h9 => h9) rfl (by decide +kernel) rfl rfl (Nat.le_of_ble_eq_true rfl) d_CS_weigh_178 (fun H locs hP hD hS => ?_)
          have hw := wk_pI hm (by decide) (by rfl) hP hD hS
          exact m_vret hx hb hr hlk hw h d_CS_weigh_181
      · have h := ifp c119 h
        refine lv_aload_n hx hb d_CS_weigh_122 rfl (lv_at hl 0 rfl) ?_
        refine lv_iconst (v := 1) hx hb d_CS_weigh_123 (by decide) ?_
        obtain ⟨μ124, hm, h⟩ := bd h
        refine va_put (D := G.1) (ci := 4) (v := .int (1 : Int32)) (ty := .boolean) (C := "RecipePlans$CutSearch") (T := T_CS) (N := 13) hx hb hts (fun _ h9 => List.mem_cons_of_mem _ (inT_CS _ h9)) ty_CS tyok_CS nm_CS hown hK hw.1 hw.2.1 hw.2.2 4 (WL_get (by decide)) rfl 10 (by decide) (hts _ (List.mem_cons_of_mem _ tw_142)) (fun _ h9 => h9) rfl (by decide +kernel) (pZ_ok hm).1 (pZ_ok hm).2 (Nat.le_of_ble_eq_true rfl) d_CS_weigh_124 (fun H locs hP hD hS => ?_)
        have hw := wk_pZ hm (by decide) (by rfl) hP hD hS
        refine lv_aload_n hx hb d_CS_weigh_127 rfl (lv_at hl 0 rfl) ?_
        refine lv_lload_n hx hb d_CS_weigh_128 rfl (lv_at hl 1 rfl) ?_
        obtain ⟨μ129, hm, h⟩ := bd h
        refine va_put (D := G.1) (ci := 4) (v := .long x1) (ty := .long) (C := "RecipePlans$CutSearch") (T := T_CS) (N := 13) hx hb hts (fun _ h9 => List.mem_cons_of_mem _ (inT_CS _ h9)) ty_CS tyok_CS nm_CS hown hK hw.1 hw.2.1 hw.2.2 4 (WL_get (by decide)) rfl 11 (by decide) (hts _ (List.mem_cons_of_mem _ tw_145)) (fun _ h9 => h9) rfl (by decide +kernel) rfl rfl (Nat.le_of_ble_eq_true rfl) d_CS_weigh_129 (fun H locs hP hD hS => ?_)
        have hw := wk_pJ hm (by decide) (by rfl) hP hD hS
        refine lv_aload_n hx hb d_CS_weigh_132 rfl (lv_at hl 0 rfl) ?_
        refine lv_aload_n hx hb d_CS_weigh_133 rfl (lv_at hl 0 rfl) ?_
        refine va_get (D := G.1) (ci := 4) (v := .ref (G.2.1 43)) (C := "RecipePlans$CutSearch") (T := T_CS) (N := 13) hx hb hts (fun _ h9 => List.mem_cons_of_mem _ (inT_CS _ h9)) hown hK hw.1 4 (WL_get (by decide)) rfl 4 (by decide) (hts _ (List.mem_cons_of_mem _ tw_135)) (fun _ h9 => h9) rfl d_CS_weigh_134 ?_
        refine lv_iconst (v := 4) hx hb d_CS_weigh_137 (by decide) ?_
        obtain ⟨v138, hv, h⟩ := bd h
        refine m_laload hx hb hK hw hv d_CS_weigh_138 ?_
        obtain ⟨μ139, hm, h⟩ := bd h
        refine va_put (D := G.1) (ci := 4) (v := .long v138) (ty := .long) (C := "RecipePlans$CutSearch") (T := T_CS) (N := 13) hx hb hts (fun _ h9 => List.mem_cons_of_mem _ (inT_CS _ h9)) ty_CS tyok_CS nm_CS hown hK hw.1 hw.2.1 hw.2.2 4 (WL_get (by decide)) rfl 12 (by decide) (hts _ (List.mem_cons_of_mem _ tw_147)) (fun _ h9 => h9) rfl (by decide +kernel) rfl rfl (Nat.le_of_ble_eq_true rfl) d_CS_weigh_139 (fun H locs hP hD hS => ?_)
        have hw := wk_pJ hm (by decide) (by rfl) hP hD hS
        refine lv_goto (tgt := 181) hx hb d_CS_weigh_142 (by decide) ?_
        exact m_vret hx hb hr hlk hw h d_CS_weigh_181
    · have h := ifn c70 h
      refine lv_aload_n hx hb d_CS_weigh_73 rfl (lv_at hl 0 rfl) ?_
      refine va_get (D := G.1) (ci := 4) (v := .ref (G.2.1 2)) (C := "RecipePlans$CutSearch") (T := T_CS) (N := 13) hx hb hts (fun _ h9 => List.mem_cons_of_mem _ (inT_CS _ h9)) hown hK hw.1 4 (WL_get (by decide)) rfl 1 (by decide) (hts _ (List.mem_cons_of_mem _ tw_132)) (fun _ h9 => h9) rfl d_CS_weigh_74 ?_
      refine lv_aload_n hx hb d_CS_weigh_77 rfl (lv_at hl 0 rfl) ?_
      refine va_get (D := G.1) (ci := 4) (v := .ref (G.2.1 3)) (C := "RecipePlans$CutSearch") (T := T_CS) (N := 13) hx hb hts (fun _ h9 => List.mem_cons_of_mem _ (inT_CS _ h9)) hown hK hw.1 4 (WL_get (by decide)) rfl 2 (by decide) (hts _ (List.mem_cons_of_mem _ tw_133)) (fun _ h9 => h9) rfl d_CS_weigh_78 ?_
      refine va_get (D := G.1) (ci := 3) (v := .ref (G.2.1 23)) (C := "RecipePlans$Sides") (T := T_Si) (N := 3) hx hb hts (fun _ h9 => List.mem_cons_of_mem _ (inT_Si _ h9)) hown hK hw.1 3 (WL_get (by decide)) rfl 1 (by decide) (hts _ (List.mem_cons_of_mem _ tw_117)) (fun _ h9 => h9) rfl d_CS_weigh_81 ?_
      refine lv_iload hx hb d_CS_weigh_84 (lv_at hl 3 rfl) ?_
      obtain ⟨v86, hv, h⟩ := bd h
      refine m_iaload hx hb hK hw hv d_CS_weigh_86 ?_
      refine lv_aload_n hx hb d_CS_weigh_87 rfl (lv_at hl 0 rfl) ?_
      refine va_get (D := G.1) (ci := 4) (v := .ref (G.2.1 44)) (C := "RecipePlans$CutSearch") (T := T_CS) (N := 13) hx hb hts (fun _ h9 => List.mem_cons_of_mem _ (inT_CS _ h9)) hown hK hw.1 4 (WL_get (by decide)) rfl 5 (by decide) (hts _ (List.mem_cons_of_mem _ tw_136)) (fun _ h9 => h9) rfl d_CS_weigh_88 ?_
      obtain ⟨r91, μ91, hq, h⟩ := bd2 h
      refine m_call (r := some (.int r91)) (μ1 := μ91) (va_runV (C := "RecipePlans$Rules") (As := [.int v86, .ref (G.2.1 44)]) (rest := []) ⟨hx, hb, hml, hown, hts⟩ (c_Ru_keeps l G N v86 44 μ hq _) (cwV 2 hts (gdV tw_348 tw_349 tw_350 tw_36 tw_351) rfl rfl rfl (by decide +kernel) ⟨Nat.le_of_ble_eq_true rfl, Nat.le_of_ble_eq_true rfl⟩) (m_preV (k := 2) (by decide) rfl hK hSt hw) rfl rfl hl.1 rfl (lv_room (Nat.le_of_ble_eq_true rfl)) d_CS_weigh_91 ⟨Nat.zero_le _, Nat.zero_le _⟩) hw (fun H locs hw => ?_)
      refine lv_if_ne (tgt := 112) hx hb d_CS_weigh_94 (by decide) (fun c94 => ?_) (fun c94 => ?_)
      · have h := ifn c94 h
        refine lv_iinc (v := x4 + 1) (lv' := [(4, .int (x4 + 1)), (0, .ref (G.2.1 4)), (1, .long x1), (3, .int x3)]) hx hb d_CS_weigh_112 hl (k := 3) rfl rfl (by decide) rfl (fun ls hl => ?_)
        refine lv_goto (tgt := 61) hx hb d_CS_weigh_115 (by decide) ?_
        exact ih x1 x3 (x4 + 1) μ91 _ _ _ hw (lv_sub hl [1, 2, 3, 0] rfl) h
      · have h := ifp c94 h
        refine lv_iload_n hx hb d_CS_weigh_97 rfl (lv_at hl 2 rfl) ?_
        refine lv_iconst (v := 1) hx hb d_CS_weigh_98 (by decide) ?_
        refine lv_aload_n hx hb d_CS_weigh_99 rfl (lv_at hl 0 rfl) ?_
        refine va_get (D := G.1) (ci := 4) (v := .ref (G.2.1 3)) (C := "RecipePlans$CutSearch") (T := T_CS) (N := 13) hx hb hts (fun _ h9 => List.mem_cons_of_mem _ (inT_CS _ h9)) hown hK hw.1 4 (WL_get (by decide)) rfl 2 (by decide) (hts _ (List.mem_cons_of_mem _ tw_133)) (fun _ h9 => h9) rfl d_CS_weigh_100 ?_
        refine va_get (D := G.1) (ci := 3) (v := .ref (G.2.1 23)) (C := "RecipePlans$Sides") (T := T_Si) (N := 3) hx hb hts (fun _ h9 => List.mem_cons_of_mem _ (inT_Si _ h9)) hown hK hw.1 3 (WL_get (by decide)) rfl 1 (by decide) (hts _ (List.mem_cons_of_mem _ tw_117)) (fun _ h9 => h9) rfl d_CS_weigh_103 ?_
        refine lv_iload hx hb d_CS_weigh_106 (lv_at hl 3 rfl) ?_
        obtain ⟨v108, hv, h⟩ := bd h
        refine m_iaload hx hb hK hw hv d_CS_weigh_108 ?_
        refine lv_ishl hx hb d_CS_weigh_109 ?_
        refine lv_ior hx hb d_CS_weigh_110 ?_
        obtain ⟨x3_111, ex3_111, h⟩ := nmx h
        refine m_eqi ex3_111 ?_
        refine lv_istore_n (lv' := [(3, .int x3_111), (0, .ref (G.2.1 4)), (1, .long x1), (4, .int x4)]) hx hb d_CS_weigh_111 rfl hl (by decide) rfl (fun ls hl => ?_)
        refine lv_iinc (v := x4 + 1) (lv' := [(4, .int (x4 + 1)), (3, .int x3_111), (0, .ref (G.2.1 4)), (1, .long x1)]) hx hb d_CS_weigh_112 hl (k := 3) rfl rfl (by decide) rfl (fun ls hl => ?_)
        refine lv_goto (tgt := 61) hx hb d_CS_weigh_115 (by decide) ?_
        exact ih x1 x3_111 (x4 + 1) μ91 _ _ _ hw (lv_sub hl [2, 3, 1, 0] rfl) h
set_option maxRecDepth 100000 in
set_option maxHeartbeats 4000000 in
theorem w_CS_weigh_41 {μ' : Mem} {N : Nat} (C : CxA G p s m args meth c prog_2_method_11_code 5 none "RecipePlans$CutSearch" ws_CS_weigh) : ∀ (x1 : Int64) (μ : Mem) (H : Heap) (locs : List Loc) (ls : Array Slot), Wk G s μ H locs → lv_has ls 5 [(0, .ref (G.2.1 4)), (1, .long x1)] → M_CS_weigh_41 N x1 μ = some μ' → WA G rm_CS_weigh p l e s m args below meth c none μ' H locs 41 ls [] := by
  obtain ⟨hx, hb, hr, hml, hown, hts, hlk, hK, hSt⟩ := id C
  intro x1 μ H locs ls hw hl h
  unfold M_CS_weigh_41 at h
  refine lv_aload_n hx hb d_CS_weigh_41 rfl (lv_at hl 0 rfl) ?_
  refine va_get (D := G.1) (ci := 4) (v := .ref (G.2.1 1)) (C := "RecipePlans$CutSearch") (T := T_CS) (N := 13) hx hb hts (fun _ h9 => List.mem_cons_of_mem _ (inT_CS _ h9)) hown hK hw.1 4 (WL_get (by decide)) rfl 0 (by decide) (hts _ (List.mem_cons_of_mem _ tw_131)) (fun _ h9 => h9) rfl d_CS_weigh_42 ?_
  refine lv_aload_n hx hb d_CS_weigh_45 rfl (lv_at hl 0 rfl) ?_
  refine va_get (D := G.1) (ci := 4) (v := .ref (G.2.1 43)) (C := "RecipePlans$CutSearch") (T := T_CS) (N := 13) hx hb hts (fun _ h9 => List.mem_cons_of_mem _ (inT_CS _ h9)) hown hK hw.1 4 (WL_get (by decide)) rfl 4 (by decide) (hts _ (List.mem_cons_of_mem _ tw_135)) (fun _ h9 => h9) rfl d_CS_weigh_46 ?_
  refine lv_aload_n hx hb d_CS_weigh_49 rfl (lv_at hl 0 rfl) ?_
  refine va_get (D := G.1) (ci := 4) (v := .ref (G.2.1 44)) (C := "RecipePlans$CutSearch") (T := T_CS) (N := 13) hx hb hts (fun _ h9 => List.mem_cons_of_mem _ (inT_CS _ h9)) hown hK hw.1 4 (WL_get (by decide)) rfl 5 (by decide) (hts _ (List.mem_cons_of_mem _ tw_136)) (fun _ h9 => h9) rfl d_CS_weigh_50 ?_
  obtain ⟨μ53, hq, h⟩ := bd h
  refine m_call (r := none) (μ1 := μ53) (va_runV (C := "RecipePlans$Lots") (As := [.ref (G.2.1 43), .ref (G.2.1 44)]) (rest := []) ⟨hx, hb, hml, hown, hts⟩ (c_Lo_hold l G N 43 44 μ hq _) (cwV 2 hts (gdV tw_344 tw_345 tw_346 tw_35 tw_347) rfl rfl rfl (by decide +kernel) ⟨Nat.le_of_ble_eq_true rfl, Nat.le_of_ble_eq_true rfl⟩) (m_preV (k := 1) (by decide) rfl hK hSt hw) rfl rfl hl.1 rfl (lv_room (Nat.le_of_ble_eq_true rfl)) d_CS_weigh_53 ⟨Nat.zero_le _, Nat.zero_le _⟩) hw (fun H locs hw => ?_)
  refine lv_iconst (v := 0) hx hb d_CS_weigh_56 (by decide) ?_
  refine lv_istore_n (lv' := [(3, .int (0 : Int32)), (0, .ref (G.2.1 4)), (1, .long x1)]) hx hb d_CS_weigh_57 rfl hl (by decide) rfl (fun ls hl => ?_)
  refine lv_iconst (v := 0) hx hb d_CS_weigh_58 (by decide) ?_
  refine lv_istore (lv' := [(4, .int (0 : Int32)), (3, .int (0 : Int32)), (0, .ref (G.2.1 4)), (1, .long x1)]) hx hb d_CS_weigh_59 hl (by decide) rfl (fun ls hl => ?_)
  exact w_CS_weigh_61 C N x1 (0 : Int32) (0 : Int32) μ53 _ _ _ hw (lv_sub hl [2, 3, 1, 0] rfl) h
set_option maxRecDepth 100000 in
set_option maxHeartbeats 4000000 in
theorem c_CS_weigh (l : Launch) (G : Gw) (N : Nat) (μ : Mem) {μ' : Mem} (h : M_CS_weigh N μ = some μ') : CT l y_CS_weigh ws_CS_weigh rm_CS_weigh [.ref (G.2.1 4)] G μ none μ' := by
  refine m_met (cc := prog_2_method_11_code) (maxL := 5) (ret := none) (by decide) rfl (Nat.le_of_ble_eq_true rfl) ?_
  intro p e s m args below meth c ls C hw hl
  obtain ⟨hx, hb, hr, hml, hown, hts, hlk, hK, hSt⟩ := id C
  have hl : lv_has ls 5 [(0, .ref (G.2.1 4))] := hl
  unfold M_CS_weigh at h
  refine lv_aload_n hx hb d_CS_weigh_0 rfl (lv_at hl 0 rfl) ?_
  refine va_get (D := G.1) (ci := 4) (v := .ref (G.2.1 1)) (C := "RecipePlans$CutSearch") (T := T_CS) (N := 13) hx hb hts (fun _ h9 => List.mem_cons_of_mem _ (inT_CS _ h9)) hown hK hw.1 4 (WL_get (by decide)) rfl 0 (by decide) (hts _ (List.mem_cons_of_mem _ tw_131)) (fun _ h9 => h9) rfl d_CS_weigh_1 ?_
  refine lv_aload_n hx hb d_CS_weigh_4 rfl (lv_at hl 0 rfl) ?_
  refine va_get (D := G.1) (ci := 4) (v := .ref (G.2.1 43)) (C := "RecipePlans$CutSearch") (T := T_CS) (N := 13) hx hb hts (fun _ h9 => List.mem_cons_of_mem _ (inT_CS _ h9)) hown hK hw.1 4 (WL_get (by decide)) rfl 4 (by decide) (hts _ (List.mem_cons_of_mem _ tw_135)) (fun _ h9 => h9) rfl d_CS_weigh_5 ?_
  obtain ⟨r8, μ8, hq, h⟩ := bd2 h
  refine m_call (r := some (.long r8)) (μ1 := μ8) (va_runV (C := "RecipePlans$Lots") (As := [.ref (G.2.1 43)]) (rest := []) ⟨hx, hb, hml, hown, hts⟩ (c_Lo_price l G N 43 μ hq _) (cwV 1 hts (gdV tw_334 tw_335 tw_336 tw_35 tw_337) rfl rfl rfl (by decide +kernel) ⟨Nat.le_of_ble_eq_true rfl, Nat.le_of_ble_eq_true rfl⟩) (m_preV (k := 1) (by decide) rfl hK hSt hw) rfl rfl hl.1 rfl (lv_room (Nat.le_of_ble_eq_true rfl)) d_CS_weigh_8 ⟨Nat.zero_le _, Nat.zero_le _⟩) hw (fun H locs hw => ?_)
  refine lv_lstore_n (lv' := [(1, .long r8), (0, .ref (G.2.1 4))]) hx hb d_CS_weigh_11 rfl hl (by decide) rfl (fun ls hl => ?_)
  refine lv_aload_n hx hb d_CS_weigh_12 rfl (lv_at hl 1 rfl) ?_
  refine va_get (D := G.1) (ci := 4) (v := .int (μ8.1 4 10)) (C := "RecipePlans$CutSearch") (T := T_CS) (N := 13) hx hb hts (fun _ h9 => List.mem_cons_of_mem _ (inT_CS _ h9)) hown hK hw.1 4 (WL_get (by decide)) rfl 10 (by decide) (hts _ (List.mem_cons_of_mem _ tw_142)) (fun _ h9 => h9) rfl d_CS_weigh_13 ?_
  refine lv_if_eq (tgt := 41) hx hb d_CS_weigh_16 (by decide) (fun c16 => ?_) (fun c16 => ?_)
  · have h := ifp c16 h
    exact w_CS_weigh_41 C r8 μ8 _ _ _ hw (lv_sub hl [1, 0] rfl) h
  · have h := ifn c16 h
    refine lv_lload_n hx hb d_CS_weigh_19 rfl (lv_at hl 0 rfl) ?_
    refine lv_aload_n hx hb d_CS_weigh_20 rfl (lv_at hl 1 rfl) ?_
    refine va_get (D := G.1) (ci := 4) (v := .ref (G.2.1 43)) (C := "RecipePlans$CutSearch") (T := T_CS) (N := 13) hx hb hts (fun _ h9 => List.mem_cons_of_mem _ (inT_CS _ h9)) hown hK hw.1 4 (WL_get (by decide)) rfl 4 (by decide) (hts _ (List.mem_cons_of_mem _ tw_135)) (fun _ h9 => h9) rfl d_CS_weigh_21 ?_
    refine lv_iconst (v := 4) hx hb d_CS_weigh_24 (by decide) ?_
    obtain ⟨v25, hv, h⟩ := bd h
    refine m_laload hx hb hK hw hv d_CS_weigh_25 ?_
    refine lv_aload_n hx hb d_CS_weigh_26 rfl (lv_at hl 1 rfl) ?_
    refine va_get (D := G.1) (ci := 4) (v := .long (μ8.2 4 11)) (C := "RecipePlans$CutSearch") (T := T_CS) (N := 13) hx hb hts (fun _ h9 => List.mem_cons_of_mem _ (inT_CS _ h9)) hown hK hw.1 4 (WL_get (by decide)) rfl 11 (by decide) (hts _ (List.mem_cons_of_mem _ tw_145)) (fun _ h9 => h9) rfl d_CS_weigh_27 ?_
    refine lv_aload_n hx hb d_CS_weigh_30 rfl (lv_at hl 1 rfl) ?_
    refine va_get (D := G.1) (ci := 4) (v := .long (μ8.2 4 12)) (C := "RecipePlans$CutSearch") (T := T_CS) (N := 13) hx hb hts (fun _ h9 => List.mem_cons_of_mem _ (inT_CS _ h9)) hown hK hw.1 4 (WL_get (by decide)) rfl 12 (by decide) (hts _ (List.mem_cons_of_mem _ tw_147)) (fun _ h9 => h9) rfl d_CS_weigh_31 ?_
    obtain ⟨r34, hq, h⟩ := bd h
    refine m_pcall (r := .int r34) (W.runS (As := [.long r8, .long v25, .long (μ8.2 4 11), .long (μ8.2 4 12)]) (rest := []) ⟨hx, hb, hml, hown, hts⟩ (c_CS_isLess l N r8 v25 (μ8.2 4 11) (μ8.2 4 12) hq) (va_cwS 4 hts (gdS tw_338 tw_339 tw_38 tw_340) rfl rfl rfl (by decide +kernel) ⟨Nat.le_of_ble_eq_true rfl, Nat.le_of_ble_eq_true rfl⟩) preEq rfl rfl hl.1 rfl (lv_room (Nat.le_of_ble_eq_true rfl)) d_CS_weigh_34 ⟨Nat.zero_le _, Nat.zero_le _⟩) ?_
    refine lv_if_ne (tgt := 41) hx hb d_CS_weigh_37 (by decide) (fun c37 => ?_) (fun c37 => ?_)
    · have h := ifn c37 h
      exact w_CS_weigh_41 C r8 μ8 _ _ _ hw (lv_sub hl [1, 0] rfl) h
    · have h := ifp c37 h
      exact m_vret hx hb hr hlk hw h d_CS_weigh_40
set_option maxRecDepth 100000 in
set_option maxHeartbeats 4000000 in
theorem w_CS_visitCorners_69 {μ' : Mem} {N : Nat} (C : CxA G p s m args meth c prog_2_method_8_code 7 none "RecipePlans$CutSearch" ws_CS_visitCorners) {K13 : Int32 → Nat → Int32 → Mem → Option Mem} (hK13 : ∀ (x1 : Int32) (k2 : Nat) (x3 : Int32) (μ : Mem) (H : Heap) (locs : List Loc) (ls : Array Slot), Wk G s μ H locs → lv_has ls 7 [(0, .ref (G.2.1 4)), (1, .int x1), (2, .ref (G.2.1 k2)), (3, .int x3)] → K13 x1 k2 x3 μ = some μ' → WA G rm_CS_visitCorners p l e s m args below meth c none μ' H locs 13 ls []) : ∀ (n : Nat) (x1 : Int32) (k2 : Nat) (x3 : Int32) (x4 : Int32) (x5 : Int32) (x6 : Int32) (μ : Mem) (H : Heap) (locs : List Loc) (ls : Array Slot), Wk G s μ H locs → lv_has ls 7 [(0, .ref (G.2.1 4)), (1, .int x1), (2, .ref (G.2.1 k2)), (3, .int x3), (4, .int x4), (5, .int x5), (6, .int x6)] → M_CS_visitCorners_69 N K13 n x1 k2 x3 x4 x5 x6 μ = some μ' → WA G rm_CS_visitCorners p l e s m args below meth c none μ' H locs 69 ls [] := by
  obtain ⟨hx, hb, hr, hml, hown, hts, hlk, hK, hSt⟩ := id C
  intro n
  induction n with
  | zero =>
    intro x1 k2 x3 x4 x5 x6 μ H locs ls hw hl h
    rw [M_CS_visitCorners_69] at h
    cases h
  | succ n ih =>
    intro x1 k2 x3 x4 x5 x6 μ H locs ls hw hl h
    rw [M_CS_visitCorners_69] at h
    refine lv_iload hx hb d_CS_visitCorners_69 (lv_at hl 6 rfl) ?_
    refine lv_bipush (v := 16) hx hb d_CS_visitCorners_71 (by decide) ?_
    refine lv_icmp_ge (tgt := 108) hx hb d_CS_visitCorners_73 (by decide) (fun c73 => ?_) (fun c73 => ?_)
    · have h := ifp c73 h
      refine lv_iinc (v := x3 + 1) (lv' := [(3, .int (x3 + 1)), (0, .ref (G.2.1 4)), (1, .int x1), (2, .ref (G.2.1 k2)), (4, .int x4), (5, .int x5), (6, .int x6)]) hx hb d_CS_visitCorners_108 hl (k := 3) rfl rfl (by decide) rfl (fun ls hl => ?_)
      refine lv_goto (tgt := 13) hx hb d_CS_visitCorners_111 (by decide) ?_
      exact hK13 x1 k2 (x3 + 1) μ _ _ _ hw (lv_sub hl [1, 2, 3, 0] rfl) h
    · have h := ifn c73 h
      refine lv_iload hx hb d_CS_visitCorners_76 (lv_at hl 6 rfl) ?_
      refine lv_iload hx hb d_CS_visitCorners_78 (lv_at hl 5 rfl) ?_
      refine lv_iconst (v := -1) hx hb d_CS_visitCorners_80 (by decide) ?_
      refine lv_ixor hx hb d_CS_visitCorners_81 ?_
      refine lv_iand hx hb d_CS_visitCorners_82 ?_
      refine lv_if_ne (tgt := 102) hx hb d_CS_visitCorners_83 (by decide) (fun c83 => ?_) (fun c83 => ?_)
      · have h := ifn c83 h
        refine lv_iinc (v := x6 + 1) (lv' := [(6, .int (x6 + 1)), (0, .ref (G.2.1 4)), (1, .int x1), (2, .ref (G.2.1 k2)), (3, .int x3), (4, .int x4), (5, .int x5)]) hx hb d_CS_visitCorners_102 hl (k := 6) rfl rfl (by decide) rfl (fun ls hl => ?_)
        refine lv_goto (tgt := 69) hx hb d_CS_visitCorners_105 (by decide) ?_
        exact ih x1 k2 x3 x4 x5 (x6 + 1) μ _ _ _ hw (lv_sub hl [1, 2, 3, 4, 5, 6, 0] rfl) h
      · have h := ifp c83 h
        refine lv_aload_n hx hb d_CS_visitCorners_86 rfl (lv_at hl 0 rfl) ?_
        refine lv_aload_n hx hb d_CS_visitCorners_87 rfl (lv_at hl 2 rfl) ?_
        refine lv_iload hx hb d_CS_visitCorners_88 (lv_at hl 4 rfl) ?_
        refine lv_iload hx hb d_CS_visitCorners_90 (lv_at hl 6 rfl) ?_
        obtain ⟨r92, μ92, hq, h⟩ := bd2 h
        refine m_call (r := some (.int r92)) (μ1 := μ92) (va_runV (C := "RecipePlans$CutSearch") (As := [.ref (G.2.1 k2), .int x4, .int x6]) (rest := []) ⟨hx, hb, hml, hown, hts⟩ (c_CS_meets l G N k2 x4 x6 μ hq _) (cwV 3 hts (gdV tw_318 tw_319 tw_4 tw_38 tw_320) rfl rfl rfl (by decide +kernel) ⟨Nat.le_of_ble_eq_true rfl, Nat.le_of_ble_eq_true rfl⟩) (m_preV (k := 4) (by decide) rfl hK hSt hw) rfl rfl hl.1 rfl (lv_room (Nat.le_of_ble_eq_true rfl)) d_CS_visitCorners_92 ⟨Nat.zero_le _, Nat.zero_le _⟩) hw (fun H locs hw => ?_)
        refine lv_if_eq (tgt := 102) hx hb d_CS_visitCorners_95 (by decide) (fun c95 => ?_) (fun c95 => ?_)
        · have h := ifp c95 h
          refine lv_iinc (v := x6 + 1) (lv' := [(6, .int (x6 + 1)), (0, .ref (G.2.1 4)), (1, .int x1), (2, .ref (G.2.1 k2)), (3, .int x3), (4, .int x4), (5, .int x5)]) hx hb d_CS_visitCorners_102 hl (k := 6) rfl rfl (by decide) rfl (fun ls hl => ?_)
          refine lv_goto (tgt := 69) hx hb d_CS_visitCorners_105 (by decide) ?_
          exact ih x1 k2 x3 x4 x5 (x6 + 1) μ92 _ _ _ hw (lv_sub hl [1, 2, 3, 4, 5, 6, 0] rfl) h
        · have h := ifn c95 h
          refine lv_aload_n hx hb d_CS_visitCorners_98 rfl (lv_at hl 0 rfl) ?_
          obtain ⟨μ99, hq, h⟩ := bd h
          refine m_call (r := none) (μ1 := μ99) (va_runV (C := "RecipePlans$CutSearch") (As := []) (rest := []) ⟨hx, hb, hml, hown, hts⟩ (c_CS_weigh l G N μ92 hq _) (cwV 0 hts (gdV tw_331 tw_332 tw_6 tw_38 tw_333) rfl rfl rfl (by decide +kernel) ⟨Nat.le_of_ble_eq_true rfl, Nat.le_of_ble_eq_true rfl⟩) (m_preV (k := 4) (by decide) rfl hK hSt hw) rfl rfl hl.1 rfl (lv_room (Nat.le_of_ble_eq_true rfl)) d_CS_visitCorners_99 ⟨Nat.zero_le _, Nat.zero_le _⟩) hw (fun H locs hw => ?_)
          refine lv_iinc (v := x6 + 1) (lv' := [(6, .int (x6 + 1)), (0, .ref (G.2.1 4)), (1, .int x1), (2, .ref (G.2.1 k2)), (3, .int x3), (4, .int x4), (5, .int x5)]) hx hb d_CS_visitCorners_102 hl (k := 6) rfl rfl (by decide) rfl (fun ls hl => ?_)
          refine lv_goto (tgt := 69) hx hb d_CS_visitCorners_105 (by decide) ?_
          exact ih x1 k2 x3 x4 x5 (x6 + 1) μ99 _ _ _ hw (lv_sub hl [1, 2, 3, 4, 5, 6, 0] rfl) h
set_option maxRecDepth 100000 in
set_option maxHeartbeats 4000000 in
theorem w_CS_visitCorners_13 {μ' : Mem} {N : Nat} (C : CxA G p s m args meth c prog_2_method_8_code 7 none "RecipePlans$CutSearch" ws_CS_visitCorners) : ∀ (n : Nat) (x1 : Int32) (k2 : Nat) (x3 : Int32) (μ : Mem) (H : Heap) (locs : List Loc) (ls : Array Slot), Wk G s μ H locs → lv_has ls 7 [(0, .ref (G.2.1 4)), (1, .int x1), (2, .ref (G.2.1 k2)), (3, .int x3)] → M_CS_visitCorners_13 N n x1 k2 x3 μ = some μ' → WA G rm_CS_visitCorners p l e s m args below meth c none μ' H locs 13 ls [] := by
  obtain ⟨hx, hb, hr, hml, hown, hts, hlk, hK, hSt⟩ := id C
  intro n
  induction n with
  | zero =>
    intro x1 k2 x3 μ H locs ls hw hl h
    rw [M_CS_visitCorners_13] at h
    cases h
  | succ n ih =>
    intro x1 k2 x3 μ H locs ls hw hl h
    rw [M_CS_visitCorners_13] at h
    refine lv_iload_n hx hb d_CS_visitCorners_13 rfl (lv_at hl 3 rfl) ?_
    refine va_getsN (C := "RecipePlans") (n := "STARTS") (d := "[I") hx hb hSt.1.2.1 hw.2.2 hown (va_Nw.use rfl (hSt.2 (.fieldLinkNest "RecipePlans$CutSearch" 114 "RecipePlans" "STARTS" "[I" "RecipePlans") (by decide +kernel))) (fun _ h9 => h9) d_CS_visitCorners_14 ?_
    refine lv_iload_n hx hb d_CS_visitCorners_17 rfl (lv_at hl 1 rfl) ?_
    refine lv_iconst (v := 1) hx hb d_CS_visitCorners_18 (by decide) ?_
    refine lv_iadd hx hb d_CS_visitCorners_19 ?_
    obtain ⟨v20, hv, h⟩ := bd h
    refine m_tab hx hb hSt.1.2.2 rfl hw.2.2 hv d_CS_visitCorners_20 ?_
    refine lv_icmp_ge (tgt := 114) hx hb d_CS_visitCorners_21 (by decide) (fun c21 => ?_) (fun c21 => ?_)
    · have h := ifp c21 h
      exact m_vret hx hb hr hlk hw h d_CS_visitCorners_114
    · have h := ifn c21 h
      refine va_getsN (C := "RecipePlans") (n := "SETS") (d := "[I") hx hb hSt.1.1.1 hw.2.2 hown (va_Nw.use rfl (hSt.2 (.fieldLinkNest "RecipePlans$CutSearch" 117 "RecipePlans" "SETS" "[I" "RecipePlans") (by decide +kernel))) (fun _ h9 => h9) d_CS_visitCorners_24 ?_
      refine lv_iload_n hx hb d_CS_visitCorners_27 rfl (lv_at hl 3 rfl) ?_
      obtain ⟨v28, hv, h⟩ := bd h
      refine m_tab hx hb hSt.1.1.2 rfl hw.2.2 hv d_CS_visitCorners_28 ?_
      refine lv_istore (lv' := [(4, .int v28), (0, .ref (G.2.1 4)), (1, .int x1), (2, .ref (G.2.1 k2)), (3, .int x3)]) hx hb d_CS_visitCorners_29 hl (by decide) rfl (fun ls hl => ?_)
      refine lv_iload hx hb d_CS_visitCorners_31 (lv_at hl 0 rfl) ?_
      refine lv_aload_n hx hb d_CS_visitCorners_33 rfl (lv_at hl 1 rfl) ?_
      refine va_get (D := G.1) (ci := 4) (v := .int (μ.1 4 9)) (C := "RecipePlans$CutSearch") (T := T_CS) (N := 13) hx hb hts (fun _ h9 => List.mem_cons_of_mem _ (inT_CS _ h9)) hown hK hw.1 4 (WL_get (by decide)) rfl 9 (by decide) (hts _ (List.mem_cons_of_mem _ tw_140)) (fun _ h9 => h9) rfl d_CS_visitCorners_34 ?_
      refine lv_iconst (v := -1) hx hb d_CS_visitCorners_37 (by decide) ?_
      refine lv_ixor hx hb d_CS_visitCorners_38 ?_
      refine lv_iand hx hb d_CS_visitCorners_39 ?_
      refine lv_if_ne (tgt := 108) hx hb d_CS_visitCorners_40 (by decide) (fun c40 => ?_) (fun c40 => ?_)
      · have h := ifn c40 h
        refine lv_iinc (v := x3 + 1) (lv' := [(3, .int (x3 + 1)), (4, .int v28), (0, .ref (G.2.1 4)), (1, .int x1), (2, .ref (G.2.1 k2))]) hx hb d_CS_visitCorners_108 hl (k := 4) rfl rfl (by decide) rfl (fun ls hl => ?_)
        refine lv_goto (tgt := 13) hx hb d_CS_visitCorners_111 (by decide) ?_
        exact ih x1 k2 (x3 + 1) μ _ _ _ hw (lv_sub hl [2, 3, 4, 0] rfl) h
      · have h := ifp c40 h
        refine lv_aload_n hx hb d_CS_visitCorners_43 rfl (lv_at hl 3 rfl) ?_
        refine lv_iload hx hb d_CS_visitCorners_44 (lv_at hl 0 rfl) ?_
        obtain ⟨v46, hv, h⟩ := bd h
        refine m_laload hx hb hK hw hv d_CS_visitCorners_46 ?_
        refine lv_lconst (v := 0) hx hb d_CS_visitCorners_47 (by decide) ?_
        refine W.lcmp hx hb d_CS_visitCorners_48 ?_
        refine lv_if_ne (tgt := 55) hx hb d_CS_visitCorners_49 (by decide) (fun c49 => ?_) (fun c49 => ?_)
        · have h := ifn c49 h
          refine lv_aload_n hx hb d_CS_visitCorners_55 rfl (lv_at hl 1 rfl) ?_
          refine va_get (D := G.1) (ci := 4) (v := .int (μ.1 4 9)) (C := "RecipePlans$CutSearch") (T := T_CS) (N := 13) hx hb hts (fun _ h9 => List.mem_cons_of_mem _ (inT_CS _ h9)) hown hK hw.1 4 (WL_get (by decide)) rfl 9 (by decide) (hts _ (List.mem_cons_of_mem _ tw_140)) (fun _ h9 => h9) rfl d_CS_visitCorners_56 ?_
          refine lv_iload hx hb d_CS_visitCorners_59 (lv_at hl 0 rfl) ?_
          refine lv_iconst (v := -1) hx hb d_CS_visitCorners_61 (by decide) ?_
          refine lv_ixor hx hb d_CS_visitCorners_62 ?_
          refine lv_iand hx hb d_CS_visitCorners_63 ?_
          obtain ⟨x5_64, ex5_64, h⟩ := nmx h
          refine m_eqi ex5_64 ?_
          refine lv_istore (lv' := [(5, .int x5_64), (4, .int v28), (0, .ref (G.2.1 4)), (1, .int x1), (2, .ref (G.2.1 k2)), (3, .int x3)]) hx hb d_CS_visitCorners_64 hl (by decide) rfl (fun ls hl => ?_)
          refine lv_iconst (v := 0) hx hb d_CS_visitCorners_66 (by decide) ?_
          refine lv_istore (lv' := [(6, .int (0 : Int32)), (5, .int x5_64), (4, .int v28), (0, .ref (G.2.1 4)), (1, .int x1), (2, .ref (G.2.1 k2)), (3, .int x3)]) hx hb d_CS_visitCorners_67 hl (by decide) rfl (fun ls hl => ?_)
          exact w_CS_visitCorners_69 C ih N x1 k2 x3 v28 x5_64 (0 : Int32) μ _ _ _ hw (lv_sub hl [3, 4, 5, 6, 2, 1, 0] rfl) h
        · have h := ifp c49 h
          refine lv_goto (tgt := 108) hx hb d_CS_visitCorners_52 (by decide) ?_
          refine lv_iinc (v := x3 + 1) (lv' := [(3, .int (x3 + 1)), (4, .int v28), (0, .ref (G.2.1 4)), (1, .int x1), (2, .ref (G.2.1 k2))]) hx hb d_CS_visitCorners_108 hl (k := 4) rfl rfl (by decide) rfl (fun ls hl => ?_)
          refine lv_goto (tgt := 13) hx hb d_CS_visitCorners_111 (by decide) ?_
          exact ih x1 k2 (x3 + 1) μ _ _ _ hw (lv_sub hl [2, 3, 4, 0] rfl) h
set_option maxRecDepth 100000 in
set_option maxHeartbeats 4000000 in
theorem c_CS_visitCorners (l : Launch) (G : Gw) (N : Nat) (x1 : Int32) (μ : Mem) {μ' : Mem} (h : M_CS_visitCorners N x1 μ = some μ') : CT l y_CS_visitCorners ws_CS_visitCorners rm_CS_visitCorners [.ref (G.2.1 4), .int x1] G μ none μ' := by
  refine m_met (cc := prog_2_method_8_code) (maxL := 7) (ret := none) (by decide) rfl (Nat.le_of_ble_eq_true rfl) ?_
  intro p e s m args below meth c ls C hw hl
  obtain ⟨hx, hb, hr, hml, hown, hts, hlk, hK, hSt⟩ := id C
  have hl : lv_has ls 7 [(0, .ref (G.2.1 4)), (1, .int x1)] := hl
  unfold M_CS_visitCorners at h
  refine lv_aload_n hx hb d_CS_visitCorners_0 rfl (lv_at hl 0 rfl) ?_
  refine va_get (D := G.1) (ci := 4) (v := .ref (G.2.1 10)) (C := "RecipePlans$CutSearch") (T := T_CS) (N := 13) hx hb hts (fun _ h9 => List.mem_cons_of_mem _ (inT_CS _ h9)) hown hK hw.1 4 (WL_get (by decide)) rfl 3 (by decide) (hts _ (List.mem_cons_of_mem _ tw_134)) (fun _ h9 => h9) rfl d_CS_visitCorners_1 ?_
  refine lv_iload_n hx hb d_CS_visitCorners_4 rfl (lv_at hl 1 rfl) ?_
  obtain ⟨a5, hv, h⟩ := bd h
  refine m_aaload hx hb hK hw hv d_CS_visitCorners_5 ?_
  refine lv_astore_n (lv' := [(2, .ref (G.2.1 a5)), (0, .ref (G.2.1 4)), (1, .int x1)]) hx hb d_CS_visitCorners_6 rfl hl (by decide) rfl (fun ls hl => ?_)
  refine va_getsN (C := "RecipePlans") (n := "STARTS") (d := "[I") hx hb hSt.1.2.1 hw.2.2 hown (va_Nw.use rfl (hSt.2 (.fieldLinkNest "RecipePlans$CutSearch" 114 "RecipePlans" "STARTS" "[I" "RecipePlans") (by decide +kernel))) (fun _ h9 => h9) d_CS_visitCorners_7 ?_
  refine lv_iload_n hx hb d_CS_visitCorners_10 rfl (lv_at hl 2 rfl) ?_
  obtain ⟨v11, hv, h⟩ := bd h
  refine m_tab hx hb hSt.1.2.2 rfl hw.2.2 hv d_CS_visitCorners_11 ?_
  refine lv_istore_n (lv' := [(3, .int v11), (2, .ref (G.2.1 a5)), (0, .ref (G.2.1 4)), (1, .int x1)]) hx hb d_CS_visitCorners_12 rfl hl (by decide) rfl (fun ls hl => ?_)
  exact w_CS_visitCorners_13 C N x1 a5 v11 μ _ _ _ hw (lv_sub hl [2, 3, 1, 0] rfl) h
set_option maxRecDepth 100000 in
set_option maxHeartbeats 4000000 in
theorem w_CS_expand_8 {r : Int64} {μ' : Mem} {N : Nat} (C : CxA G p s m args meth c prog_2_method_7_code 8 (some .long) "RecipePlans$CutSearch" ws_CS_expand) : ∀ (n : Nat) (k0 : Nat) (k1 : Nat) (x2 : Int32) (x3 : Int64) (x5 : Int64) (x7 : Int32) (μ : Mem) (H : Heap) (locs : List Loc) (ls : Array Slot), Wk G s μ H locs → lv_has ls 8 [(0, .ref (G.2.1 k0)), (1, .ref (G.2.1 k1)), (2, .int x2), (3, .long x3), (5, .long x5), (7, .int x7)] → M_CS_expand_8 N n k0 k1 x2 x3 x5 x7 μ = some (r, μ') → WA G rm_CS_expand p l e s m args below meth c (some (.long r)) μ' H locs 8 ls [] := by
  obtain ⟨hx, hb, hr, hml, hown, hts, hlk, hK, hSt⟩ := id C
  intro n
  induction n with
  | zero =>
    intro k0 k1 x2 x3 x5 x7 μ H locs ls hw hl h
    rw [M_CS_expand_8] at h
    cases h
  | succ n ih =>
    intro k0 k1 x2 x3 x5 x7 μ H locs ls hw hl h
    rw [M_CS_expand_8] at h
    refine lv_iload hx hb d_CS_expand_8 (lv_at hl 5 rfl) ?_
    refine lv_if_lt (tgt := 52) hx hb d_CS_expand_10 (by decide) (fun c10 => ?_) (fun c10 => ?_)
    · have h := ifp c10 h
      refine lv_lload_n hx hb d_CS_expand_52 rfl (lv_at hl 3 rfl) ?_
      exact m_lret hx hb hr hlk hw h d_CS_expand_53
    · have h := ifn c10 h
      refine lv_iload_n hx hb d_CS_expand_13 rfl (lv_at hl 2 rfl) ?_
      refine lv_iload hx hb d_CS_expand_14 (lv_at hl 5 rfl) ?_
      obtain ⟨r16, hq, h⟩ := bd h
      refine m_pcall (r := .int r16) ((va_runSN (As := [.int x2, .int x7]) (rest := []) ⟨hx, hb, hml, hown, hts⟩ (c_RP_hasBit l N x2 x7 hq) ⟨va_cnB 2 hts (gd0 tw_288) rfl rfl rfl (hSt.2 (.methodLinkNest "RecipePlans$CutSearch" 124 ⟨"RecipePlans", "hasBit", "(II)Z"⟩ "RecipePlans") (by decide +kernel)) (hts _ (List.mem_cons_of_mem _ tw_34)) (by decide +kernel) ⟨Nat.le_of_ble_eq_true rfl, Nat.le_of_ble_eq_true rfl⟩, (hts _ (List.mem_cons_of_mem _ tw_287)), trivial⟩ preEq rfl rfl hl.1 rfl (lv_room (Nat.le_of_ble_eq_true rfl)) d_CS_expand_16 ⟨Nat.zero_le _, Nat.zero_le _⟩).run) ?_
      refine lv_if_eq (tgt := 46) hx hb d_CS_expand_19 (by decide) (fun c19 => ?_) (fun c19 => ?_)
      · have h := ifp c19 h
        refine lv_iinc (v := x7 + (-1)) (lv' := [(7, .int (x7 + (-1))), (0, .ref (G.2.1 k0)), (1, .ref (G.2.1 k1)), (2, .int x2), (3, .long x3), (5, .long x5)]) hx hb d_CS_expand_46 hl (k := 5) rfl rfl (by decide) rfl (fun ls hl => ?_)
        refine lv_goto (tgt := 8) hx hb d_CS_expand_49 (by decide) ?_
        exact ih k0 k1 x2 x3 x5 (x7 + (-1)) μ _ _ _ hw (lv_sub hl [1, 2, 3, 4, 5, 0] rfl) h
      · have h := ifn c19 h
        refine lv_lload_n hx hb d_CS_expand_22 rfl (lv_at hl 3 rfl) ?_
        refine lv_lload hx hb d_CS_expand_23 (lv_at hl 4 rfl) ?_
        refine lv_aload_n hx hb d_CS_expand_25 rfl (lv_at hl 1 rfl) ?_
        refine lv_iload hx hb d_CS_expand_26 (lv_at hl 5 rfl) ?_
        obtain ⟨v28, hv, h⟩ := bd h
        refine m_laload hx hb hK hw hv d_CS_expand_28 ?_
        refine lv_lmul hx hb d_CS_expand_29 ?_
        refine lv_aload_n hx hb d_CS_expand_30 rfl (lv_at hl 0 rfl) ?_
        refine lv_iload_n hx hb d_CS_expand_31 rfl (lv_at hl 2 rfl) ?_
        refine lv_iconst (v := 1) hx hb d_CS_expand_32 (by decide) ?_
        refine lv_iload hx hb d_CS_expand_33 (lv_at hl 5 rfl) ?_
        refine lv_ishl hx hb d_CS_expand_35 ?_
        refine lv_ixor hx hb d_CS_expand_36 ?_
        obtain ⟨v37, hv, h⟩ := bd h
        refine m_laload hx hb hK hw hv d_CS_expand_37 ?_
        refine lv_lmul hx hb d_CS_expand_38 ?_
        refine lv_ladd hx hb d_CS_expand_39 ?_
        obtain ⟨x3_40, ex3_40, h⟩ := nmx h
        refine m_eql ex3_40 ?_
        refine lv_lstore_n (lv' := [(3, .long x3_40), (0, .ref (G.2.1 k0)), (1, .ref (G.2.1 k1)), (2, .int x2), (5, .long x5), (7, .int x7)]) hx hb d_CS_expand_40 rfl hl (by decide) rfl (fun ls hl => ?_)
        refine lv_lload hx hb d_CS_expand_41 (lv_at hl 4 rfl) ?_
        refine lv_lneg hx hb d_CS_expand_43 ?_
        obtain ⟨x5_44, ex5_44, h⟩ := nmx h
        refine m_eql ex5_44 ?_
        refine lv_lstore (lv' := [(5, .long x5_44), (3, .long x3_40), (0, .ref (G.2.1 k0)), (1, .ref (G.2.1 k1)), (2, .int x2), (7, .int x7)]) hx hb d_CS_expand_44 hl (by decide) rfl (fun ls hl => ?_)
        refine lv_iinc (v := x7 + (-1)) (lv' := [(7, .int (x7 + (-1))), (5, .long x5_44), (3, .long x3_40), (0, .ref (G.2.1 k0)), (1, .ref (G.2.1 k1)), (2, .int x2)]) hx hb d_CS_expand_46 hl (k := 5) rfl rfl (by decide) rfl (fun ls hl => ?_)
        refine lv_goto (tgt := 8) hx hb d_CS_expand_49 (by decide) ?_
        exact ih k0 k1 x2 x3_40 x5_44 (x7 + (-1)) μ _ _ _ hw (lv_sub hl [3, 4, 5, 2, 1, 0] rfl) h
set_option maxRecDepth 100000 in
set_option maxHeartbeats 4000000 in
theorem c_CS_expand (l : Launch) (G : Gw) (N : Nat) (k0 : Nat) (k1 : Nat) (x2 : Int32) (μ : Mem) {r : Int64} {μ' : Mem} (h : M_CS_expand N k0 k1 x2 μ = some (r, μ')) : CT l y_CS_expand ws_CS_expand rm_CS_expand [.ref (G.2.1 k0), .ref (G.2.1 k1), .int x2] G μ (some (.long r)) μ' := by
  refine m_met (cc := prog_2_method_7_code) (maxL := 8) (ret := (some .long)) (by decide) rfl (Nat.le_of_ble_eq_true rfl) ?_
  intro p e s m args below meth c ls C hw hl
  obtain ⟨hx, hb, hr, hml, hown, hts, hlk, hK, hSt⟩ := id C
  have hl : lv_has ls 8 [(0, .ref (G.2.1 k0)), (1, .ref (G.2.1 k1)), (2, .int x2)] := hl
  unfold M_CS_expand at h
  refine lv_lconst (v := 0) hx hb d_CS_expand_0 (by decide) ?_
  refine lv_lstore_n (lv' := [(3, .long (0 : Int64)), (0, .ref (G.2.1 k0)), (1, .ref (G.2.1 k1)), (2, .int x2)]) hx hb d_CS_expand_1 rfl hl (by decide) rfl (fun ls hl => ?_)
  refine lv_lconst (v := 1) hx hb d_CS_expand_2 (by decide) ?_
  refine lv_lstore (lv' := [(5, .long (1 : Int64)), (3, .long (0 : Int64)), (0, .ref (G.2.1 k0)), (1, .ref (G.2.1 k1)), (2, .int x2)]) hx hb d_CS_expand_3 hl (by decide) rfl (fun ls hl => ?_)
  refine lv_iconst (v := 4) hx hb d_CS_expand_5 (by decide) ?_
  refine lv_istore (lv' := [(7, .int (4 : Int32)), (5, .long (1 : Int64)), (3, .long (0 : Int64)), (0, .ref (G.2.1 k0)), (1, .ref (G.2.1 k1)), (2, .int x2)]) hx hb d_CS_expand_6 hl (by decide) rfl (fun ls hl => ?_)
  exact w_CS_expand_8 C N k0 k1 x2 (0 : Int64) (1 : Int64) (4 : Int32) μ _ _ _ hw (lv_sub hl [3, 4, 5, 2, 1, 0] rfl) h
set_option maxRecDepth 100000 in
set_option maxHeartbeats 4000000 in
theorem w_CS_add_29 {r : Int32} {μ' : Mem} {N : Nat} (C : CxA G p s m args meth c prog_2_method_6_code 8 (some .boolean) "RecipePlans$CutSearch" ws_CS_add) : ∀ (n : Nat) (x1 : Int32) (k2 : Nat) (k3 : Nat) (k4 : Nat) (x5 : Int32) (x6 : Int32) (μ : Mem) (H : Heap) (locs : List Loc) (ls : Array Slot), Wk G s μ H locs → lv_has ls 8 [(0, .ref (G.2.1 4)), (1, .int x1), (2, .ref (G.2.1 k2)), (3, .ref (G.2.1 k3)), (4, .ref (G.2.1 k4)), (5, .int x5), (6, .int x6)] → M_CS_add_29 N n x1 k2 k3 k4 x5 x6 μ = some (r, μ') → WA G rm_CS_add p l e s m args below meth c (some (.int r)) μ' H locs 29 ls [] := by
  obtain ⟨hx, hb, hr, hml, hown, hts, hlk, hK, hSt⟩ := id C
  intro n
  induction n with
  | zero =>
    intro x1 k2 k3 k4 x5 x6 μ H locs ls hw hl h
    rw [M_CS_add_29] at h
    cases h
  | succ n ih =>
    intro x1 k2 k3 k4 x5 x6 μ H locs ls hw hl h
    rw [M_CS_add_29] at h
    refine lv_iload hx hb d_CS_add_29 (lv_at hl 6 rfl) ?_
    refine va_getsN (C := "RecipePlans") (n := "STARTS") (d := "[I") hx hb hSt.1.2.1 hw.2.2 hown (va_Nw.use rfl (hSt.2 (.fieldLinkNest "RecipePlans$CutSearch" 114 "RecipePlans" "STARTS" "[I" "RecipePlans") (by decide +kernel))) (fun _ h9 => h9) d_CS_add_31 ?_
    refine lv_iload_n hx hb d_CS_add_34 rfl (lv_at hl 1 rfl) ?_
    refine lv_iconst (v := 2) hx hb d_CS_add_35 (by decide) ?_
    refine lv_iadd hx hb d_CS_add_36 ?_
    obtain ⟨v37, hv, h⟩ := bd h
    refine m_tab hx hb hSt.1.2.2 rfl hw.2.2 hv d_CS_add_37 ?_
    refine lv_icmp_ge (tgt := 92) hx hb d_CS_add_38 (by decide) (fun c38 => ?_) (fun c38 => ?_)
    · have h := ifp c38 h
      refine lv_iload hx hb d_CS_add_92 (lv_at hl 5 rfl) ?_
      exact m_zret hx hb hr hlk hw h d_CS_add_94
    · have h := ifn c38 h
      refine va_getsN (C := "RecipePlans") (n := "SETS") (d := "[I") hx hb hSt.1.1.1 hw.2.2 hown (va_Nw.use rfl (hSt.2 (.fieldLinkNest "RecipePlans$CutSearch" 117 "RecipePlans" "SETS" "[I" "RecipePlans") (by decide +kernel))) (fun _ h9 => h9) d_CS_add_41 ?_
      refine lv_iload hx hb d_CS_add_44 (lv_at hl 6 rfl) ?_
      obtain ⟨v46, hv, h⟩ := bd h
      refine m_tab hx hb hSt.1.1.2 rfl hw.2.2 hv d_CS_add_46 ?_
      refine lv_istore (lv' := [(7, .int v46), (0, .ref (G.2.1 4)), (1, .int x1), (2, .ref (G.2.1 k2)), (3, .ref (G.2.1 k3)), (4, .ref (G.2.1 k4)), (5, .int x5), (6, .int x6)]) hx hb d_CS_add_47 hl (by decide) rfl (fun ls hl => ?_)
      refine lv_aload hx hb d_CS_add_49 (lv_at hl 5 rfl) ?_
      refine lv_iload hx hb d_CS_add_51 (lv_at hl 0 rfl) ?_
      refine lv_aload_n hx hb d_CS_add_53 rfl (lv_at hl 4 rfl) ?_
      refine lv_aload_n hx hb d_CS_add_54 rfl (lv_at hl 3 rfl) ?_
      refine lv_iload hx hb d_CS_add_55 (lv_at hl 0 rfl) ?_
      obtain ⟨r57, μ57, hq, h⟩ := bd2 h
      refine m_call (r := some (.long r57)) (μ1 := μ57) (va_runS (As := [.ref (G.2.1 k3), .ref (G.2.1 k2), .int v46]) (rest := [.int v46, .ref (G.2.1 k4)]) ⟨hx, hb, hml, hown, hts⟩ (c_CS_expand l G N k3 k2 v46 μ hq _) (va_cwS 3 hts (gdS tw_359 tw_360 tw_38 tw_361) rfl rfl rfl (by decide +kernel) ⟨Nat.le_of_ble_eq_true rfl, Nat.le_of_ble_eq_true rfl⟩) (m_preS hK hSt hw) rfl rfl hl.1 rfl (lv_room (Nat.le_of_ble_eq_true rfl)) d_CS_add_57 ⟨Nat.zero_le _, Nat.zero_le _⟩) hw (fun H locs hw => ?_)
      obtain ⟨μ60, hm, h⟩ := bd h
      refine m_lastore hx hb hK hw hm d_CS_add_60 (fun H locs hw => ?_)
      refine lv_aload hx hb d_CS_add_61 (lv_at hl 5 rfl) ?_
      refine lv_iload hx hb d_CS_add_63 (lv_at hl 0 rfl) ?_
      obtain ⟨v65, hv, h⟩ := bd h
      refine m_laload hx hb hK hw hv d_CS_add_65 ?_
      refine lv_lconst (v := 0) hx hb d_CS_add_66 (by decide) ?_
      refine W.lcmp hx hb d_CS_add_67 ?_
      refine lv_if_eq (tgt := 86) hx hb d_CS_add_68 (by decide) (fun c68 => ?_) (fun c68 => ?_)
      · have h := ifp c68 h
        refine lv_iinc (v := x6 + 1) (lv' := [(6, .int (x6 + 1)), (7, .int v46), (0, .ref (G.2.1 4)), (1, .int x1), (2, .ref (G.2.1 k2)), (3, .ref (G.2.1 k3)), (4, .ref (G.2.1 k4)), (5, .int x5)]) hx hb d_CS_add_86 hl (k := 7) rfl rfl (by decide) rfl (fun ls hl => ?_)
        refine lv_goto (tgt := 29) hx hb d_CS_add_89 (by decide) ?_
        exact ih x1 k2 k3 k4 x5 (x6 + 1) μ60 _ _ _ hw (lv_sub hl [2, 3, 4, 5, 6, 7, 0] rfl) h
      · have h := ifn c68 h
        refine lv_iload hx hb d_CS_add_71 (lv_at hl 0 rfl) ?_
        refine lv_aload_n hx hb d_CS_add_73 rfl (lv_at hl 1 rfl) ?_
        refine va_get (D := G.1) (ci := 4) (v := .int (μ60.1 4 9)) (C := "RecipePlans$CutSearch") (T := T_CS) (N := 13) hx hb hts (fun _ h9 => List.mem_cons_of_mem _ (inT_CS _ h9)) hown hK hw.1 4 (WL_get (by decide)) rfl 9 (by decide) (hts _ (List.mem_cons_of_mem _ tw_140)) (fun _ h9 => h9) rfl d_CS_add_74 ?_
        refine lv_iconst (v := -1) hx hb d_CS_add_77 (by decide) ?_
        refine lv_ixor hx hb d_CS_add_78 ?_
        refine lv_iand hx hb d_CS_add_79 ?_
        refine lv_if_ne (tgt := 86) hx hb d_CS_add_80 (by decide) (fun c80 => ?_) (fun c80 => ?_)
        · have h := ifn c80 h
          refine lv_iinc (v := x6 + 1) (lv' := [(6, .int (x6 + 1)), (7, .int v46), (0, .ref (G.2.1 4)), (1, .int x1), (2, .ref (G.2.1 k2)), (3, .ref (G.2.1 k3)), (4, .ref (G.2.1 k4)), (5, .int x5)]) hx hb d_CS_add_86 hl (k := 7) rfl rfl (by decide) rfl (fun ls hl => ?_)
          refine lv_goto (tgt := 29) hx hb d_CS_add_89 (by decide) ?_
          exact ih x1 k2 k3 k4 x5 (x6 + 1) μ60 _ _ _ hw (lv_sub hl [2, 3, 4, 5, 6, 7, 0] rfl) h
        · have h := ifp c80 h
          refine lv_iconst (v := 1) hx hb d_CS_add_83 (by decide) ?_
          refine lv_istore (lv' := [(5, .int (1 : Int32)), (7, .int v46), (0, .ref (G.2.1 4)), (1, .int x1), (2, .ref (G.2.1 k2)), (3, .ref (G.2.1 k3)), (4, .ref (G.2.1 k4)), (6, .int x6)]) hx hb d_CS_add_84 hl (by decide) rfl (fun ls hl => ?_)
          refine lv_iinc (v := x6 + 1) (lv' := [(6, .int (x6 + 1)), (5, .int (1 : Int32)), (7, .int v46), (0, .ref (G.2.1 4)), (1, .int x1), (2, .ref (G.2.1 k2)), (3, .ref (G.2.1 k3)), (4, .ref (G.2.1 k4))]) hx hb d_CS_add_86 hl (k := 7) rfl rfl (by decide) rfl (fun ls hl => ?_)
          refine lv_goto (tgt := 29) hx hb d_CS_add_89 (by decide) ?_
          exact ih x1 k2 k3 k4 (1 : Int32) (x6 + 1) μ60 _ _ _ hw (lv_sub hl [3, 4, 5, 6, 7, 1, 0] rfl) h
set_option maxRecDepth 100000 in
set_option maxHeartbeats 4000000 in
theorem c_CS_add (l : Launch) (G : Gw) (N : Nat) (x1 : Int32) (k2 : Nat) (μ : Mem) {r : Int32} {μ' : Mem} (h : M_CS_add N x1 k2 μ = some (r, μ')) : CT l y_CS_add ws_CS_add rm_CS_add [.ref (G.2.1 4), .int x1, .ref (G.2.1 k2)] G μ (some (.int r)) μ' := by
  refine m_met (cc := prog_2_method_6_code) (maxL := 8) (ret := (some .boolean)) (by decide) rfl (Nat.le_of_ble_eq_true rfl) ?_
  intro p e s m args below meth c ls C hw hl
  obtain ⟨hx, hb, hr, hml, hown, hts, hlk, hK, hSt⟩ := id C
  have hl : lv_has ls 8 [(0, .ref (G.2.1 4)), (1, .int x1), (2, .ref (G.2.1 k2))] := hl
  unfold M_CS_add at h
  refine lv_aload_n hx hb d_CS_add_0 rfl (lv_at hl 0 rfl) ?_
  refine va_get (D := G.1) (ci := 4) (v := .ref (G.2.1 10)) (C := "RecipePlans$CutSearch") (T := T_CS) (N := 13) hx hb hts (fun _ h9 => List.mem_cons_of_mem _ (inT_CS _ h9)) hown hK hw.1 4 (WL_get (by decide)) rfl 3 (by decide) (hts _ (List.mem_cons_of_mem _ tw_134)) (fun _ h9 => h9) rfl d_CS_add_1 ?_
  refine lv_iload_n hx hb d_CS_add_4 rfl (lv_at hl 1 rfl) ?_
  obtain ⟨a5, hv, h⟩ := bd h
  refine m_aaload hx hb hK hw hv d_CS_add_5 ?_
  refine lv_astore_n (lv' := [(3, .ref (G.2.1 a5)), (0, .ref (G.2.1 4)), (1, .int x1), (2, .ref (G.2.1 k2))]) hx hb d_CS_add_6 rfl hl (by decide) rfl (fun ls hl => ?_)
  refine lv_aload_n hx hb d_CS_add_7 rfl (lv_at hl 1 rfl) ?_
  refine va_get (D := G.1) (ci := 4) (v := .ref (G.2.1 10)) (C := "RecipePlans$CutSearch") (T := T_CS) (N := 13) hx hb hts (fun _ h9 => List.mem_cons_of_mem _ (inT_CS _ h9)) hown hK hw.1 4 (WL_get (by decide)) rfl 3 (by decide) (hts _ (List.mem_cons_of_mem _ tw_134)) (fun _ h9 => h9) rfl d_CS_add_8 ?_
  refine lv_iload_n hx hb d_CS_add_11 rfl (lv_at hl 2 rfl) ?_
  refine lv_iconst (v := 1) hx hb d_CS_add_12 (by decide) ?_
  refine lv_iadd hx hb d_CS_add_13 ?_
  obtain ⟨a14, hv, h⟩ := bd h
  refine m_aaload hx hb hK hw hv d_CS_add_14 ?_
  refine lv_astore (lv' := [(4, .ref (G.2.1 a14)), (3, .ref (G.2.1 a5)), (0, .ref (G.2.1 4)), (1, .int x1), (2, .ref (G.2.1 k2))]) hx hb d_CS_add_15 hl (by decide) rfl (fun ls hl => ?_)
  refine lv_iconst (v := 0) hx hb d_CS_add_17 (by decide) ?_
  refine lv_istore (lv' := [(5, .int (0 : Int32)), (4, .ref (G.2.1 a14)), (3, .ref (G.2.1 a5)), (0, .ref (G.2.1 4)), (1, .int x1), (2, .ref (G.2.1 k2))]) hx hb d_CS_add_18 hl (by decide) rfl (fun ls hl => ?_)
  refine va_getsN (C := "RecipePlans") (n := "STARTS") (d := "[I") hx hb hSt.1.2.1 hw.2.2 hown (va_Nw.use rfl (hSt.2 (.fieldLinkNest "RecipePlans$CutSearch" 114 "RecipePlans" "STARTS" "[I" "RecipePlans") (by decide +kernel))) (fun _ h9 => h9) d_CS_add_20 ?_
  refine lv_iload_n hx hb d_CS_add_23 rfl (lv_at hl 4 rfl) ?_
  refine lv_iconst (v := 1) hx hb d_CS_add_24 (by decide) ?_
  refine lv_iadd hx hb d_CS_add_25 ?_
  obtain ⟨v26, hv, h⟩ := bd h
  refine m_tab hx hb hSt.1.2.2 rfl hw.2.2 hv d_CS_add_26 ?_
  refine lv_istore (lv' := [(6, .int v26), (5, .int (0 : Int32)), (4, .ref (G.2.1 a14)), (3, .ref (G.2.1 a5)), (0, .ref (G.2.1 4)), (1, .int x1), (2, .ref (G.2.1 k2))]) hx hb d_CS_add_27 hl (by decide) rfl (fun ls hl => ?_)
  exact w_CS_add_29 C N x1 k2 a5 a14 (0 : Int32) v26 μ _ _ _ hw (lv_sub hl [4, 5, 6, 3, 2, 1, 0] rfl) h
set_option maxRecDepth 100000 in
set_option maxHeartbeats 4000000 in
theorem c_CS_addBoth (l : Launch) (G : Gw) (N : Nat) (x1 : Int32) (x2 : Int32) (μ : Mem) {r : Int32} {μ' : Mem} (h : M_CS_addBoth N x1 x2 μ = some (r, μ')) : CT l y_CS_addBoth ws_CS_addBoth rm_CS_addBoth [.ref (G.2.1 4), .int x1, .int x2] G μ (some (.int r)) μ' := by
  refine m_met (cc := prog_2_method_5_code) (maxL := 3) (ret := (some .boolean)) (by decide) rfl (Nat.le_of_ble_eq_true rfl) ?_
  intro p e s m args below meth c ls C hw hl
  obtain ⟨hx, hb, hr, hml, hown, hts, hlk, hK, hSt⟩ := id C
  have hl : lv_has ls 3 [(0, .ref (G.2.1 4)), (1, .int x1), (2, .int x2)] := hl
  unfold M_CS_addBoth at h
  refine lv_aload_n hx hb d_CS_addBoth_0 rfl (lv_at hl 0 rfl) ?_
  refine va_get (D := G.1) (ci := 4) (v := .ref (G.2.1 2)) (C := "RecipePlans$CutSearch") (T := T_CS) (N := 13) hx hb hts (fun _ h9 => List.mem_cons_of_mem _ (inT_CS _ h9)) hown hK hw.1 4 (WL_get (by decide)) rfl 1 (by decide) (hts _ (List.mem_cons_of_mem _ tw_132)) (fun _ h9 => h9) rfl d_CS_addBoth_1 ?_
  refine va_get (D := G.1) (ci := 2) (v := .ref (G.2.1 19)) (C := "RecipePlans$Rules") (T := T_Ru) (N := 6) hx hb hts (fun _ h9 => List.mem_cons_of_mem _ (inT_Ru _ h9)) hown hK hw.1 2 (WL_get (by decide)) rfl 2 (by decide) (hts _ (List.mem_cons_of_mem _ tw_91)) (fun _ h9 => h9) rfl d_CS_addBoth_4 ?_
  refine lv_iload_n hx hb d_CS_addBoth_7 rfl (lv_at hl 2 rfl) ?_
  obtain ⟨v8, hv, h⟩ := bd h
  refine m_iaload hx hb hK hw hv d_CS_addBoth_8 ?_
  refine lv_bipush (v := 6) hx hb d_CS_addBoth_9 (by decide) ?_
  refine lv_icmp_eq (tgt := 77) hx hb d_CS_addBoth_11 (by decide) (fun c11 => ?_) (fun c11 => ?_)
  · have h := ifp c11 h
    refine lv_iconst (v := 0) hx hb d_CS_addBoth_77 (by decide) ?_
    exact m_zret hx hb hr hlk hw h d_CS_addBoth_78
  · have h := ifn c11 h
    refine lv_iload_n hx hb d_CS_addBoth_14 rfl (lv_at hl 1 rfl) ?_
    refine lv_iconst (v := 2) hx hb d_CS_addBoth_15 (by decide) ?_
    refine lv_iadd hx hb d_CS_addBoth_16 ?_
    refine lv_iconst (v := 4) hx hb d_CS_addBoth_17 (by decide) ?_
    refine lv_icmp_gt (tgt := 77) hx hb d_CS_addBoth_18 (by decide) (fun c18 => ?_) (fun c18 => ?_)
    · have h := ifp c18 h
      refine lv_iconst (v := 0) hx hb d_CS_addBoth_77 (by decide) ?_
      exact m_zret hx hb hr hlk hw h d_CS_addBoth_78
    · have h := ifn c18 h
      refine lv_aload_n hx hb d_CS_addBoth_21 rfl (lv_at hl 0 rfl) ?_
      refine lv_iload_n hx hb d_CS_addBoth_22 rfl (lv_at hl 1 rfl) ?_
      refine lv_aload_n hx hb d_CS_addBoth_23 rfl (lv_at hl 0 rfl) ?_
      refine va_get (D := G.1) (ci := 4) (v := .ref (G.2.1 1)) (C := "RecipePlans$CutSearch") (T := T_CS) (N := 13) hx hb hts (fun _ h9 => List.mem_cons_of_mem _ (inT_CS _ h9)) hown hK hw.1 4 (WL_get (by decide)) rfl 0 (by decide) (hts _ (List.mem_cons_of_mem _ tw_131)) (fun _ h9 => h9) rfl d_CS_addBoth_24 ?_
      refine va_get (D := G.1) (ci := 1) (v := .ref (G.2.1 8)) (C := "RecipePlans$Lots") (T := T_Lo) (N := 4) hx hb hts (fun _ h9 => List.mem_cons_of_mem _ (inT_Lo _ h9)) hown hK hw.1 1 (WL_get (by decide)) rfl 3 (by decide) (hts _ (List.mem_cons_of_mem _ tw_70)) (fun _ h9 => h9) rfl d_CS_addBoth_27 ?_
      refine lv_aload_n hx hb d_CS_addBoth_30 rfl (lv_at hl 0 rfl) ?_
      refine va_get (D := G.1) (ci := 4) (v := .ref (G.2.1 2)) (C := "RecipePlans$CutSearch") (T := T_CS) (N := 13) hx hb hts (fun _ h9 => List.mem_cons_of_mem _ (inT_CS _ h9)) hown hK hw.1 4 (WL_get (by decide)) rfl 1 (by decide) (hts _ (List.mem_cons_of_mem _ tw_132)) (fun _ h9 => h9) rfl d_CS_addBoth_31 ?_
      refine va_get (D := G.1) (ci := 2) (v := .ref (G.2.1 18)) (C := "RecipePlans$Rules") (T := T_Ru) (N := 6) hx hb hts (fun _ h9 => List.mem_cons_of_mem _ (inT_Ru _ h9)) hown hK hw.1 2 (WL_get (by decide)) rfl 1 (by decide) (hts _ (List.mem_cons_of_mem _ tw_88)) (fun _ h9 => h9) rfl d_CS_addBoth_34 ?_
      refine lv_iload_n hx hb d_CS_addBoth_37 rfl (lv_at hl 2 rfl) ?_
      obtain ⟨v38, hv, h⟩ := bd h
      refine m_iaload hx hb hK hw hv d_CS_addBoth_38 ?_
      obtain ⟨a39, hv, h⟩ := bd h
      refine m_aaload hx hb hK hw hv d_CS_addBoth_39 ?_
      obtain ⟨r40, μ40, hq, h⟩ := bd2 h
      refine m_call (r := some (.int r40)) (μ1 := μ40) (va_runV (C := "RecipePlans$CutSearch") (As := [.int x1, .ref (G.2.1 a39)]) (rest := []) ⟨hx, hb, hml, hown, hts⟩ (c_CS_add l G N x1 a39 μ hq _) (cwV 2 hts (gdV tw_356 tw_357 tw_7 tw_38 tw_358) rfl rfl rfl (by decide +kernel) ⟨Nat.le_of_ble_eq_true rfl, Nat.le_of_ble_eq_true rfl⟩) (m_preV (k := 4) (by decide) rfl hK hSt hw) rfl rfl hl.1 rfl (lv_room (Nat.le_of_ble_eq_true rfl)) d_CS_addBoth_40 ⟨Nat.zero_le _, Nat.zero_le _⟩) hw (fun H locs hw => ?_)
      refine lv_if_eq (tgt := 77) hx hb d_CS_addBoth_43 (by decide) (fun c43 => ?_) (fun c43 => ?_)
      · have h := ifp c43 h
        refine lv_iconst (v := 0) hx hb d_CS_addBoth_77 (by decide) ?_
        exact m_zret hx hb hr hlk hw h d_CS_addBoth_78
      · have h := ifn c43 h
        refine lv_aload_n hx hb d_CS_addBoth_46 rfl (lv_at hl 0 rfl) ?_
        refine lv_iload_n hx hb d_CS_addBoth_47 rfl (lv_at hl 1 rfl) ?_
        refine lv_iconst (v := 1) hx hb d_CS_addBoth_48 (by decide) ?_
        refine lv_iadd hx hb d_CS_addBoth_49 ?_
        refine lv_aload_n hx hb d_CS_addBoth_50 rfl (lv_at hl 0 rfl) ?_
        refine va_get (D := G.1) (ci := 4) (v := .ref (G.2.1 1)) (C := "RecipePlans$CutSearch") (T := T_CS) (N := 13) hx hb hts (fun _ h9 => List.mem_cons_of_mem _ (inT_CS _ h9)) hown hK hw.1 4 (WL_get (by decide)) rfl 0 (by decide) (hts _ (List.mem_cons_of_mem _ tw_131)) (fun _ h9 => h9) rfl d_CS_addBoth_51 ?_
        refine va_get (D := G.1) (ci := 1) (v := .ref (G.2.1 8)) (C := "RecipePlans$Lots") (T := T_Lo) (N := 4) hx hb hts (fun _ h9 => List.mem_cons_of_mem _ (inT_Lo _ h9)) hown hK hw.1 1 (WL_get (by decide)) rfl 3 (by decide) (hts _ (List.mem_cons_of_mem _ tw_70)) (fun _ h9 => h9) rfl d_CS_addBoth_54 ?_
        refine lv_aload_n hx hb d_CS_addBoth_57 rfl (lv_at hl 0 rfl) ?_
        refine va_get (D := G.1) (ci := 4) (v := .ref (G.2.1 2)) (C := "RecipePlans$CutSearch") (T := T_CS) (N := 13) hx hb hts (fun _ h9 => List.mem_cons_of_mem _ (inT_CS _ h9)) hown hK hw.1 4 (WL_get (by decide)) rfl 1 (by decide) (hts _ (List.mem_cons_of_mem _ tw_132)) (fun _ h9 => h9) rfl d_CS_addBoth_58 ?_
        refine va_get (D := G.1) (ci := 2) (v := .ref (G.2.1 19)) (C := "RecipePlans$Rules") (T := T_Ru) (N := 6) hx hb hts (fun _ h9 => List.mem_cons_of_mem _ (inT_Ru _ h9)) hown hK hw.1 2 (WL_get (by decide)) rfl 2 (by decide) (hts _ (List.mem_cons_of_mem _ tw_91)) (fun _ h9 => h9) rfl d_CS_addBoth_61 ?_
        refine lv_iload_n hx hb d_CS_addBoth_64 rfl (lv_at hl 2 rfl) ?_
        obtain ⟨v65, hv, h⟩ := bd h
        refine m_iaload hx hb hK hw hv d_CS_addBoth_65 ?_
        obtain ⟨a66, hv, h⟩ := bd h
        refine m_aaload hx hb hK hw hv d_CS_addBoth_66 ?_
        obtain ⟨r67, μ67, hq, h⟩ := bd2 h
        refine m_call (r := some (.int r67)) (μ1 := μ67) (va_runV (C := "RecipePlans$CutSearch") (As := [.int (x1 + (1 : Int32)), .ref (G.2.1 a66)]) (rest := []) ⟨hx, hb, hml, hown, hts⟩ (c_CS_add l G N (x1 + (1 : Int32)) a66 μ40 hq _) (cwV 2 hts (gdV tw_356 tw_357 tw_7 tw_38 tw_358) rfl rfl rfl (by decide +kernel) ⟨Nat.le_of_ble_eq_true rfl, Nat.le_of_ble_eq_true rfl⟩) (m_preV (k := 4) (by decide) rfl hK hSt hw) rfl rfl hl.1 rfl (lv_room (Nat.le_of_ble_eq_true rfl)) d_CS_addBoth_67 ⟨Nat.zero_le _, Nat.zero_le _⟩) hw (fun H locs hw => ?_)
        refine lv_if_eq (tgt := 77) hx hb d_CS_addBoth_70 (by decide) (fun c70 => ?_) (fun c70 => ?_)
        · have h := ifp c70 h
          refine lv_iconst (v := 0) hx hb d_CS_addBoth_77 (by decide) ?_
          exact m_zret hx hb hr hlk hw h d_CS_addBoth_78
        · have h := ifn c70 h
          refine lv_iconst (v := 1) hx hb d_CS_addBoth_73 (by decide) ?_
          refine lv_goto (tgt := 78) hx hb d_CS_addBoth_74 (by decide) ?_
          exact m_zret hx hb hr hlk hw h d_CS_addBoth_78
set_option maxRecDepth 100000 in
set_option maxHeartbeats 4000000 in
theorem w_CS_tighten_134 {μ' : Mem} {N : Nat} {d : Nat} (C : CxA G p s m args meth c prog_2_method_4_code 5 none "RecipePlans$CutSearch" ws_CS_tighten) {T_CS_tighten : Int32 → Int32 → Mem → Option Mem} (hT_T_CS_tighten : ∀ (x1 x2 : Int32) (μ : Mem) {μ1 : Mem}, T_CS_tighten x1 x2 μ = some μ1 → CT l y_CS_tighten ws_CS_tighten (rm_CS_tighten d) [.ref (G.2.1 4), .int x1, .int x2] G μ none μ1) {K21 : Int32 → Int32 → Mem → Option Mem} (hK21 : ∀ (x2 : Int32) (x3 : Int32) (μ : Mem) (H : Heap) (locs : List Loc) (ls : Array Slot), Wk G s μ H locs → lv_has ls 5 [(0, .ref (G.2.1 4)), (2, .int x2), (3, .int x3)] → K21 x2 x3 μ = some μ' → WA G (rm_CS_tighten (d + 1)) p l e s m args below meth c none μ' H locs 21 ls []) : ∀ (x2 : Int32) (x3 : Int32) (x4 : Int32) (μ : Mem) (H : Heap) (locs : List Loc) (ls : Array Slot), Wk G s μ H locs → lv_has ls 5 [(0, .ref (G.2.1 4)), (2, .int x2), (3, .int x3), (4, .int x4)] → M_CS_tighten_134 N T_CS_tighten K21 x2 x3 x4 μ = some μ' → WA G (rm_CS_tighten (d + 1)) p l e s m args below meth c none μ' H locs 134 ls [] := by
  obtain ⟨hx, hb, hr, hml, hown, hts, hlk, hK, hSt⟩ := id C
  intro x2 x3 x4 μ H locs ls hw hl h
  unfold M_CS_tighten_134 at h
  refine lv_aload_n hx hb d_CS_tighten_134 rfl (lv_at hl 0 rfl) ?_
  refine lv_iload_n hx hb d_CS_tighten_135 rfl (lv_at hl 1 rfl) ?_
  refine lv_iload hx hb d_CS_tighten_136 (lv_at hl 3 rfl) ?_
  obtain ⟨r138, μ138, hq, h⟩ := bd2 h
  refine m_call (r := some (.int r138)) (μ1 := μ138) (va_runV (C := "RecipePlans$CutSearch") (As := [.int x2, .int x4]) (rest := []) ⟨hx, hb, hml, hown, hts⟩ (c_CS_addBoth l G N x2 x4 μ hq _) (cwV 2 hts (gdV tw_362 tw_363 tw_8 tw_38 tw_364) rfl rfl rfl (by decide +kernel) ⟨by dsimp only [rm_CS_tighten, rm_CS_addBoth]; omega, by dsimp only [rm_CS_tighten, rm_CS_addBoth]; omega⟩) (m_preV (k := 4) (by decide) rfl hK hSt hw) rfl rfl hl.1 rfl (lv_room (Nat.le_of_ble_eq_true rfl)) d_CS_tighten_138 ⟨Nat.zero_le _, Nat.zero_le _⟩) hw (fun H locs hw => ?_)
  refine lv_if_eq (tgt := 154) hx hb d_CS_tighten_141 (by decide) (fun c141 => ?_) (fun c141 => ?_)
  · have h := ifp c141 h
    refine lv_iinc (v := x3 + 1) (lv' := [(3, .int (x3 + 1)), (0, .ref (G.2.1 4)), (2, .int x2), (4, .int x4)]) hx hb d_CS_tighten_154 hl (k := 2) rfl rfl (by decide) rfl (fun ls hl => ?_)
    refine lv_goto (tgt := 21) hx hb d_CS_tighten_157 (by decide) ?_
    exact hK21 x2 (x3 + 1) μ138 _ _ _ hw (lv_sub hl [1, 2, 0] rfl) h
  · have h := ifn c141 h
    refine lv_aload_n hx hb d_CS_tighten_144 rfl (lv_at hl 0 rfl) ?_
    refine lv_iload_n hx hb d_CS_tighten_145 rfl (lv_at hl 2 rfl) ?_
    refine lv_iconst (v := 1) hx hb d_CS_tighten_146 (by decide) ?_
    refine lv_iadd hx hb d_CS_tighten_147 ?_
    refine lv_iload_n hx hb d_CS_tighten_148 rfl (lv_at hl 1 rfl) ?_
    refine lv_iconst (v := 2) hx hb d_CS_tighten_149 (by decide) ?_
    refine lv_iadd hx hb d_CS_tighten_150 ?_
    obtain ⟨μ151, hq, h⟩ := bd h
    refine m_call (r := none) (μ1 := μ151) (va_runV (C := "RecipePlans$CutSearch") (As := [.int (x3 + (1 : Int32)), .int (x2 + (2 : Int32))]) (rest := []) ⟨hx, hb, hml, hown, hts⟩ (hT_T_CS_tighten (x3 + (1 : Int32)) (x2 + (2 : Int32)) μ138 hq _) (cwV 2 hts (gdV tw_312 tw_313 tw_2 tw_38 tw_314) rfl rfl rfl (by decide +kernel) ⟨by dsimp only [rm_CS_tighten]; omega, by dsimp only [rm_CS_tighten]; omega⟩) (m_preV (k := 4) (by decide) rfl hK hSt hw) rfl rfl hl.1 rfl (lv_room (Nat.le_of_ble_eq_true rfl)) d_CS_tighten_151 ⟨Nat.zero_le _, Nat.zero_le _⟩) hw (fun H locs hw => ?_)
    refine lv_iinc (v := x3 + 1) (lv' := [(3, .int (x3 + 1)), (0, .ref (G.2.1 4)), (2, .int x2), (4, .int x4)]) hx hb d_CS_tighten_154 hl (k := 2) rfl rfl (by decide) rfl (fun ls hl => ?_)
    refine lv_goto (tgt := 21) hx hb d_CS_tighten_157 (by decide) ?_
    exact hK21 x2 (x3 + 1) μ151 _ _ _ hw (lv_sub hl [1, 2, 0] rfl) h
set_option maxRecDepth 100000 in
set_option maxHeartbeats 4000000 in
theorem w_CS_tighten_77 {μ' : Mem} {N : Nat} {d : Nat} (C : CxA G p s m args meth c prog_2_method_4_code 5 none "RecipePlans$CutSearch" ws_CS_tighten) {T_CS_tighten : Int32 → Int32 → Mem → Option Mem} (hT_T_CS_tighten : ∀ (x1 x2 : Int32) (μ : Mem) {μ1 : Mem}, T_CS_tighten x1 x2 μ = some μ1 → CT l y_CS_tighten ws_CS_tighten (rm_CS_tighten d) [.ref (G.2.1 4), .int x1, .int x2] G μ none μ1) {K21 : Int32 → Int32 → Mem → Option Mem} (hK21 : ∀ (x2 : Int32) (x3 : Int32) (μ : Mem) (H : Heap) (locs : List Loc) (ls : Array Slot), Wk G s μ H locs → lv_has ls 5 [(0, .ref (G.2.1 4)), (2, .int x2), (3, .int x3)] → K21 x2 x3 μ = some μ' → WA G (rm_CS_tighten (d + 1)) p l e s m args below meth c none μ' H locs 21 ls []) : ∀ (x2 : Int32) (x3 : Int32) (x4 : Int32) (μ : Mem) (H : Heap) (locs : List Loc) (ls : Array Slot), Wk G s μ H locs → lv_has ls 5 [(0, .ref (G.2.1 4)), (2, .int x2), (3, .int x3), (4, .int x4)] → M_CS_tighten_77 N T_CS_tighten K21 x2 x3 x4 μ = some μ' → WA G (rm_CS_tighten (d + 1)) p l e s m args below meth c none μ' H locs 77 ls [] := by
  obtain ⟨hx, hb, hr, hml, hown, hts, hlk, hK, hSt⟩ := id C
  intro x2 x3 x4 μ H locs ls hw hl h
  unfold M_CS_tighten_77 at h
  refine lv_aload_n hx hb d_CS_tighten_77 rfl (lv_at hl 0 rfl) ?_
  refine va_get (D := G.1) (ci := 4) (v := .ref (G.2.1 2)) (C := "RecipePlans$CutSearch") (T := T_CS) (N := 13) hx hb hts (fun _ h9 => List.mem_cons_of_mem _ (inT_CS _ h9)) hown hK hw.1 4 (WL_get (by decide)) rfl 1 (by decide) (hts _ (List.mem_cons_of_mem _ tw_132)) (fun _ h9 => h9) rfl d_CS_tighten_78 ?_
  refine va_get (D := G.1) (ci := 2) (v := .ref (G.2.1 20)) (C := "RecipePlans$Rules") (T := T_Ru) (N := 6) hx hb hts (fun _ h9 => List.mem_cons_of_mem _ (inT_Ru _ h9)) hown hK hw.1 2 (WL_get (by decide)) rfl 3 (by decide) (hts _ (List.mem_cons_of_mem _ tw_94)) (fun _ h9 => h9) rfl d_CS_tighten_81 ?_
  refine lv_iload hx hb d_CS_tighten_84 (lv_at hl 3 rfl) ?_
  obtain ⟨v86, hv, h⟩ := bd h
  refine m_iaload hx hb hK hw hv d_CS_tighten_86 ?_
  refine lv_aload_n hx hb d_CS_tighten_87 rfl (lv_at hl 0 rfl) ?_
  refine va_get (D := G.1) (ci := 4) (v := .ref (G.2.1 2)) (C := "RecipePlans$CutSearch") (T := T_CS) (N := 13) hx hb hts (fun _ h9 => List.mem_cons_of_mem _ (inT_CS _ h9)) hown hK hw.1 4 (WL_get (by decide)) rfl 1 (by decide) (hts _ (List.mem_cons_of_mem _ tw_132)) (fun _ h9 => h9) rfl d_CS_tighten_88 ?_
  refine va_get (D := G.1) (ci := 2) (v := .ref (G.2.1 21)) (C := "RecipePlans$Rules") (T := T_Ru) (N := 6) hx hb hts (fun _ h9 => List.mem_cons_of_mem _ (inT_Ru _ h9)) hown hK hw.1 2 (WL_get (by decide)) rfl 4 (by decide) (hts _ (List.mem_cons_of_mem _ tw_97)) (fun _ h9 => h9) rfl d_CS_tighten_91 ?_
  refine lv_iload hx hb d_CS_tighten_94 (lv_at hl 3 rfl) ?_
  obtain ⟨v96, hv, h⟩ := bd h
  refine m_iaload hx hb hK hw hv d_CS_tighten_96 ?_
  refine lv_icmp_ne (tgt := 103) hx hb d_CS_tighten_97 (by decide) (fun c97 => ?_) (fun c97 => ?_)
  · have h := ifn c97 h
    refine lv_aload_n hx hb d_CS_tighten_103 rfl (lv_at hl 0 rfl) ?_
    refine lv_iload_n hx hb d_CS_tighten_104 rfl (lv_at hl 1 rfl) ?_
    refine lv_aload_n hx hb d_CS_tighten_105 rfl (lv_at hl 0 rfl) ?_
    refine va_get (D := G.1) (ci := 4) (v := .ref (G.2.1 3)) (C := "RecipePlans$CutSearch") (T := T_CS) (N := 13) hx hb hts (fun _ h9 => List.mem_cons_of_mem _ (inT_CS _ h9)) hown hK hw.1 4 (WL_get (by decide)) rfl 2 (by decide) (hts _ (List.mem_cons_of_mem _ tw_133)) (fun _ h9 => h9) rfl d_CS_tighten_106 ?_
    refine va_get (D := G.1) (ci := 3) (v := .ref (G.2.1 9)) (C := "RecipePlans$Sides") (T := T_Si) (N := 3) hx hb hts (fun _ h9 => List.mem_cons_of_mem _ (inT_Si _ h9)) hown hK hw.1 3 (WL_get (by decide)) rfl 2 (by decide) (hts _ (List.mem_cons_of_mem _ tw_120)) (fun _ h9 => h9) rfl d_CS_tighten_109 ?_
    refine lv_iconst (v := 2) hx hb d_CS_tighten_112 (by decide) ?_
    refine lv_iload_n hx hb d_CS_tighten_113 rfl (lv_at hl 2 rfl) ?_
    refine lv_imul hx hb d_CS_tighten_114 ?_
    refine lv_iconst (v := 1) hx hb d_CS_tighten_115 (by decide) ?_
    refine lv_iadd hx hb d_CS_tighten_116 ?_
    obtain ⟨a117, hv, h⟩ := bd h
    refine m_aaload hx hb hK hw hv d_CS_tighten_117 ?_
    obtain ⟨r118, μ118, hq, h⟩ := bd2 h
    refine m_call (r := some (.int r118)) (μ1 := μ118) (va_runV (C := "RecipePlans$CutSearch") (As := [.int x2, .ref (G.2.1 a117)]) (rest := []) ⟨hx, hb, hml, hown, hts⟩ (c_CS_add l G N x2 a117 μ hq _) (cwV 2 hts (gdV tw_356 tw_357 tw_7 tw_38 tw_358) rfl rfl rfl (by decide +kernel) ⟨by dsimp only [rm_CS_tighten, rm_CS_add]; omega, by dsimp only [rm_CS_tighten, rm_CS_add]; omega⟩) (m_preV (k := 4) (by decide) rfl hK hSt hw) rfl rfl hl.1 rfl (lv_room (Nat.le_of_ble_eq_true rfl)) d_CS_tighten_118 ⟨Nat.zero_le _, Nat.zero_le _⟩) hw (fun H locs hw => ?_)
    refine lv_if_eq (tgt := 134) hx hb d_CS_tighten_121 (by decide) (fun c121 => ?_) (fun c121 => ?_)
    · have h := ifp c121 h
      exact w_CS_tighten_134 C hT_T_CS_tighten hK21 x2 x3 x4 μ118 _ _ _ hw hl h
    · have h := ifn c121 h
      refine lv_aload_n hx hb d_CS_tighten_124 rfl (lv_at hl 0 rfl) ?_
      refine lv_iload_n hx hb d_CS_tighten_125 rfl (lv_at hl 2 rfl) ?_
      refine lv_iconst (v := 1) hx hb d_CS_tighten_126 (by decide) ?_
      refine lv_iadd hx hb d_CS_tighten_127 ?_
      refine lv_iload_n hx hb d_CS_tighten_128 rfl (lv_at hl 1 rfl) ?_
      refine lv_iconst (v := 1) hx hb d_CS_tighten_129 (by decide) ?_
      refine lv_iadd hx hb d_CS_tighten_130 ?_
      obtain ⟨μ131, hq, h⟩ := bd h
      refine m_call (r := none) (μ1 := μ131) (va_runV (C := "RecipePlans$CutSearch") (As := [.int (x3 + (1 : Int32)), .int (x2 + (1 : Int32))]) (rest := []) ⟨hx, hb, hml, hown, hts⟩ (hT_T_CS_tighten (x3 + (1 : Int32)) (x2 + (1 : Int32)) μ118 hq _) (cwV 2 hts (gdV tw_312 tw_313 tw_2 tw_38 tw_314) rfl rfl rfl (by decide +kernel) ⟨by dsimp only [rm_CS_tighten]; omega, by dsimp only [rm_CS_tighten]; omega⟩) (m_preV (k := 4) (by decide) rfl hK hSt hw) rfl rfl hl.1 rfl (lv_room (Nat.le_of_ble_eq_true rfl)) d_CS_tighten_131 ⟨Nat.zero_le _, Nat.zero_le _⟩) hw (fun H locs hw => ?_)
      exact w_CS_tighten_134 C hT_T_CS_tighten hK21 x2 x3 x4 μ131 _ _ _ hw hl h
  · have h := ifp c97 h
    refine lv_goto (tgt := 154) hx hb d_CS_tighten_100 (by decide) ?_
    refine lv_iinc (v := x3 + 1) (lv' := [(3, .int (x3 + 1)), (0, .ref (G.2.1 4)), (2, .int x2), (4, .int x4)]) hx hb d_CS_tighten_154 hl (k := 2) rfl rfl (by decide) rfl (fun ls hl => ?_)
    refine lv_goto (tgt := 21) hx hb d_CS_tighten_157 (by decide) ?_
    exact hK21 x2 (x3 + 1) μ _ _ _ hw (lv_sub hl [1, 2, 0] rfl) h
set_option maxRecDepth 100000 in
set_option maxHeartbeats 4000000 in
theorem w_CS_tighten_21 {μ' : Mem} {N : Nat} {d : Nat} (C : CxA G p s m args meth c prog_2_method_4_code 5 none "RecipePlans$CutSearch" ws_CS_tighten) {T_CS_tighten : Int32 → Int32 → Mem → Option Mem} (hT_T_CS_tighten : ∀ (x1 x2 : Int32) (μ : Mem) {μ1 : Mem}, T_CS_tighten x1 x2 μ = some μ1 → CT l y_CS_tighten ws_CS_tighten (rm_CS_tighten d) [.ref (G.2.1 4), .int x1, .int x2] G μ none μ1) : ∀ (n : Nat) (x2 : Int32) (x3 : Int32) (μ : Mem) (H : Heap) (locs : List Loc) (ls : Array Slot), Wk G s μ H locs → lv_has ls 5 [(0, .ref (G.2.1 4)), (2, .int x2), (3, .int x3)] → M_CS_tighten_21 N T_CS_tighten n x2 x3 μ = some μ' → WA G (rm_CS_tighten (d + 1)) p l e s m args below meth c none μ' H locs 21 ls [] := by
  obtain ⟨hx, hb, hr, hml, hown, hts, hlk, hK, hSt⟩ := id C
  intro n
  induction n with
  | zero =>
    intro x2 x3 μ H locs ls hw hl h
    rw [M_CS_tighten_21] at h
    cases h
  | succ n ih =>
    intro x2 x3 μ H locs ls hw hl h
    rw [M_CS_tighten_21] at h
    refine lv_iload_n hx hb d_CS_tighten_21 rfl (lv_at hl 2 rfl) ?_
    refine lv_aload_n hx hb d_CS_tighten_22 rfl (lv_at hl 0 rfl) ?_
    refine va_get (D := G.1) (ci := 4) (v := .ref (G.2.1 3)) (C := "RecipePlans$CutSearch") (T := T_CS) (N := 13) hx hb hts (fun _ h9 => List.mem_cons_of_mem _ (inT_CS _ h9)) hown hK hw.1 4 (WL_get (by decide)) rfl 2 (by decide) (hts _ (List.mem_cons_of_mem _ tw_133)) (fun _ h9 => h9) rfl d_CS_tighten_23 ?_
    refine va_get (D := G.1) (ci := 3) (v := .int (μ.1 3 0)) (C := "RecipePlans$Sides") (T := T_Si) (N := 3) hx hb hts (fun _ h9 => List.mem_cons_of_mem _ (inT_Si _ h9)) hown hK hw.1 3 (WL_get (by decide)) rfl 0 (by decide) (hts _ (List.mem_cons_of_mem _ tw_115)) (fun _ h9 => h9) rfl d_CS_tighten_26 ?_
    refine lv_icmp_ge (tgt := 160) hx hb d_CS_tighten_29 (by decide) (fun c29 => ?_) (fun c29 => ?_)
    · have h := ifp c29 h
      exact m_vret hx hb hr hlk hw h d_CS_tighten_160
    · have h := ifn c29 h
      refine lv_iload_n hx hb d_CS_tighten_32 rfl (lv_at hl 1 rfl) ?_
      refine lv_iconst (v := 4) hx hb d_CS_tighten_33 (by decide) ?_
      refine lv_icmp_ge (tgt := 160) hx hb d_CS_tighten_34 (by decide) (fun c34 => ?_) (fun c34 => ?_)
      · have h := ifp c34 h
        exact m_vret hx hb hr hlk hw h d_CS_tighten_160
      · have h := ifn c34 h
        refine lv_aload_n hx hb d_CS_tighten_37 rfl (lv_at hl 0 rfl) ?_
        refine va_get (D := G.1) (ci := 4) (v := .ref (G.2.1 3)) (C := "RecipePlans$CutSearch") (T := T_CS) (N := 13) hx hb hts (fun _ h9 => List.mem_cons_of_mem _ (inT_CS _ h9)) hown hK hw.1 4 (WL_get (by decide)) rfl 2 (by decide) (hts _ (List.mem_cons_of_mem _ tw_133)) (fun _ h9 => h9) rfl d_CS_tighten_38 ?_
        refine va_get (D := G.1) (ci := 3) (v := .ref (G.2.1 23)) (C := "RecipePlans$Sides") (T := T_Si) (N := 3) hx hb hts (fun _ h9 => List.mem_cons_of_mem _ (inT_Si _ h9)) hown hK hw.1 3 (WL_get (by decide)) rfl 1 (by decide) (hts _ (List.mem_cons_of_mem _ tw_117)) (fun _ h9 => h9) rfl d_CS_tighten_41 ?_
        refine lv_iload_n hx hb d_CS_tighten_44 rfl (lv_at hl 2 rfl) ?_
        obtain ⟨v45, hv, h⟩ := bd h
        refine m_iaload hx hb hK hw hv d_CS_tighten_45 ?_
        refine lv_istore (lv' := [(4, .int v45), (0, .ref (G.2.1 4)), (2, .int x2), (3, .int x3)]) hx hb d_CS_tighten_46 hl (by decide) rfl (fun ls hl => ?_)
        refine lv_aload_n hx hb d_CS_tighten_48 rfl (lv_at hl 1 rfl) ?_
        refine lv_iload_n hx hb d_CS_tighten_49 rfl (lv_at hl 2 rfl) ?_
        refine lv_aload_n hx hb d_CS_tighten_50 rfl (lv_at hl 1 rfl) ?_
        refine va_get (D := G.1) (ci := 4) (v := .ref (G.2.1 3)) (C := "RecipePlans$CutSearch") (T := T_CS) (N := 13) hx hb hts (fun _ h9 => List.mem_cons_of_mem _ (inT_CS _ h9)) hown hK hw.1 4 (WL_get (by decide)) rfl 2 (by decide) (hts _ (List.mem_cons_of_mem _ tw_133)) (fun _ h9 => h9) rfl d_CS_tighten_51 ?_
        refine va_get (D := G.1) (ci := 3) (v := .ref (G.2.1 9)) (C := "RecipePlans$Sides") (T := T_Si) (N := 3) hx hb hts (fun _ h9 => List.mem_cons_of_mem _ (inT_Si _ h9)) hown hK hw.1 3 (WL_get (by decide)) rfl 2 (by decide) (hts _ (List.mem_cons_of_mem _ tw_120)) (fun _ h9 => h9) rfl d_CS_tighten_54 ?_
        refine lv_iconst (v := 2) hx hb d_CS_tighten_57 (by decide) ?_
        refine lv_iload_n hx hb d_CS_tighten_58 rfl (lv_at hl 3 rfl) ?_
        refine lv_imul hx hb d_CS_tighten_59 ?_
        obtain ⟨a60, hv, h⟩ := bd h
        refine m_aaload hx hb hK hw hv d_CS_tighten_60 ?_
        obtain ⟨r61, μ61, hq, h⟩ := bd2 h
        refine m_call (r := some (.int r61)) (μ1 := μ61) (va_runV (C := "RecipePlans$CutSearch") (As := [.int x2, .ref (G.2.1 a60)]) (rest := []) ⟨hx, hb, hml, hown, hts⟩ (c_CS_add l G N x2 a60 μ hq _) (cwV 2 hts (gdV tw_356 tw_357 tw_7 tw_38 tw_358) rfl rfl rfl (by decide +kernel) ⟨by dsimp only [rm_CS_tighten, rm_CS_add]; omega, by dsimp only [rm_CS_tighten, rm_CS_add]; omega⟩) (m_preV (k := 4) (by decide) rfl hK hSt hw) rfl rfl hl.1 rfl (lv_room (Nat.le_of_ble_eq_true rfl)) d_CS_tighten_61 ⟨Nat.zero_le _, Nat.zero_le _⟩) hw (fun H locs hw => ?_)
        refine lv_if_eq (tgt := 77) hx hb d_CS_tighten_64 (by decide) (fun c64 => ?_) (fun c64 => ?_)
        · have h := ifp c64 h
          exact w_CS_tighten_77 C hT_T_CS_tighten ih x2 x3 v45 μ61 _ _ _ hw (lv_sub hl [1, 2, 3, 0] rfl) h
        · have h := ifn c64 h
          refine lv_aload_n hx hb d_CS_tighten_67 rfl (lv_at hl 1 rfl) ?_
          refine lv_iload_n hx hb d_CS_tighten_68 rfl (lv_at hl 3 rfl) ?_
          refine lv_iconst (v := 1) hx hb d_CS_tighten_69 (by decide) ?_
          refine lv_iadd hx hb d_CS_tighten_70 ?_
          refine lv_iload_n hx hb d_CS_tighten_71 rfl (lv_at hl 2 rfl) ?_
          refine lv_iconst (v := 1) hx hb d_CS_tighten_72 (by decide) ?_
          refine lv_iadd hx hb d_CS_tighten_73 ?_
          obtain ⟨μ74, hq, h⟩ := bd h
          refine m_call (r := none) (μ1 := μ74) (va_runV (C := "RecipePlans$CutSearch") (As := [.int (x3 + (1 : Int32)), .int (x2 + (1 : Int32))]) (rest := []) ⟨hx, hb, hml, hown, hts⟩ (hT_T_CS_tighten (x3 + (1 : Int32)) (x2 + (1 : Int32)) μ61 hq _) (cwV 2 hts (gdV tw_312 tw_313 tw_2 tw_38 tw_314) rfl rfl rfl (by decide +kernel) ⟨by dsimp only [rm_CS_tighten]; omega, by dsimp only [rm_CS_tighten]; omega⟩) (m_preV (k := 4) (by decide) rfl hK hSt hw) rfl rfl hl.1 rfl (lv_room (Nat.le_of_ble_eq_true rfl)) d_CS_tighten_74 ⟨Nat.zero_le _, Nat.zero_le _⟩) hw (fun H locs hw => ?_)
          exact w_CS_tighten_77 C hT_T_CS_tighten ih x2 x3 v45 μ74 _ _ _ hw (lv_sub hl [1, 2, 3, 0] rfl) h
set_option maxRecDepth 100000 in
set_option maxHeartbeats 4000000 in
theorem c_CS_tighten (l : Launch) (G : Gw) (N : Nat) : ∀ (d : Nat) (x1 : Int32) (x2 : Int32) (μ : Mem) {μ' : Mem}, M_CS_tighten N d x1 x2 μ = some μ' → CT l y_CS_tighten ws_CS_tighten (rm_CS_tighten d) [.ref (G.2.1 4), .int x1, .int x2] G μ none μ' := by
  intro d
  induction d with
  | zero =>
    intro x1 x2 μ μ' h
    rw [M_CS_tighten] at h
    cases h
  | succ d ihd =>
    intro x1 x2 μ μ' h
    rw [M_CS_tighten] at h
    have hT_T_CS_tighten := @ihd
    refine m_met (cc := prog_2_method_4_code) (maxL := 5) (ret := none) (by decide) rfl (Nat.le_of_ble_eq_true rfl) ?_
    intro p e s m args below meth c ls C hw hl
    obtain ⟨hx, hb, hr, hml, hown, hts, hlk, hK, hSt⟩ := id C
    have hl : lv_has ls 5 [(0, .ref (G.2.1 4)), (1, .int x1), (2, .int x2)] := hl
    refine lv_iload_n hx hb d_CS_tighten_0 rfl (lv_at hl 1 rfl) ?_
    refine lv_if_lt (tgt := 13) hx hb d_CS_tighten_1 (by decide) (fun c1 => ?_) (fun c1 => ?_)
    · have h := ifp c1 h
      exact m_vret hx hb hr hlk hw h d_CS_tighten_13
    · have h := ifn c1 h
      refine lv_iload_n hx hb d_CS_tighten_4 rfl (lv_at hl 2 rfl) ?_
      refine lv_if_lt (tgt := 13) hx hb d_CS_tighten_5 (by decide) (fun c5 => ?_) (fun c5 => ?_)
      · have h := ifp c5 h
        exact m_vret hx hb hr hlk hw h d_CS_tighten_13
      · have h := ifn c5 h
        refine lv_iload_n hx hb d_CS_tighten_8 rfl (lv_at hl 2 rfl) ?_
        refine lv_iconst (v := 4) hx hb d_CS_tighten_9 (by decide) ?_
        refine lv_icmp_le (tgt := 14) hx hb d_CS_tighten_10 (by decide) (fun c10 => ?_) (fun c10 => ?_)
        · have h := ifp c10 h
          refine lv_aload_n hx hb d_CS_tighten_14 rfl (lv_at hl 0 rfl) ?_
          refine lv_iload_n hx hb d_CS_tighten_15 rfl (lv_at hl 2 rfl) ?_
          obtain ⟨μ16, hq, h⟩ := bd h
          refine m_call (r := none) (μ1 := μ16) (va_runV (C := "RecipePlans$CutSearch") (As := [.int x2]) (rest := []) ⟨hx, hb, hml, hown, hts⟩ (c_CS_visitCorners l G N x2 μ hq _) (cwV 1 hts (gdV tw_315 tw_316 tw_3 tw_38 tw_317) rfl rfl rfl (by decide +kernel) ⟨by dsimp only [rm_CS_tighten, rm_CS_visitCorners]; omega, by dsimp only [rm_CS_tighten, rm_CS_visitCorners]; omega⟩) (m_preV (k := 4) (by decide) rfl hK hSt hw) rfl rfl hl.1 rfl (lv_room (Nat.le_of_ble_eq_true rfl)) d_CS_tighten_16 ⟨Nat.zero_le _, Nat.zero_le _⟩) hw (fun H locs hw => ?_)
          refine lv_iload_n hx hb d_CS_tighten_19 rfl (lv_at hl 1 rfl) ?_
          refine lv_istore_n (lv' := [(3, .int x1), (0, .ref (G.2.1 4)), (1, .int x1), (2, .int x2)]) hx hb d_CS_tighten_20 rfl hl (by decide) rfl (fun ls hl => ?_)
          exact w_CS_tighten_21 C hT_T_CS_tighten N x2 x1 μ16 _ _ _ hw (lv_sub hl [1, 3, 0] rfl) h
        · have h := ifn c10 h
          exact m_vret hx hb hr hlk hw h d_CS_tighten_13
set_option maxRecDepth 100000 in
set_option maxHeartbeats 4000000 in
theorem c_CS_search (l : Launch) (G : Gw) (N : Nat) (μ : Mem) {μ' : Mem} (h : M_CS_search N μ = some μ') : CT l y_CS_search ws_CS_search rm_CS_search [.ref (G.2.1 4)] G μ none μ' := by
  refine m_met (cc := prog_2_method_2_code) (maxL := 1) (ret := none) (by decide) rfl (Nat.le_of_ble_eq_true rfl) ?_
  intro p e s m args below meth c ls C hw hl
  obtain ⟨hx, hb, hr, hml, hown, hts, hlk, hK, hSt⟩ := id C
  have hl : lv_has ls 1 [(0, .ref (G.2.1 4))] := hl
  unfold M_CS_search at h
  refine lv_aload_n hx hb d_CS_search_0 rfl (lv_at hl 0 rfl) ?_
  obtain ⟨μ1, hq, h⟩ := bd h
  refine m_call (r := none) (μ1 := μ1) (va_runV (C := "RecipePlans$CutSearch") (As := []) (rest := []) ⟨hx, hb, hml, hown, hts⟩ (c_CS_begin l G N μ hq _) (cwV 0 hts (gdV tw_305 tw_306 tw_1 tw_38 tw_307) rfl rfl rfl (by decide +kernel) ⟨Nat.le_of_ble_eq_true rfl, Nat.le_of_ble_eq_true rfl⟩) (m_preV (k := 4) (by decide) rfl hK hSt hw) rfl rfl hl.1 rfl (lv_room (Nat.le_of_ble_eq_true rfl)) d_CS_search_1 ⟨Nat.zero_le _, Nat.zero_le _⟩) hw (fun H locs hw => ?_)
  refine lv_aload_n hx hb d_CS_search_4 rfl (lv_at hl 0 rfl) ?_
  refine lv_iconst (v := 0) hx hb d_CS_search_5 (by decide) ?_
  refine lv_iconst (v := 0) hx hb d_CS_search_6 (by decide) ?_
  obtain ⟨μ7, hq, h⟩ := bd h
  refine m_call (r := none) (μ1 := μ7) (va_runV (C := "RecipePlans$CutSearch") (As := [.int (0 : Int32), .int (0 : Int32)]) (rest := []) ⟨hx, hb, hml, hown, hts⟩ (c_CS_tighten l G N 6 (0 : Int32) (0 : Int32) μ1 hq _) (cwV 2 hts (gdV tw_312 tw_313 tw_2 tw_38 tw_314) rfl rfl rfl (by decide +kernel) ⟨Nat.le_of_ble_eq_true rfl, Nat.le_of_ble_eq_true rfl⟩) (m_preV (k := 4) (by decide) rfl hK hSt hw) rfl rfl hl.1 rfl (lv_room (Nat.le_of_ble_eq_true rfl)) d_CS_search_7 ⟨Nat.zero_le _, Nat.zero_le _⟩) hw (fun H locs hw => ?_)
  exact m_vret hx hb hr hlk hw h d_CS_search_10
set_option maxRecDepth 100000 in
set_option maxHeartbeats 4000000 in
theorem w_CS_commonDivisor_46 {r : Int64} {μ' : Mem} {N : Nat} (C : CxA G p s m args meth c prog_2_method_13_code 8 (some .long) "RecipePlans$CutSearch" ws_CS_commonDivisor) : ∀ (x3 : Int64) (μ : Mem) (H : Heap) (locs : List Loc) (ls : Array Slot), Wk G s μ H locs → lv_has ls 8 [(3, .long x3)] → M_CS_commonDivisor_46 N x3 μ = some (r, μ') → WA G rm_CS_commonDivisor p l e s m args below meth c (some (.long r)) μ' H locs 46 ls [] := by
  obtain ⟨hx, hb, hr, hml, hown, hts, hlk, hK, hSt⟩ := id C
  intro x3 μ H locs ls hw hl h
  unfold M_CS_commonDivisor_46 at h
  refine lv_lload_n hx hb d_CS_commonDivisor_46 rfl (lv_at hl 0 rfl) ?_
  refine lv_lconst (v := 0) hx hb d_CS_commonDivisor_47 (by decide) ?_
  refine W.lcmp hx hb d_CS_commonDivisor_48 ?_
  refine lv_if_le (tgt := 56) hx hb d_CS_commonDivisor_49 (by decide) (fun c49 => ?_) (fun c49 => ?_)
  · have h := ifp c49 h
    refine lv_lconst (v := 1) hx hb d_CS_commonDivisor_56 (by decide) ?_
    exact m_lret hx hb hr hlk hw h d_CS_commonDivisor_57
  · have h := ifn c49 h
    refine lv_lload_n hx hb d_CS_commonDivisor_52 rfl (lv_at hl 0 rfl) ?_
    refine lv_goto (tgt := 57) hx hb d_CS_commonDivisor_53 (by decide) ?_
    exact m_lret hx hb hr hlk hw h d_CS_commonDivisor_57
set_option maxRecDepth 100000 in
set_option maxHeartbeats 4000000 in
theorem w_CS_commonDivisor_16 {r : Int64} {μ' : Mem} {N : Nat} (C : CxA G p s m args meth c prog_2_method_13_code 8 (some .long) "RecipePlans$CutSearch" ws_CS_commonDivisor) : ∀ (n : Nat) (x1 : Int64) (x3 : Int64) (x5 : Int32) (μ : Mem) (H : Heap) (locs : List Loc) (ls : Array Slot), Wk G s μ H locs → lv_has ls 8 [(1, .long x1), (3, .long x3), (5, .int x5)] → M_CS_commonDivisor_16 N n x1 x3 x5 μ = some (r, μ') → WA G rm_CS_commonDivisor p l e s m args below meth c (some (.long r)) μ' H locs 16 ls [] := by
  obtain ⟨hx, hb, hr, hml, hown, hts, hlk, hK, hSt⟩ := id C
  intro n
  induction n with
  | zero =>
    intro x1 x3 x5 μ H locs ls hw hl h
    rw [M_CS_commonDivisor_16] at h
    cases h
  | succ n ih =>
    intro x1 x3 x5 μ H locs ls hw hl h
    rw [M_CS_commonDivisor_16] at h
    refine lv_iload hx hb d_CS_commonDivisor_16 (lv_at hl 2 rfl) ?_
    refine lv_sipush (v := 200) hx hb d_CS_commonDivisor_18 (by decide) ?_
    refine lv_icmp_ge (tgt := 46) hx hb d_CS_commonDivisor_21 (by decide) (fun c21 => ?_) (fun c21 => ?_)
    · have h := ifp c21 h
      exact w_CS_commonDivisor_46 C x3 μ _ _ _ hw (lv_sub hl [1] rfl) h
    · have h := ifn c21 h
      refine lv_lload_n hx hb d_CS_commonDivisor_24 rfl (lv_at hl 0 rfl) ?_
      refine lv_lconst (v := 0) hx hb d_CS_commonDivisor_25 (by decide) ?_
      refine W.lcmp hx hb d_CS_commonDivisor_26 ?_
      refine lv_if_eq (tgt := 46) hx hb d_CS_commonDivisor_27 (by decide) (fun c27 => ?_) (fun c27 => ?_)
      · have h := ifp c27 h
        exact w_CS_commonDivisor_46 C x3 μ _ _ _ hw (lv_sub hl [1] rfl) h
      · have h := ifn c27 h
        refine lv_lload_n hx hb d_CS_commonDivisor_30 rfl (lv_at hl 1 rfl) ?_
        refine lv_lload_n hx hb d_CS_commonDivisor_31 rfl (lv_at hl 0 rfl) ?_
        obtain ⟨v32, hv, h⟩ := bd h
        refine m_lrem hx hb hv d_CS_commonDivisor_32 ?_
        refine lv_lstore (lv' := [(6, .long v32), (1, .long x1), (3, .long x3), (5, .int x5)]) hx hb d_CS_commonDivisor_33 hl (by decide) rfl (fun ls hl => ?_)
        refine lv_lload_n hx hb d_CS_commonDivisor_35 rfl (lv_at hl 1 rfl) ?_
        refine lv_lstore_n (lv' := [(3, .long x1), (6, .long v32), (1, .long x1), (5, .int x5)]) hx hb d_CS_commonDivisor_36 rfl hl (by decide) rfl (fun ls hl => ?_)
        refine lv_lload hx hb d_CS_commonDivisor_37 (lv_at hl 1 rfl) ?_
        refine lv_lstore_n (lv' := [(1, .long v32), (3, .long x1), (6, .long v32), (5, .int x5)]) hx hb d_CS_commonDivisor_39 rfl hl (by decide) rfl (fun ls hl => ?_)
        refine lv_iinc (v := x5 + 1) (lv' := [(5, .int (x5 + 1)), (1, .long v32), (3, .long x1), (6, .long v32)]) hx hb d_CS_commonDivisor_40 hl (k := 3) rfl rfl (by decide) rfl (fun ls hl => ?_)
        refine lv_goto (tgt := 16) hx hb d_CS_commonDivisor_43 (by decide) ?_
        exact ih v32 x1 (x5 + 1) μ _ _ _ hw (lv_sub hl [1, 2, 0] rfl) h
set_option maxRecDepth 100000 in
set_option maxHeartbeats 4000000 in
theorem c_CS_commonDivisor (l : Launch) (G : Gw) (N : Nat) (μ : Mem) {r : Int64} {μ' : Mem} (h : M_CS_commonDivisor N μ = some (r, μ')) : CT l y_CS_commonDivisor ws_CS_commonDivisor rm_CS_commonDivisor [.ref (G.2.1 4)] G μ (some (.long r)) μ' := by
  refine m_met (cc := prog_2_method_13_code) (maxL := 8) (ret := (some .long)) (by decide) rfl (Nat.le_of_ble_eq_true rfl) ?_
  intro p e s m args below meth c ls C hw hl
  obtain ⟨hx, hb, hr, hml, hown, hts, hlk, hK, hSt⟩ := id C
  have hl : lv_has ls 8 [(0, .ref (G.2.1 4))] := hl
  unfold M_CS_commonDivisor at h
  refine lv_aload_n hx hb d_CS_commonDivisor_0 rfl (lv_at hl 0 rfl) ?_
  refine va_get (D := G.1) (ci := 4) (v := .long (μ.2 4 11)) (C := "RecipePlans$CutSearch") (T := T_CS) (N := 13) hx hb hts (fun _ h9 => List.mem_cons_of_mem _ (inT_CS _ h9)) hown hK hw.1 4 (WL_get (by decide)) rfl 11 (by decide) (hts _ (List.mem_cons_of_mem _ tw_145)) (fun _ h9 => h9) rfl d_CS_commonDivisor_1 ?_
  obtain ⟨r4, hq, h⟩ := bd h
  refine m_pcall (r := .long r4) (W.runS (As := [.long (μ.2 4 11)]) (rest := []) ⟨hx, hb, hml, hown, hts⟩ (c_Ma_abs l N (μ.2 4 11) hq) (va_cwS 1 hts (gdS tw_404 tw_405 tw_43 tw_406) rfl rfl rfl (by decide +kernel) ⟨Nat.le_of_ble_eq_true rfl, Nat.le_of_ble_eq_true rfl⟩) preEq rfl rfl hl.1 rfl (lv_room (Nat.le_of_ble_eq_true rfl)) d_CS_commonDivisor_4 ⟨Nat.zero_le _, Nat.zero_le _⟩) ?_
  refine lv_lstore_n (lv' := [(1, .long r4), (0, .ref (G.2.1 4))]) hx hb d_CS_commonDivisor_7 rfl hl (by decide) rfl (fun ls hl => ?_)
  refine lv_aload_n hx hb d_CS_commonDivisor_8 rfl (lv_at hl 1 rfl) ?_
  refine va_get (D := G.1) (ci := 4) (v := .long (μ.2 4 12)) (C := "RecipePlans$CutSearch") (T := T_CS) (N := 13) hx hb hts (fun _ h9 => List.mem_cons_of_mem _ (inT_CS _ h9)) hown hK hw.1 4 (WL_get (by decide)) rfl 12 (by decide) (hts _ (List.mem_cons_of_mem _ tw_147)) (fun _ h9 => h9) rfl d_CS_commonDivisor_9 ?_
  obtain ⟨x3_12, ex3_12, h⟩ := nmx h
  refine m_eql ex3_12 ?_
  refine lv_lstore_n (lv' := [(3, .long x3_12), (1, .long r4), (0, .ref (G.2.1 4))]) hx hb d_CS_commonDivisor_12 rfl hl (by decide) rfl (fun ls hl => ?_)
  refine lv_iconst (v := 0) hx hb d_CS_commonDivisor_13 (by decide) ?_
  refine lv_istore (lv' := [(5, .int (0 : Int32)), (3, .long x3_12), (1, .long r4), (0, .ref (G.2.1 4))]) hx hb d_CS_commonDivisor_14 hl (by decide) rfl (fun ls hl => ?_)
  exact w_CS_commonDivisor_16 C N r4 x3_12 (0 : Int32) μ _ _ _ hw (lv_sub hl [2, 1, 0] rfl) h
set_option maxRecDepth 100000 in
set_option maxHeartbeats 4000000 in
theorem w_CS_allBreak_2 {r : Int32} {μ' : Mem} {N : Nat} (C : CxA G p s m args meth c prog_2_method_15_code 3 (some .boolean) "RecipePlans$CutSearch" ws_CS_allBreak) : ∀ (n : Nat) (x1 : Int32) (x2 : Int32) (μ : Mem) (H : Heap) (locs : List Loc) (ls : Array Slot), Wk G s μ H locs → lv_has ls 3 [(0, .ref (G.2.1 4)), (1, .int x1), (2, .int x2)] → M_CS_allBreak_2 N n x1 x2 μ = some (r, μ') → WA G rm_CS_allBreak p l e s m args below meth c (some (.int r)) μ' H locs 2 ls [] := by
  obtain ⟨hx, hb, hr, hml, hown, hts, hlk, hK, hSt⟩ := id C
  intro n
  induction n with
  | zero =>
    intro x1 x2 μ H locs ls hw hl h
    rw [M_CS_allBreak_2] at h
    cases h
  | succ n ih =>
    intro x1 x2 μ H locs ls hw hl h
    rw [M_CS_allBreak_2] at h
    refine lv_iload_n hx hb d_CS_allBreak_2 rfl (lv_at hl 2 rfl) ?_
    refine lv_aload_n hx hb d_CS_allBreak_3 rfl (lv_at hl 0 rfl) ?_
    refine va_get (D := G.1) (ci := 4) (v := .int (μ.1 4 8)) (C := "RecipePlans$CutSearch") (T := T_CS) (N := 13) hx hb hts (fun _ h9 => List.mem_cons_of_mem _ (inT_CS _ h9)) hown hK hw.1 4 (WL_get (by decide)) rfl 8 (by decide) (hts _ (List.mem_cons_of_mem _ tw_139)) (fun _ h9 => h9) rfl d_CS_allBreak_4 ?_
    refine lv_icmp_ge (tgt := 29) hx hb d_CS_allBreak_7 (by decide) (fun c7 => ?_) (fun c7 => ?_)
    · have h := ifp c7 h
      refine lv_iconst (v := 1) hx hb d_CS_allBreak_29 (by decide) ?_
      exact m_zret hx hb hr hlk hw h d_CS_allBreak_30
    · have h := ifn c7 h
      refine lv_aload_n hx hb d_CS_allBreak_10 rfl (lv_at hl 0 rfl) ?_
      refine va_get (D := G.1) (ci := 4) (v := .ref (G.2.1 24)) (C := "RecipePlans$CutSearch") (T := T_CS) (N := 13) hx hb hts (fun _ h9 => List.mem_cons_of_mem _ (inT_CS _ h9)) hown hK hw.1 4 (WL_get (by decide)) rfl 7 (by decide) (hts _ (List.mem_cons_of_mem _ tw_138)) (fun _ h9 => h9) rfl d_CS_allBreak_11 ?_
      refine lv_iload_n hx hb d_CS_allBreak_14 rfl (lv_at hl 2 rfl) ?_
      obtain ⟨v15, hv, h⟩ := bd h
      refine m_iaload hx hb hK hw hv d_CS_allBreak_15 ?_
      refine lv_iload_n hx hb d_CS_allBreak_16 rfl (lv_at hl 1 rfl) ?_
      refine lv_iand hx hb d_CS_allBreak_17 ?_
      refine lv_if_ne (tgt := 23) hx hb d_CS_allBreak_18 (by decide) (fun c18 => ?_) (fun c18 => ?_)
      · have h := ifn c18 h
        refine lv_iinc (v := x2 + 1) (lv' := [(2, .int (x2 + 1)), (0, .ref (G.2.1 4)), (1, .int x1)]) hx hb d_CS_allBreak_23 hl (k := 2) rfl rfl (by decide) rfl (fun ls hl => ?_)
        refine lv_goto (tgt := 2) hx hb d_CS_allBreak_26 (by decide) ?_
        exact ih x1 (x2 + 1) μ _ _ _ hw (lv_sub hl [1, 2, 0] rfl) h
      · have h := ifp c18 h
        refine lv_iconst (v := 0) hx hb d_CS_allBreak_21 (by decide) ?_
        exact m_zret hx hb hr hlk hw h d_CS_allBreak_22
set_option maxRecDepth 100000 in
set_option maxHeartbeats 4000000 in
theorem c_CS_allBreak (l : Launch) (G : Gw) (N : Nat) (x1 : Int32) (μ : Mem) {r : Int32} {μ' : Mem} (h : M_CS_allBreak N x1 μ = some (r, μ')) : CT l y_CS_allBreak ws_CS_allBreak rm_CS_allBreak [.ref (G.2.1 4), .int x1] G μ (some (.int r)) μ' := by
  refine m_met (cc := prog_2_method_15_code) (maxL := 3) (ret := (some .boolean)) (by decide) rfl (Nat.le_of_ble_eq_true rfl) ?_
  intro p e s m args below meth c ls C hw hl
  obtain ⟨hx, hb, hr, hml, hown, hts, hlk, hK, hSt⟩ := id C
  have hl : lv_has ls 3 [(0, .ref (G.2.1 4)), (1, .int x1)] := hl
  unfold M_CS_allBreak at h
  refine lv_iconst (v := 0) hx hb d_CS_allBreak_0 (by decide) ?_
  refine lv_istore_n (lv' := [(2, .int (0 : Int32)), (0, .ref (G.2.1 4)), (1, .int x1)]) hx hb d_CS_allBreak_1 rfl hl (by decide) rfl (fun ls hl => ?_)
  exact w_CS_allBreak_2 C N x1 (0 : Int32) μ _ _ _ hw (lv_sub hl [1, 2, 0] rfl) h
set_option maxRecDepth 100000 in
set_option maxHeartbeats 4000000 in
theorem w_CS_fewestClashing_7 {r : Int32} {μ' : Mem} {N : Nat} (C : CxA G p s m args meth c prog_2_method_14_code 4 (some .int) "RecipePlans$CutSearch" ws_CS_fewestClashing) : ∀ (n : Nat) (x1 : Int32) (x2 : Int32) (x3 : Int32) (μ : Mem) (H : Heap) (locs : List Loc) (ls : Array Slot), Wk G s μ H locs → lv_has ls 4 [(0, .ref (G.2.1 4)), (1, .int x1), (2, .int x2), (3, .int x3)] → M_CS_fewestClashing_7 N n x1 x2 x3 μ = some (r, μ') → WA G rm_CS_fewestClashing p l e s m args below meth c (some (.int r)) μ' H locs 7 ls [] := by
  obtain ⟨hx, hb, hr, hml, hown, hts, hlk, hK, hSt⟩ := id C
  intro n
  induction n with
  | zero =>
    intro x1 x2 x3 μ H locs ls hw hl h
    rw [M_CS_fewestClashing_7] at h
    cases h
  | succ n ih =>
    intro x1 x2 x3 μ H locs ls hw hl h
    rw [M_CS_fewestClashing_7] at h
    refine lv_iload_n hx hb d_CS_fewestClashing_7 rfl (lv_at hl 3 rfl) ?_
    refine lv_sipush (v := 256) hx hb d_CS_fewestClashing_8 (by decide) ?_
    refine lv_icmp_ge (tgt := 57) hx hb d_CS_fewestClashing_11 (by decide) (fun c11 => ?_) (fun c11 => ?_)
    · have h := ifp c11 h
      refine lv_iload_n hx hb d_CS_fewestClashing_57 rfl (lv_at hl 1 rfl) ?_
      exact m_iret hx hb hr hlk hw h d_CS_fewestClashing_58
    · have h := ifn c11 h
      refine lv_iload_n hx hb d_CS_fewestClashing_14 rfl (lv_at hl 3 rfl) ?_
      refine lv_aload_n hx hb d_CS_fewestClashing_15 rfl (lv_at hl 0 rfl) ?_
      refine va_get (D := G.1) (ci := 4) (v := .ref (G.2.1 2)) (C := "RecipePlans$CutSearch") (T := T_CS) (N := 13) hx hb hts (fun _ h9 => List.mem_cons_of_mem _ (inT_CS _ h9)) hown hK hw.1 4 (WL_get (by decide)) rfl 1 (by decide) (hts _ (List.mem_cons_of_mem _ tw_132)) (fun _ h9 => h9) rfl d_CS_fewestClashing_16 ?_
      refine va_get (D := G.1) (ci := 2) (v := .int (μ.1 2 0)) (C := "RecipePlans$Rules") (T := T_Ru) (N := 6) hx hb hts (fun _ h9 => List.mem_cons_of_mem _ (inT_Ru _ h9)) hown hK hw.1 2 (WL_get (by decide)) rfl 0 (by decide) (hts _ (List.mem_cons_of_mem _ tw_85)) (fun _ h9 => h9) rfl d_CS_fewestClashing_19 ?_
      refine lv_iconst (v := -1) hx hb d_CS_fewestClashing_22 (by decide) ?_
      refine lv_ixor hx hb d_CS_fewestClashing_23 ?_
      refine lv_iand hx hb d_CS_fewestClashing_24 ?_
      refine lv_if_ne (tgt := 51) hx hb d_CS_fewestClashing_25 (by decide) (fun c25 => ?_) (fun c25 => ?_)
      · have h := ifn c25 h
        refine lv_iinc (v := x3 + 1) (lv' := [(3, .int (x3 + 1)), (0, .ref (G.2.1 4)), (1, .int x1), (2, .int x2)]) hx hb d_CS_fewestClashing_51 hl (k := 3) rfl rfl (by decide) rfl (fun ls hl => ?_)
        refine lv_goto (tgt := 7) hx hb d_CS_fewestClashing_54 (by decide) ?_
        exact ih x1 x2 (x3 + 1) μ _ _ _ hw (lv_sub hl [1, 2, 3, 0] rfl) h
      · have h := ifp c25 h
        refine lv_iload_n hx hb d_CS_fewestClashing_28 rfl (lv_at hl 3 rfl) ?_
        obtain ⟨r29, hq, h⟩ := bd h
        refine m_pcall (r := .int r29) (W.runS (As := [.int x3]) (rest := []) ⟨hx, hb, hml, hown, hts⟩ (c_In_bitCount l N x3 hq) (va_cwS 1 hts (gdS tw_325 tw_326 tw_42 tw_327) rfl rfl rfl (by decide +kernel) ⟨Nat.le_of_ble_eq_true rfl, Nat.le_of_ble_eq_true rfl⟩) preEq rfl rfl hl.1 rfl (lv_room (Nat.le_of_ble_eq_true rfl)) d_CS_fewestClashing_29 ⟨Nat.zero_le _, Nat.zero_le _⟩) ?_
        refine lv_iload_n hx hb d_CS_fewestClashing_32 rfl (lv_at hl 2 rfl) ?_
        refine lv_icmp_ge (tgt := 51) hx hb d_CS_fewestClashing_33 (by decide) (fun c33 => ?_) (fun c33 => ?_)
        · have h := ifp c33 h
          refine lv_iinc (v := x3 + 1) (lv' := [(3, .int (x3 + 1)), (0, .ref (G.2.1 4)), (1, .int x1), (2, .int x2)]) hx hb d_CS_fewestClashing_51 hl (k := 3) rfl rfl (by decide) rfl (fun ls hl => ?_)
          refine lv_goto (tgt := 7) hx hb d_CS_fewestClashing_54 (by decide) ?_
          exact ih x1 x2 (x3 + 1) μ _ _ _ hw (lv_sub hl [1, 2, 3, 0] rfl) h
        · have h := ifn c33 h
          refine lv_aload_n hx hb d_CS_fewestClashing_36 rfl (lv_at hl 0 rfl) ?_
          refine lv_iload_n hx hb d_CS_fewestClashing_37 rfl (lv_at hl 3 rfl) ?_
          obtain ⟨r38, μ38, hq, h⟩ := bd2 h
          refine m_call (r := some (.int r38)) (μ1 := μ38) (va_runV (C := "RecipePlans$CutSearch") (As := [.int x3]) (rest := []) ⟨hx, hb, hml, hown, hts⟩ (c_CS_allBreak l G N x3 μ hq _) (cwV 1 hts (gdV tw_411 tw_412 tw_15 tw_38 tw_413) rfl rfl rfl (by decide +kernel) ⟨Nat.le_of_ble_eq_true rfl, Nat.le_of_ble_eq_true rfl⟩) (m_preV (k := 4) (by decide) rfl hK hSt hw) rfl rfl hl.1 rfl (lv_room (Nat.le_of_ble_eq_true rfl)) d_CS_fewestClashing_38 ⟨Nat.zero_le _, Nat.zero_le _⟩) hw (fun H locs hw => ?_)
          refine lv_if_eq (tgt := 51) hx hb d_CS_fewestClashing_41 (by decide) (fun c41 => ?_) (fun c41 => ?_)
          · have h := ifp c41 h
            refine lv_iinc (v := x3 + 1) (lv' := [(3, .int (x3 + 1)), (0, .ref (G.2.1 4)), (1, .int x1), (2, .int x2)]) hx hb d_CS_fewestClashing_51 hl (k := 3) rfl rfl (by decide) rfl (fun ls hl => ?_)
            refine lv_goto (tgt := 7) hx hb d_CS_fewestClashing_54 (by decide) ?_
            exact ih x1 x2 (x3 + 1) μ38 _ _ _ hw (lv_sub hl [1, 2, 3, 0] rfl) h
          · have h := ifn c41 h
            refine lv_iload_n hx hb d_CS_fewestClashing_44 rfl (lv_at hl 3 rfl) ?_
            refine lv_istore_n (lv' := [(1, .int x3), (0, .ref (G.2.1 4)), (2, .int x2), (3, .int x3)]) hx hb d_CS_fewestClashing_45 rfl hl (by decide) rfl (fun ls hl => ?_)
            refine lv_iload_n hx hb d_CS_fewestClashing_46 rfl (lv_at hl 3 rfl) ?_
            obtain ⟨r47, hq, h⟩ := bd h
            refine m_pcall (r := .int r47) (W.runS (As := [.int x3]) (rest := []) ⟨hx, hb, hml, hown, hts⟩ (c_In_bitCount l N x3 hq) (va_cwS 1 hts (gdS tw_325 tw_326 tw_42 tw_327) rfl rfl rfl (by decide +kernel) ⟨Nat.le_of_ble_eq_true rfl, Nat.le_of_ble_eq_true rfl⟩) preEq rfl rfl hl.1 rfl (lv_room (Nat.le_of_ble_eq_true rfl)) d_CS_fewestClashing_47 ⟨Nat.zero_le _, Nat.zero_le _⟩) ?_
            refine lv_istore_n (lv' := [(2, .int r47), (1, .int x3), (0, .ref (G.2.1 4)), (3, .int x3)]) hx hb d_CS_fewestClashing_50 rfl hl (by decide) rfl (fun ls hl => ?_)
            refine lv_iinc (v := x3 + 1) (lv' := [(3, .int (x3 + 1)), (2, .int r47), (1, .int x3), (0, .ref (G.2.1 4))]) hx hb d_CS_fewestClashing_51 hl (k := 3) rfl rfl (by decide) rfl (fun ls hl => ?_)
            refine lv_goto (tgt := 7) hx hb d_CS_fewestClashing_54 (by decide) ?_
            exact ih x3 r47 (x3 + 1) μ38 _ _ _ hw (lv_sub hl [3, 2, 1, 0] rfl) h
set_option maxRecDepth 100000 in
set_option maxHeartbeats 4000000 in
theorem c_CS_fewestClashing (l : Launch) (G : Gw) (N : Nat) (μ : Mem) {r : Int32} {μ' : Mem} (h : M_CS_fewestClashing N μ = some (r, μ')) : CT l y_CS_fewestClashing ws_CS_fewestClashing rm_CS_fewestClashing [.ref (G.2.1 4)] G μ (some (.int r)) μ' := by
  refine m_met (cc := prog_2_method_14_code) (maxL := 4) (ret := (some .int)) (by decide) rfl (Nat.le_of_ble_eq_true rfl) ?_
  intro p e s m args below meth c ls C hw hl
  obtain ⟨hx, hb, hr, hml, hown, hts, hlk, hK, hSt⟩ := id C
  have hl : lv_has ls 4 [(0, .ref (G.2.1 4))] := hl
  unfold M_CS_fewestClashing at h
  refine lv_iconst (v := 0) hx hb d_CS_fewestClashing_0 (by decide) ?_
  refine lv_istore_n (lv' := [(1, .int (0 : Int32)), (0, .ref (G.2.1 4))]) hx hb d_CS_fewestClashing_1 rfl hl (by decide) rfl (fun ls hl => ?_)
  refine lv_bipush (v := 9) hx hb d_CS_fewestClashing_2 (by decide) ?_
  refine lv_istore_n (lv' := [(2, .int (9 : Int32)), (1, .int (0 : Int32)), (0, .ref (G.2.1 4))]) hx hb d_CS_fewestClashing_4 rfl hl (by decide) rfl (fun ls hl => ?_)
  refine lv_iconst (v := 1) hx hb d_CS_fewestClashing_5 (by decide) ?_
  refine lv_istore_n (lv' := [(3, .int (1 : Int32)), (2, .int (9 : Int32)), (1, .int (0 : Int32)), (0, .ref (G.2.1 4))]) hx hb d_CS_fewestClashing_6 rfl hl (by decide) rfl (fun ls hl => ?_)
  exact w_CS_fewestClashing_7 C N (0 : Int32) (9 : Int32) (1 : Int32) μ _ _ _ hw (lv_sub hl [3, 2, 1, 0] rfl) h
end WK
