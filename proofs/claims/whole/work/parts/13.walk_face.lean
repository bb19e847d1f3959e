section WK
variable {p : Program} {l : Launch} {e : Env} {s : State} {m : MethodId} {args : Array Value} {below : List Frame} {meth : Method} {c : Code} {G : Gw}
set_option maxRecDepth 100000 in
set_option maxHeartbeats 4000000 in
theorem c_RP_lot (l : Launch) (G : Gw) (N : Nat) (x1 : Int32) (x2 : Int64) (μ : Mem) {r : Int32} {μ' : Mem} (h : M_RP_lot N x1 x2 μ = some (r, μ')) : CT l y_RP_lot ws_RP_lot rm_RP_lot [.ref (G.2.1 0), .int x1, .long x2] G μ (some (.int r)) μ' := by
  refine m_met (cc := prog_1_method_2_code) (maxL := 5) (ret := (some .int)) (by decide) rfl (Nat.le_of_ble_eq_true rfl) ?_
  intro p e s m args below meth c ls C hw hl
  obtain ⟨hx, hb, hr, hml, hown, hts, hlk, hK, hSt⟩ := id C
  have hl : lv_has ls 5 [(0, .ref (G.2.1 0)), (1, .int x1), (2, .long x2)] := hl
  unfold M_RP_lot at h
  refine lv_aload_n hx hb d_RP_lot_0 rfl (lv_at hl 0 rfl) ?_
  refine va_get (D := G.1) (ci := 0) (v := .ref (G.2.1 1)) (C := "RecipePlans") (T := T_RP) (N := 8) hx hb hts (fun _ h9 => List.mem_cons_of_mem _ (inT_RP _ h9)) hown hK hw.1 0 (WL_get (by decide)) rfl 0 (by decide) (hts _ (List.mem_cons_of_mem _ tw_221)) (fun _ h9 => h9) rfl d_RP_lot_1 ?_
  refine va_get (D := G.1) (ci := 1) (v := .int (μ.1 1 0)) (C := "RecipePlans$Lots") (T := T_Lo) (N := 4) hx hb hts (fun _ h9 => List.mem_cons_of_mem _ (inT_Lo _ h9)) hown hK hw.1 1 (WL_get (by decide)) rfl 0 (by decide) (hts _ (List.mem_cons_of_mem _ tw_59)) (fun _ h9 => h9) rfl d_RP_lot_4 ?_
  refine lv_iconst (v := 4) hx hb d_RP_lot_7 (by decide) ?_
  refine lv_icmp_ge (tgt := 36) hx hb d_RP_lot_8 (by decide) (fun c8 => ?_) (fun c8 => ?_)
  · have h := ifp c8 h
    refine lv_iconst (v := -1) hx hb d_RP_lot_36 (by decide) ?_
    exact m_iret hx hb hr hlk hw h d_RP_lot_37
  · have h := ifn c8 h
    refine lv_iload_n hx hb d_RP_lot_11 rfl (lv_at hl 1 rfl) ?_
    refine lv_i2l hx hb d_RP_lot_12 rfl ?_
    refine lv_lconst (v := 0) hx hb d_RP_lot_13 (by decide) ?_
    refine lv_ldc2 (v := 9) hx hb hown (hts _ (List.mem_cons_of_mem _ tw_241)) d_RP_lot_14 ?_
    obtain ⟨r17, hq, h⟩ := bd h
    refine m_pcall (r := .int r17) (W.runS (As := [.long x1.toInt64, .long (0 : Int64), .long (9 : Int64)]) (rest := []) ⟨hx, hb, hml, hown, hts⟩ (c_RP_within l N x1.toInt64 (0 : Int64) (9 : Int64) hq) (va_cwS 3 hts (gdS tw_242 tw_243 tw_34 tw_244) rfl rfl rfl (by decide +kernel) ⟨Nat.le_of_ble_eq_true rfl, Nat.le_of_ble_eq_true rfl⟩) preEq rfl rfl hl.1 rfl (lv_room (Nat.le_of_ble_eq_true rfl)) d_RP_lot_17 ⟨Nat.zero_le _, Nat.zero_le _⟩) ?_
    refine lv_if_eq (tgt := 36) hx hb d_RP_lot_20 (by decide) (fun c20 => ?_) (fun c20 => ?_)
    · have h := ifp c20 h
      refine lv_iconst (v := -1) hx hb d_RP_lot_36 (by decide) ?_
      exact m_iret hx hb hr hlk hw h d_RP_lot_37
    · have h := ifn c20 h
      refine lv_lload_n hx hb d_RP_lot_23 rfl (lv_at hl 2 rfl) ?_
      refine lv_ldc2 (v := -1000) hx hb hown (hts _ (List.mem_cons_of_mem _ tw_245)) d_RP_lot_24 ?_
      refine lv_ldc2 (v := 1000) hx hb hown (hts _ (List.mem_cons_of_mem _ tw_246)) d_RP_lot_27 ?_
      obtain ⟨r30, hq, h⟩ := bd h
      refine m_pcall (r := .int r30) (W.runS (As := [.long x2, .long (-1000 : Int64), .long (1000 : Int64)]) (rest := []) ⟨hx, hb, hml, hown, hts⟩ (c_RP_within l N x2 (-1000 : Int64) (1000 : Int64) hq) (va_cwS 3 hts (gdS tw_242 tw_243 tw_34 tw_244) rfl rfl rfl (by decide +kernel) ⟨Nat.le_of_ble_eq_true rfl, Nat.le_of_ble_eq_true rfl⟩) preEq rfl rfl hl.1 rfl (lv_room (Nat.le_of_ble_eq_true rfl)) d_RP_lot_30 ⟨Nat.zero_le _, Nat.zero_le _⟩) ?_
      refine lv_if_ne (tgt := 38) hx hb d_RP_lot_33 (by decide) (fun c33 => ?_) (fun c33 => ?_)
      · have h := ifn c33 h
        refine lv_aload_n hx hb d_RP_lot_38 rfl (lv_at hl 0 rfl) ?_
        refine va_get (D := G.1) (ci := 0) (v := .ref (G.2.1 1)) (C := "RecipePlans") (T := T_RP) (N := 8) hx hb hts (fun _ h9 => List.mem_cons_of_mem _ (inT_RP _ h9)) hown hK hw.1 0 (WL_get (by decide)) rfl 0 (by decide) (hts _ (List.mem_cons_of_mem _ tw_221)) (fun _ h9 => h9) rfl d_RP_lot_39 ?_
        refine va_get (D := G.1) (ci := 1) (v := .int (μ.1 1 0)) (C := "RecipePlans$Lots") (T := T_Lo) (N := 4) hx hb hts (fun _ h9 => List.mem_cons_of_mem _ (inT_Lo _ h9)) hown hK hw.1 1 (WL_get (by decide)) rfl 0 (by decide) (hts _ (List.mem_cons_of_mem _ tw_59)) (fun _ h9 => h9) rfl d_RP_lot_42 ?_
        obtain ⟨x4_45, ex4_45, h⟩ := nmx h
        refine m_eqi ex4_45 ?_
        refine lv_istore (lv' := [(4, .int x4_45), (0, .ref (G.2.1 0)), (1, .int x1), (2, .long x2)]) hx hb d_RP_lot_45 hl (by decide) rfl (fun ls hl => ?_)
        refine lv_aload_n hx hb d_RP_lot_47 rfl (lv_at hl 1 rfl) ?_
        refine va_get (D := G.1) (ci := 0) (v := .ref (G.2.1 1)) (C := "RecipePlans") (T := T_RP) (N := 8) hx hb hts (fun _ h9 => List.mem_cons_of_mem _ (inT_RP _ h9)) hown hK hw.1 0 (WL_get (by decide)) rfl 0 (by decide) (hts _ (List.mem_cons_of_mem _ tw_221)) (fun _ h9 => h9) rfl d_RP_lot_48 ?_
        refine va_get (D := G.1) (ci := 1) (v := .ref (G.2.1 17)) (C := "RecipePlans$Lots") (T := T_Lo) (N := 4) hx hb hts (fun _ h9 => List.mem_cons_of_mem _ (inT_Lo _ h9)) hown hK hw.1 1 (WL_get (by decide)) rfl 1 (by decide) (hts _ (List.mem_cons_of_mem _ tw_61)) (fun _ h9 => h9) rfl d_RP_lot_51 ?_
        refine lv_iload hx hb d_RP_lot_54 (lv_at hl 0 rfl) ?_
        refine lv_iload_n hx hb d_RP_lot_56 rfl (lv_at hl 2 rfl) ?_
        obtain ⟨μ57, hm, h⟩ := bd h
        refine m_iastore hx hb hK hw hm d_RP_lot_57 (fun H locs hw => ?_)
        refine lv_aload_n hx hb d_RP_lot_58 rfl (lv_at hl 1 rfl) ?_
        refine va_get (D := G.1) (ci := 0) (v := .ref (G.2.1 1)) (C := "RecipePlans") (T := T_RP) (N := 8) hx hb hts (fun _ h9 => List.mem_cons_of_mem _ (inT_RP _ h9)) hown hK hw.1 0 (WL_get (by decide)) rfl 0 (by decide) (hts _ (List.mem_cons_of_mem _ tw_221)) (fun _ h9 => h9) rfl d_RP_lot_59 ?_
        refine va_get (D := G.1) (ci := 1) (v := .ref (G.2.1 42)) (C := "RecipePlans$Lots") (T := T_Lo) (N := 4) hx hb hts (fun _ h9 => List.mem_cons_of_mem _ (inT_Lo _ h9)) hown hK hw.1 1 (WL_get (by decide)) rfl 2 (by decide) (hts _ (List.mem_cons_of_mem _ tw_65)) (fun _ h9 => h9) rfl d_RP_lot_62 ?_
        refine lv_iload hx hb d_RP_lot_65 (lv_at hl 0 rfl) ?_
        refine lv_lload_n hx hb d_RP_lot_67 rfl (lv_at hl 3 rfl) ?_
        obtain ⟨μ68, hm, h⟩ := bd h
        refine m_lastore hx hb hK hw hm d_RP_lot_68 (fun H locs hw => ?_)
        refine lv_aload_n hx hb d_RP_lot_69 rfl (lv_at hl 1 rfl) ?_
        refine va_get (D := G.1) (ci := 0) (v := .ref (G.2.1 1)) (C := "RecipePlans") (T := T_RP) (N := 8) hx hb hts (fun _ h9 => List.mem_cons_of_mem _ (inT_RP _ h9)) hown hK hw.1 0 (WL_get (by decide)) rfl 0 (by decide) (hts _ (List.mem_cons_of_mem _ tw_221)) (fun _ h9 => h9) rfl d_RP_lot_70 ?_
        refine lv_dup hx hb d_RP_lot_73 rfl ?_
        refine va_get (D := G.1) (ci := 1) (v := .int (μ68.1 1 0)) (C := "RecipePlans$Lots") (T := T_Lo) (N := 4) hx hb hts (fun _ h9 => List.mem_cons_of_mem _ (inT_Lo _ h9)) hown hK hw.1 1 (WL_get (by decide)) rfl 0 (by decide) (hts _ (List.mem_cons_of_mem _ tw_59)) (fun _ h9 => h9) rfl d_RP_lot_74 ?_
        refine lv_iconst (v := 1) hx hb d_RP_lot_77 (by decide) ?_
        refine lv_iadd hx hb d_RP_lot_78 ?_
        obtain ⟨μ79, hm, h⟩ := bd h
        refine va_put (D := G.1) (ci := 1) (v := .int ((μ68.1 1 0) + (1 : Int32))) (ty := .int) (C := "RecipePlans$Lots") (T := T_Lo) (N := 4) hx hb hts (fun _ h9 => List.mem_cons_of_mem _ (inT_Lo _ h9)) ty_Lo tyok_Lo nm_Lo hown hK hw.1 hw.2.1 hw.2.2 1 (WL_get (by decide)) rfl 0 (by decide) (hts _ (List.mem_cons_of_mem _ tw_59)) (fun _ h9 => h9) rfl (by decide +kernel) rfl rfl (Nat.le_of_ble_eq_true rfl) d_RP_lot_79 (fun H locs hP hD hS => ?_)
        have hw := wk_pI hm (by decide) (by rfl) hP hD hS
        refine lv_iload hx hb d_RP_lot_82 (lv_at hl 0 rfl) ?_
        exact m_iret hx hb hr hlk hw h d_RP_lot_84
      · have h := ifp c33 h
        refine lv_iconst (v := -1) hx hb d_RP_lot_36 (by decide) ?_
        exact m_iret hx hb hr hlk hw h d_RP_lot_37
set_option maxRecDepth 100000 in
set_option maxHeartbeats 4000000 in
theorem c_RP_amount (l : Launch) (G : Gw) (N : Nat) (x1 : Int32) (x2 : Int32) (x3 : Int32) (μ : Mem) {r : Int32} {μ' : Mem} (h : M_RP_amount N x1 x2 x3 μ = some (r, μ')) : CT l y_RP_amount ws_RP_amount rm_RP_amount [.ref (G.2.1 0), .int x1, .int x2, .int x3] G μ (some (.int r)) μ' := by
  refine m_met (cc := prog_1_method_3_code) (maxL := 4) (ret := (some .boolean)) (by decide) rfl (Nat.le_of_ble_eq_true rfl) ?_
  intro p e s m args below meth c ls C hw hl
  obtain ⟨hx, hb, hr, hml, hown, hts, hlk, hK, hSt⟩ := id C
  have hl : lv_has ls 4 [(0, .ref (G.2.1 0)), (1, .int x1), (2, .int x2), (3, .int x3)] := hl
  unfold M_RP_amount at h
  refine lv_iload_n hx hb d_RP_amount_0 rfl (lv_at hl 1 rfl) ?_
  refine lv_i2l hx hb d_RP_amount_1 rfl ?_
  refine lv_lconst (v := 0) hx hb d_RP_amount_2 (by decide) ?_
  refine lv_aload_n hx hb d_RP_amount_3 rfl (lv_at hl 0 rfl) ?_
  refine va_get (D := G.1) (ci := 0) (v := .ref (G.2.1 1)) (C := "RecipePlans") (T := T_RP) (N := 8) hx hb hts (fun _ h9 => List.mem_cons_of_mem _ (inT_RP _ h9)) hown hK hw.1 0 (WL_get (by decide)) rfl 0 (by decide) (hts _ (List.mem_cons_of_mem _ tw_221)) (fun _ h9 => h9) rfl d_RP_amount_4 ?_
  refine va_get (D := G.1) (ci := 1) (v := .int (μ.1 1 0)) (C := "RecipePlans$Lots") (T := T_Lo) (N := 4) hx hb hts (fun _ h9 => List.mem_cons_of_mem _ (inT_Lo _ h9)) hown hK hw.1 1 (WL_get (by decide)) rfl 0 (by decide) (hts _ (List.mem_cons_of_mem _ tw_59)) (fun _ h9 => h9) rfl d_RP_amount_7 ?_
  refine lv_iconst (v := 1) hx hb d_RP_amount_10 (by decide) ?_
  refine lv_isub hx hb d_RP_amount_11 ?_
  refine lv_i2l hx hb d_RP_amount_12 rfl ?_
  obtain ⟨r13, hq, h⟩ := bd h
  refine m_pcall (r := .int r13) (W.runS (As := [.long x1.toInt64, .long (0 : Int64), .long (((μ.1 1 0) - (1 : Int32)).toInt64)]) (rest := []) ⟨hx, hb, hml, hown, hts⟩ (c_RP_within l N x1.toInt64 (0 : Int64) (((μ.1 1 0) - (1 : Int32)).toInt64) hq) (va_cwS 3 hts (gdS tw_242 tw_243 tw_34 tw_244) rfl rfl rfl (by decide +kernel) ⟨Nat.le_of_ble_eq_true rfl, Nat.le_of_ble_eq_true rfl⟩) preEq rfl rfl hl.1 rfl (lv_room (Nat.le_of_ble_eq_true rfl)) d_RP_amount_13 ⟨Nat.zero_le _, Nat.zero_le _⟩) ?_
  refine lv_if_eq (tgt := 40) hx hb d_RP_amount_16 (by decide) (fun c16 => ?_) (fun c16 => ?_)
  · have h := ifp c16 h
    refine lv_iconst (v := 0) hx hb d_RP_amount_40 (by decide) ?_
    exact m_zret hx hb hr hlk hw h d_RP_amount_41
  · have h := ifn c16 h
    refine lv_iload_n hx hb d_RP_amount_19 rfl (lv_at hl 2 rfl) ?_
    obtain ⟨r20, hq, h⟩ := bd h
    refine m_pcall (r := .int r20) (W.runS (As := [.int x2]) (rest := []) ⟨hx, hb, hml, hown, hts⟩ (c_RP_isWhat l N x2 hq) (va_cwS 1 hts (gdS tw_251 tw_252 tw_34 tw_253) rfl rfl rfl (by decide +kernel) ⟨Nat.le_of_ble_eq_true rfl, Nat.le_of_ble_eq_true rfl⟩) preEq rfl rfl hl.1 rfl (lv_room (Nat.le_of_ble_eq_true rfl)) d_RP_amount_20 ⟨Nat.zero_le _, Nat.zero_le _⟩) ?_
    refine lv_if_eq (tgt := 40) hx hb d_RP_amount_23 (by decide) (fun c23 => ?_) (fun c23 => ?_)
    · have h := ifp c23 h
      refine lv_iconst (v := 0) hx hb d_RP_amount_40 (by decide) ?_
      exact m_zret hx hb hr hlk hw h d_RP_amount_41
    · have h := ifn c23 h
      refine lv_iload_n hx hb d_RP_amount_26 rfl (lv_at hl 3 rfl) ?_
      refine lv_i2l hx hb d_RP_amount_27 rfl ?_
      refine lv_ldc2 (v := -100) hx hb hown (hts _ (List.mem_cons_of_mem _ tw_255)) d_RP_amount_28 ?_
      refine lv_ldc2 (v := 100) hx hb hown (hts _ (List.mem_cons_of_mem _ tw_256)) d_RP_amount_31 ?_
      obtain ⟨r34, hq, h⟩ := bd h
      refine m_pcall (r := .int r34) (W.runS (As := [.long x3.toInt64, .long (-100 : Int64), .long (100 : Int64)]) (rest := []) ⟨hx, hb, hml, hown, hts⟩ (c_RP_within l N x3.toInt64 (-100 : Int64) (100 : Int64) hq) (va_cwS 3 hts (gdS tw_242 tw_243 tw_34 tw_244) rfl rfl rfl (by decide +kernel) ⟨Nat.le_of_ble_eq_true rfl, Nat.le_of_ble_eq_true rfl⟩) preEq rfl rfl hl.1 rfl (lv_room (Nat.le_of_ble_eq_true rfl)) d_RP_amount_34 ⟨Nat.zero_le _, Nat.zero_le _⟩) ?_
      refine lv_if_ne (tgt := 42) hx hb d_RP_amount_37 (by decide) (fun c37 => ?_) (fun c37 => ?_)
      · have h := ifn c37 h
        refine lv_aload_n hx hb d_RP_amount_42 rfl (lv_at hl 0 rfl) ?_
        refine va_get (D := G.1) (ci := 0) (v := .ref (G.2.1 1)) (C := "RecipePlans") (T := T_RP) (N := 8) hx hb hts (fun _ h9 => List.mem_cons_of_mem _ (inT_RP _ h9)) hown hK hw.1 0 (WL_get (by decide)) rfl 0 (by decide) (hts _ (List.mem_cons_of_mem _ tw_221)) (fun _ h9 => h9) rfl d_RP_amount_43 ?_
        refine va_get (D := G.1) (ci := 1) (v := .ref (G.2.1 8)) (C := "RecipePlans$Lots") (T := T_Lo) (N := 4) hx hb hts (fun _ h9 => List.mem_cons_of_mem _ (inT_Lo _ h9)) hown hK hw.1 1 (WL_get (by decide)) rfl 3 (by decide) (hts _ (List.mem_cons_of_mem _ tw_69)) (fun _ h9 => h9) rfl d_RP_amount_46 ?_
        refine lv_iload_n hx hb d_RP_amount_49 rfl (lv_at hl 2 rfl) ?_
        obtain ⟨a50, hv, h⟩ := bd h
        refine m_aaload hx hb hK hw hv d_RP_amount_50 ?_
        refine lv_iload_n hx hb d_RP_amount_51 rfl (lv_at hl 1 rfl) ?_
        refine lv_iload_n hx hb d_RP_amount_52 rfl (lv_at hl 3 rfl) ?_
        refine lv_i2l hx hb d_RP_amount_53 rfl ?_
        obtain ⟨μ54, hm, h⟩ := bd h
        refine m_lastore hx hb hK hw hm d_RP_amount_54 (fun H locs hw => ?_)
        refine lv_iconst (v := 1) hx hb d_RP_amount_55 (by decide) ?_
        exact m_zret hx hb hr hlk hw h d_RP_amount_56
      · have h := ifp c37 h
        refine lv_iconst (v := 0) hx hb d_RP_amount_40 (by decide) ?_
        exact m_zret hx hb hr hlk hw h d_RP_amount_41
set_option maxRecDepth 100000 in
set_option maxHeartbeats 4000000 in
theorem c_RP_span (l : Launch) (G : Gw) (N : Nat) (x1 : Int32) (x2 : Int32) (x3 : Int32) (μ : Mem) {r : Int32} {μ' : Mem} (h : M_RP_span N x1 x2 x3 μ = some (r, μ')) : CT l y_RP_span ws_RP_span rm_RP_span [.ref (G.2.1 0), .int x1, .int x2, .int x3] G μ (some (.int r)) μ' := by
  refine m_met (cc := prog_1_method_4_code) (maxL := 4) (ret := (some .boolean)) (by decide) rfl (Nat.le_of_ble_eq_true rfl) ?_
  intro p e s m args below meth c ls C hw hl
  obtain ⟨hx, hb, hr, hml, hown, hts, hlk, hK, hSt⟩ := id C
  have hl : lv_has ls 4 [(0, .ref (G.2.1 0)), (1, .int x1), (2, .int x2), (3, .int x3)] := hl
  unfold M_RP_span at h
  refine lv_iload_n hx hb d_RP_span_0 rfl (lv_at hl 1 rfl) ?_
  obtain ⟨r1, hq, h⟩ := bd h
  refine m_pcall (r := .int r1) (W.runS (As := [.int x1]) (rest := []) ⟨hx, hb, hml, hown, hts⟩ (c_RP_isWhat l N x1 hq) (va_cwS 1 hts (gdS tw_251 tw_252 tw_34 tw_253) rfl rfl rfl (by decide +kernel) ⟨Nat.le_of_ble_eq_true rfl, Nat.le_of_ble_eq_true rfl⟩) preEq rfl rfl hl.1 rfl (lv_room (Nat.le_of_ble_eq_true rfl)) d_RP_span_1 ⟨Nat.zero_le _, Nat.zero_le _⟩) ?_
  refine lv_if_eq (tgt := 19) hx hb d_RP_span_4 (by decide) (fun c4 => ?_) (fun c4 => ?_)
  · have h := ifp c4 h
    refine lv_iconst (v := 0) hx hb d_RP_span_19 (by decide) ?_
    exact m_zret hx hb hr hlk hw h d_RP_span_20
  · have h := ifn c4 h
    refine lv_iload_n hx hb d_RP_span_7 rfl (lv_at hl 2 rfl) ?_
    refine lv_iload_n hx hb d_RP_span_8 rfl (lv_at hl 3 rfl) ?_
    refine lv_ldc (v := -100000) hx hb hown (hts _ (List.mem_cons_of_mem _ tw_261)) d_RP_span_9 ?_
    refine lv_ldc (v := 100000) hx hb hown (hts _ (List.mem_cons_of_mem _ tw_262)) d_RP_span_11 ?_
    obtain ⟨r13, hq, h⟩ := bd h
    refine m_pcall (r := .int r13) (W.runS (As := [.int x2, .int x3, .int (-100000 : Int32), .int (100000 : Int32)]) (rest := []) ⟨hx, hb, hml, hown, hts⟩ (c_RP_isRange l N x2 x3 (-100000 : Int32) (100000 : Int32) hq) (va_cwS 4 hts (gdS tw_263 tw_264 tw_34 tw_265) rfl rfl rfl (by decide +kernel) ⟨Nat.le_of_ble_eq_true rfl, Nat.le_of_ble_eq_true rfl⟩) preEq rfl rfl hl.1 rfl (lv_room (Nat.le_of_ble_eq_true rfl)) d_RP_span_13 ⟨Nat.zero_le _, Nat.zero_le _⟩) ?_
    refine lv_if_ne (tgt := 21) hx hb d_RP_span_16 (by decide) (fun c16 => ?_) (fun c16 => ?_)
    · have h := ifn c16 h
      refine lv_aload_n hx hb d_RP_span_21 rfl (lv_at hl 0 rfl) ?_
      refine va_get (D := G.1) (ci := 0) (v := .ref (G.2.1 2)) (C := "RecipePlans") (T := T_RP) (N := 8) hx hb hts (fun _ h9 => List.mem_cons_of_mem _ (inT_RP _ h9)) hown hK hw.1 0 (WL_get (by decide)) rfl 1 (by decide) (hts _ (List.mem_cons_of_mem _ tw_222)) (fun _ h9 => h9) rfl d_RP_span_22 ?_
      refine lv_iload_n hx hb d_RP_span_25 rfl (lv_at hl 1 rfl) ?_
      refine lv_iload_n hx hb d_RP_span_26 rfl (lv_at hl 1 rfl) ?_
      refine lv_bipush (v := 6) hx hb d_RP_span_27 (by decide) ?_
      refine lv_iload_n hx hb d_RP_span_29 rfl (lv_at hl 2 rfl) ?_
      refine lv_iload_n hx hb d_RP_span_30 rfl (lv_at hl 3 rfl) ?_
      refine lv_iconst (v := 1) hx hb d_RP_span_31 (by decide) ?_
      obtain ⟨μ32, hq, h⟩ := bd h
      refine m_call (r := none) (μ1 := μ32) (va_runV (C := "RecipePlans$Rules") (As := [.int x1, .int x1, .int (6 : Int32), .int x2, .int x3, .int (1 : Int32)]) (rest := []) ⟨hx, hb, hml, hown, hts⟩ (c_Ru_tell l G N x1 x1 (6 : Int32) x2 x3 (1 : Int32) μ hq _) (cwV 6 hts (gdV tw_266 tw_267 tw_268 tw_36 tw_269) rfl rfl rfl (by decide +kernel) ⟨Nat.le_of_ble_eq_true rfl, Nat.le_of_ble_eq_true rfl⟩) (m_preV (k := 2) (by decide) rfl hK hSt hw) rfl rfl hl.1 rfl (lv_room (Nat.le_of_ble_eq_true rfl)) d_RP_span_32 ⟨Nat.zero_le _, Nat.zero_le _⟩) hw (fun H locs hw => ?_)
      refine lv_iconst (v := 1) hx hb d_RP_span_35 (by decide) ?_
      exact m_zret hx hb hr hlk hw h d_RP_span_36
    · have h := ifp c16 h
      refine lv_iconst (v := 0) hx hb d_RP_span_19 (by decide) ?_
      exact m_zret hx hb hr hlk hw h d_RP_span_20
set_option maxRecDepth 100000 in
set_option maxHeartbeats 4000000 in
theorem c_RP_ratio (l : Launch) (G : Gw) (N : Nat) (x1 : Int32) (x2 : Int32) (x3 : Int32) (x4 : Int32) (x5 : Int32) (x6 : Int32) (μ : Mem) {r : Int32} {μ' : Mem} (h : M_RP_ratio N x1 x2 x3 x4 x5 x6 μ = some (r, μ')) : CT l y_RP_ratio ws_RP_ratio rm_RP_ratio [.ref (G.2.1 0), .int x1, .int x2, .int x3, .int x4, .int x5, .int x6] G μ (some (.int r)) μ' := by
  refine m_met (cc := prog_1_method_5_code) (maxL := 7) (ret := (some .boolean)) (by decide) rfl (Nat.le_of_ble_eq_true rfl) ?_
  intro p e s m args below meth c ls C hw hl
  obtain ⟨hx, hb, hr, hml, hown, hts, hlk, hK, hSt⟩ := id C
  have hl : lv_has ls 7 [(0, .ref (G.2.1 0)), (1, .int x1), (2, .int x2), (3, .int x3), (4, .int x4), (5, .int x5), (6, .int x6)] := hl
  unfold M_RP_ratio at h
  refine lv_iload_n hx hb d_RP_ratio_0 rfl (lv_at hl 1 rfl) ?_
  refine lv_i2l hx hb d_RP_ratio_1 rfl ?_
  refine lv_lconst (v := 0) hx hb d_RP_ratio_2 (by decide) ?_
  refine lv_lconst (v := 1) hx hb d_RP_ratio_3 (by decide) ?_
  obtain ⟨r4, hq, h⟩ := bd h
  refine m_pcall (r := .int r4) (W.runS (As := [.long x1.toInt64, .long (0 : Int64), .long (1 : Int64)]) (rest := []) ⟨hx, hb, hml, hown, hts⟩ (c_RP_within l N x1.toInt64 (0 : Int64) (1 : Int64) hq) (va_cwS 3 hts (gdS tw_242 tw_243 tw_34 tw_244) rfl rfl rfl (by decide +kernel) ⟨Nat.le_of_ble_eq_true rfl, Nat.le_of_ble_eq_true rfl⟩) preEq rfl rfl hl.1 rfl (lv_room (Nat.le_of_ble_eq_true rfl)) d_RP_ratio_4 ⟨Nat.zero_le _, Nat.zero_le _⟩) ?_
  refine lv_if_eq (tgt := 24) hx hb d_RP_ratio_7 (by decide) (fun c7 => ?_) (fun c7 => ?_)
  · have h := ifp c7 h
    refine lv_iconst (v := 0) hx hb d_RP_ratio_24 (by decide) ?_
    exact m_zret hx hb hr hlk hw h d_RP_ratio_25
  · have h := ifn c7 h
    refine lv_iload_n hx hb d_RP_ratio_10 rfl (lv_at hl 2 rfl) ?_
    obtain ⟨r11, hq, h⟩ := bd h
    refine m_pcall (r := .int r11) (W.runS (As := [.int x2]) (rest := []) ⟨hx, hb, hml, hown, hts⟩ (c_RP_isWhat l N x2 hq) (va_cwS 1 hts (gdS tw_251 tw_252 tw_34 tw_253) rfl rfl rfl (by decide +kernel) ⟨Nat.le_of_ble_eq_true rfl, Nat.le_of_ble_eq_true rfl⟩) preEq rfl rfl hl.1 rfl (lv_room (Nat.le_of_ble_eq_true rfl)) d_RP_ratio_11 ⟨Nat.zero_le _, Nat.zero_le _⟩) ?_
    refine lv_if_eq (tgt := 24) hx hb d_RP_ratio_14 (by decide) (fun c14 => ?_) (fun c14 => ?_)
    · have h := ifp c14 h
      refine lv_iconst (v := 0) hx hb d_RP_ratio_24 (by decide) ?_
      exact m_zret hx hb hr hlk hw h d_RP_ratio_25
    · have h := ifn c14 h
      refine lv_iload_n hx hb d_RP_ratio_17 rfl (lv_at hl 3 rfl) ?_
      obtain ⟨r18, hq, h⟩ := bd h
      refine m_pcall (r := .int r18) (W.runS (As := [.int x3]) (rest := []) ⟨hx, hb, hml, hown, hts⟩ (c_RP_isWhat l N x3 hq) (va_cwS 1 hts (gdS tw_251 tw_252 tw_34 tw_253) rfl rfl rfl (by decide +kernel) ⟨Nat.le_of_ble_eq_true rfl, Nat.le_of_ble_eq_true rfl⟩) preEq rfl rfl hl.1 rfl (lv_room (Nat.le_of_ble_eq_true rfl)) d_RP_ratio_18 ⟨Nat.zero_le _, Nat.zero_le _⟩) ?_
      refine lv_if_ne (tgt := 26) hx hb d_RP_ratio_21 (by decide) (fun c21 => ?_) (fun c21 => ?_)
      · have h := ifn c21 h
        refine lv_iload hx hb d_RP_ratio_26 (lv_at hl 4 rfl) ?_
        refine lv_iload hx hb d_RP_ratio_28 (lv_at hl 5 rfl) ?_
        refine lv_iconst (v := 0) hx hb d_RP_ratio_30 (by decide) ?_
        refine lv_bipush (v := 100) hx hb d_RP_ratio_31 (by decide) ?_
        obtain ⟨r33, hq, h⟩ := bd h
        refine m_pcall (r := .int r33) (W.runS (As := [.int x4, .int x5, .int (0 : Int32), .int (100 : Int32)]) (rest := []) ⟨hx, hb, hml, hown, hts⟩ (c_RP_isRange l N x4 x5 (0 : Int32) (100 : Int32) hq) (va_cwS 4 hts (gdS tw_263 tw_264 tw_34 tw_265) rfl rfl rfl (by decide +kernel) ⟨Nat.le_of_ble_eq_true rfl, Nat.le_of_ble_eq_true rfl⟩) preEq rfl rfl hl.1 rfl (lv_room (Nat.le_of_ble_eq_true rfl)) d_RP_ratio_33 ⟨Nat.zero_le _, Nat.zero_le _⟩) ?_
        refine lv_if_eq (tgt := 52) hx hb d_RP_ratio_36 (by decide) (fun c36 => ?_) (fun c36 => ?_)
        · have h := ifp c36 h
          refine lv_iconst (v := 0) hx hb d_RP_ratio_52 (by decide) ?_
          exact m_zret hx hb hr hlk hw h d_RP_ratio_53
        · have h := ifn c36 h
          refine lv_iload hx hb d_RP_ratio_39 (lv_at hl 6 rfl) ?_
          refine lv_i2l hx hb d_RP_ratio_41 rfl ?_
          refine lv_lconst (v := 1) hx hb d_RP_ratio_42 (by decide) ?_
          refine lv_ldc2 (v := 100) hx hb hown (hts _ (List.mem_cons_of_mem _ tw_256)) d_RP_ratio_43 ?_
          obtain ⟨r46, hq, h⟩ := bd h
          refine m_pcall (r := .int r46) (W.runS (As := [.long x6.toInt64, .long (1 : Int64), .long (100 : Int64)]) (rest := []) ⟨hx, hb, hml, hown, hts⟩ (c_RP_within l N x6.toInt64 (1 : Int64) (100 : Int64) hq) (va_cwS 3 hts (gdS tw_242 tw_243 tw_34 tw_244) rfl rfl rfl (by decide +kernel) ⟨Nat.le_of_ble_eq_true rfl, Nat.le_of_ble_eq_true rfl⟩) preEq rfl rfl hl.1 rfl (lv_room (Nat.le_of_ble_eq_true rfl)) d_RP_ratio_46 ⟨Nat.zero_le _, Nat.zero_le _⟩) ?_
          refine lv_if_ne (tgt := 54) hx hb d_RP_ratio_49 (by decide) (fun c49 => ?_) (fun c49 => ?_)
          · have h := ifn c49 h
            refine lv_aload_n hx hb d_RP_ratio_54 rfl (lv_at hl 0 rfl) ?_
            refine va_get (D := G.1) (ci := 0) (v := .ref (G.2.1 2)) (C := "RecipePlans") (T := T_RP) (N := 8) hx hb hts (fun _ h9 => List.mem_cons_of_mem _ (inT_RP _ h9)) hown hK hw.1 0 (WL_get (by decide)) rfl 1 (by decide) (hts _ (List.mem_cons_of_mem _ tw_222)) (fun _ h9 => h9) rfl d_RP_ratio_55 ?_
            refine lv_iconst (v := 5) hx hb d_RP_ratio_58 (by decide) ?_
            refine lv_iload_n hx hb d_RP_ratio_59 rfl (lv_at hl 1 rfl) ?_
            refine lv_iadd hx hb d_RP_ratio_60 ?_
            refine lv_iload_n hx hb d_RP_ratio_61 rfl (lv_at hl 2 rfl) ?_
            refine lv_iload_n hx hb d_RP_ratio_62 rfl (lv_at hl 3 rfl) ?_
            refine lv_iload hx hb d_RP_ratio_63 (lv_at hl 4 rfl) ?_
            refine lv_iload hx hb d_RP_ratio_65 (lv_at hl 5 rfl) ?_
            refine lv_iload hx hb d_RP_ratio_67 (lv_at hl 6 rfl) ?_
            obtain ⟨μ69, hq, h⟩ := bd h
            refine m_call (r := none) (μ1 := μ69) (va_runV (C := "RecipePlans$Rules") (As := [.int ((5 : Int32) + x1), .int x2, .int x3, .int x4, .int x5, .int x6]) (rest := []) ⟨hx, hb, hml, hown, hts⟩ (c_Ru_tell l G N ((5 : Int32) + x1) x2 x3 x4 x5 x6 μ hq _) (cwV 6 hts (gdV tw_266 tw_267 tw_268 tw_36 tw_269) rfl rfl rfl (by decide +kernel) ⟨Nat.le_of_ble_eq_true rfl, Nat.le_of_ble_eq_true rfl⟩) (m_preV (k := 2) (by decide) rfl hK hSt hw) rfl rfl hl.1 rfl (lv_room (Nat.le_of_ble_eq_true rfl)) d_RP_ratio_69 ⟨Nat.zero_le _, Nat.zero_le _⟩) hw (fun H locs hw => ?_)
            refine lv_iconst (v := 1) hx hb d_RP_ratio_72 (by decide) ?_
            exact m_zret hx hb hr hlk hw h d_RP_ratio_73
          · have h := ifp c49 h
            refine lv_iconst (v := 0) hx hb d_RP_ratio_52 (by decide) ?_
            exact m_zret hx hb hr hlk hw h d_RP_ratio_53
      · have h := ifp c21 h
        refine lv_iconst (v := 0) hx hb d_RP_ratio_24 (by decide) ?_
        exact m_zret hx hb hr hlk hw h d_RP_ratio_25
set_option maxRecDepth 100000 in
set_option maxHeartbeats 4000000 in
theorem c_RP_loads (l : Launch) (G : Gw) (N : Nat) (x1 : Int32) (x2 : Int32) (μ : Mem) {r : Int32} {μ' : Mem} (h : M_RP_loads N x1 x2 μ = some (r, μ')) : CT l y_RP_loads ws_RP_loads rm_RP_loads [.ref (G.2.1 0), .int x1, .int x2] G μ (some (.int r)) μ' := by
  refine m_met (cc := prog_1_method_6_code) (maxL := 3) (ret := (some .boolean)) (by decide) rfl (Nat.le_of_ble_eq_true rfl) ?_
  intro p e s m args below meth c ls C hw hl
  obtain ⟨hx, hb, hr, hml, hown, hts, hlk, hK, hSt⟩ := id C
  have hl : lv_has ls 3 [(0, .ref (G.2.1 0)), (1, .int x1), (2, .int x2)] := hl
  unfold M_RP_loads at h
  refine lv_iload_n hx hb d_RP_loads_0 rfl (lv_at hl 1 rfl) ?_
  refine lv_iload_n hx hb d_RP_loads_1 rfl (lv_at hl 2 rfl) ?_
  refine lv_iconst (v := 0) hx hb d_RP_loads_2 (by decide) ?_
  refine lv_bipush (v := 36) hx hb d_RP_loads_3 (by decide) ?_
  obtain ⟨r5, hq, h⟩ := bd h
  refine m_pcall (r := .int r5) (W.runS (As := [.int x1, .int x2, .int (0 : Int32), .int (36 : Int32)]) (rest := []) ⟨hx, hb, hml, hown, hts⟩ (c_RP_isRange l N x1 x2 (0 : Int32) (36 : Int32) hq) (va_cwS 4 hts (gdS tw_263 tw_264 tw_34 tw_265) rfl rfl rfl (by decide +kernel) ⟨Nat.le_of_ble_eq_true rfl, Nat.le_of_ble_eq_true rfl⟩) preEq rfl rfl hl.1 rfl (lv_room (Nat.le_of_ble_eq_true rfl)) d_RP_loads_5 ⟨Nat.zero_le _, Nat.zero_le _⟩) ?_
  refine lv_if_ne (tgt := 13) hx hb d_RP_loads_8 (by decide) (fun c8 => ?_) (fun c8 => ?_)
  · have h := ifn c8 h
    refine lv_aload_n hx hb d_RP_loads_13 rfl (lv_at hl 0 rfl) ?_
    refine va_get (D := G.1) (ci := 0) (v := .ref (G.2.1 2)) (C := "RecipePlans") (T := T_RP) (N := 8) hx hb hts (fun _ h9 => List.mem_cons_of_mem _ (inT_RP _ h9)) hown hK hw.1 0 (WL_get (by decide)) rfl 1 (by decide) (hts _ (List.mem_cons_of_mem _ tw_222)) (fun _ h9 => h9) rfl d_RP_loads_14 ?_
    refine lv_bipush (v := 7) hx hb d_RP_loads_17 (by decide) ?_
    refine lv_iconst (v := 5) hx hb d_RP_loads_19 (by decide) ?_
    refine lv_bipush (v := 6) hx hb d_RP_loads_20 (by decide) ?_
    refine lv_iload_n hx hb d_RP_loads_22 rfl (lv_at hl 1 rfl) ?_
    refine lv_iload_n hx hb d_RP_loads_23 rfl (lv_at hl 2 rfl) ?_
    refine lv_iconst (v := 1) hx hb d_RP_loads_24 (by decide) ?_
    obtain ⟨μ25, hq, h⟩ := bd h
    refine m_call (r := none) (μ1 := μ25) (va_runV (C := "RecipePlans$Rules") (As := [.int (7 : Int32), .int (5 : Int32), .int (6 : Int32), .int x1, .int x2, .int (1 : Int32)]) (rest := []) ⟨hx, hb, hml, hown, hts⟩ (c_Ru_tell l G N (7 : Int32) (5 : Int32) (6 : Int32) x1 x2 (1 : Int32) μ hq _) (cwV 6 hts (gdV tw_266 tw_267 tw_268 tw_36 tw_269) rfl rfl rfl (by decide +kernel) ⟨Nat.le_of_ble_eq_true rfl, Nat.le_of_ble_eq_true rfl⟩) (m_preV (k := 2) (by decide) rfl hK hSt hw) rfl rfl hl.1 rfl (lv_room (Nat.le_of_ble_eq_true rfl)) d_RP_loads_25 ⟨Nat.zero_le _, Nat.zero_le _⟩) hw (fun H locs hw => ?_)
    refine lv_iconst (v := 1) hx hb d_RP_loads_28 (by decide) ?_
    exact m_zret hx hb hr hlk hw h d_RP_loads_29
  · have h := ifp c8 h
    refine lv_iconst (v := 0) hx hb d_RP_loads_11 (by decide) ?_
    exact m_zret hx hb hr hlk hw h d_RP_loads_12
set_option maxRecDepth 100000 in
set_option maxHeartbeats 4000000 in
theorem c_RP_untell (l : Launch) (G : Gw) (N : Nat) (x1 : Int32) (μ : Mem) {r : Int32} {μ' : Mem} (h : M_RP_untell N x1 μ = some (r, μ')) : CT l y_RP_untell ws_RP_untell rm_RP_untell [.ref (G.2.1 0), .int x1] G μ (some (.int r)) μ' := by
  refine m_met (cc := prog_1_method_7_code) (maxL := 2) (ret := (some .boolean)) (by decide) rfl (Nat.le_of_ble_eq_true rfl) ?_
  intro p e s m args below meth c ls C hw hl
  obtain ⟨hx, hb, hr, hml, hown, hts, hlk, hK, hSt⟩ := id C
  have hl : lv_has ls 2 [(0, .ref (G.2.1 0)), (1, .int x1)] := hl
  unfold M_RP_untell at h
  refine lv_iload_n hx hb d_RP_untell_0 rfl (lv_at hl 1 rfl) ?_
  refine lv_i2l hx hb d_RP_untell_1 rfl ?_
  refine lv_lconst (v := 0) hx hb d_RP_untell_2 (by decide) ?_
  refine lv_ldc2 (v := 7) hx hb hown (hts _ (List.mem_cons_of_mem _ tw_282)) d_RP_untell_3 ?_
  obtain ⟨r6, hq, h⟩ := bd h
  refine m_pcall (r := .int r6) (W.runS (As := [.long x1.toInt64, .long (0 : Int64), .long (7 : Int64)]) (rest := []) ⟨hx, hb, hml, hown, hts⟩ (c_RP_within l N x1.toInt64 (0 : Int64) (7 : Int64) hq) (va_cwS 3 hts (gdS tw_242 tw_243 tw_34 tw_244) rfl rfl rfl (by decide +kernel) ⟨Nat.le_of_ble_eq_true rfl, Nat.le_of_ble_eq_true rfl⟩) preEq rfl rfl hl.1 rfl (lv_room (Nat.le_of_ble_eq_true rfl)) d_RP_untell_6 ⟨Nat.zero_le _, Nat.zero_le _⟩) ?_
  refine lv_if_eq (tgt := 23) hx hb d_RP_untell_9 (by decide) (fun c9 => ?_) (fun c9 => ?_)
  · have h := ifp c9 h
    refine lv_iconst (v := 0) hx hb d_RP_untell_23 (by decide) ?_
    exact m_zret hx hb hr hlk hw h d_RP_untell_24
  · have h := ifn c9 h
    refine lv_aload_n hx hb d_RP_untell_12 rfl (lv_at hl 0 rfl) ?_
    refine va_get (D := G.1) (ci := 0) (v := .ref (G.2.1 2)) (C := "RecipePlans") (T := T_RP) (N := 8) hx hb hts (fun _ h9 => List.mem_cons_of_mem _ (inT_RP _ h9)) hown hK hw.1 0 (WL_get (by decide)) rfl 1 (by decide) (hts _ (List.mem_cons_of_mem _ tw_222)) (fun _ h9 => h9) rfl d_RP_untell_13 ?_
    refine lv_iload_n hx hb d_RP_untell_16 rfl (lv_at hl 1 rfl) ?_
    obtain ⟨r17, μ17, hq, h⟩ := bd2 h
    refine m_call (r := some (.int r17)) (μ1 := μ17) (va_runV (C := "RecipePlans$Rules") (As := [.int x1]) (rest := []) ⟨hx, hb, hml, hown, hts⟩ (c_Ru_isTold l G N x1 μ hq _) (cwV 1 hts (gdV tw_283 tw_284 tw_285 tw_36 tw_286) rfl rfl rfl (by decide +kernel) ⟨Nat.le_of_ble_eq_true rfl, Nat.le_of_ble_eq_true rfl⟩) (m_preV (k := 2) (by decide) rfl hK hSt hw) rfl rfl hl.1 rfl (lv_room (Nat.le_of_ble_eq_true rfl)) d_RP_untell_17 ⟨Nat.zero_le _, Nat.zero_le _⟩) hw (fun H locs hw => ?_)
    refine lv_if_ne (tgt := 25) hx hb d_RP_untell_20 (by decide) (fun c20 => ?_) (fun c20 => ?_)
    · have h := ifn c20 h
      refine lv_aload_n hx hb d_RP_untell_25 rfl (lv_at hl 0 rfl) ?_
      refine va_get (D := G.1) (ci := 0) (v := .ref (G.2.1 2)) (C := "RecipePlans") (T := T_RP) (N := 8) hx hb hts (fun _ h9 => List.mem_cons_of_mem _ (inT_RP _ h9)) hown hK hw.1 0 (WL_get (by decide)) rfl 1 (by decide) (hts _ (List.mem_cons_of_mem _ tw_222)) (fun _ h9 => h9) rfl d_RP_untell_26 ?_
      refine lv_dup hx hb d_RP_untell_29 rfl ?_
      refine va_get (D := G.1) (ci := 2) (v := .int (μ17.1 2 0)) (C := "RecipePlans$Rules") (T := T_Ru) (N := 6) hx hb hts (fun _ h9 => List.mem_cons_of_mem _ (inT_Ru _ h9)) hown hK hw.1 2 (WL_get (by decide)) rfl 0 (by decide) (hts _ (List.mem_cons_of_mem _ tw_84)) (fun _ h9 => h9) rfl d_RP_untell_30 ?_
      refine lv_iconst (v := 1) hx hb d_RP_untell_33 (by decide) ?_
      refine lv_iload_n hx hb d_RP_untell_34 rfl (lv_at hl 1 rfl) ?_
      refine lv_ishl hx hb d_RP_untell_35 ?_
      refine lv_ixor hx hb d_RP_untell_36 ?_
      obtain ⟨μ37, hm, h⟩ := bd h
      refine va_put (D := G.1) (ci := 2) (v := .int ((μ17.1 2 0) ^^^ ((1 : Int32) <<< (x1 &&& 31)))) (ty := .int) (C := "RecipePlans$Rules") (T := T_Ru) (N := 6) hx hb hts (fun _ h9 => List.mem_cons_of_mem _ (inT_Ru _ h9)) ty_Ru tyok_Ru nm_Ru hown hK hw.1 hw.2.1 hw.2.2 2 (WL_get (by decide)) rfl 0 (by decide) (hts _ (List.mem_cons_of_mem _ tw_84)) (fun _ h9 => h9) rfl (by decide +kernel) rfl rfl (Nat.le_of_ble_eq_true rfl) d_RP_untell_37 (fun H locs hP hD hS => ?_)
      have hw := wk_pI hm (by decide) (by rfl) hP hD hS
      refine lv_iconst (v := 1) hx hb d_RP_untell_40 (by decide) ?_
      exact m_zret hx hb hr hlk hw h d_RP_untell_41
    · have h := ifp c20 h
      refine lv_iconst (v := 0) hx hb d_RP_untell_23 (by decide) ?_
      exact m_zret hx hb hr hlk hw h d_RP_untell_24
set_option maxRecDepth 100000 in
set_option maxHeartbeats 4000000 in
theorem c_RP_run (l : Launch) (G : Gw) (N : Nat) (μ : Mem) {r : Int32} {μ' : Mem} (h : M_RP_run N μ = some (r, μ')) : CT l y_RP_run ws_RP_run rm_RP_run [.ref (G.2.1 0)] G μ (some (.int r)) μ' := by
  refine m_met (cc := prog_1_method_8_code) (maxL := 1) (ret := (some .int)) (by decide) rfl (Nat.le_of_ble_eq_true rfl) ?_
  intro p e s m args below meth c ls C hw hl
  obtain ⟨hx, hb, hr, hml, hown, hts, hlk, hK, hSt⟩ := id C
  have hl : lv_has ls 1 [(0, .ref (G.2.1 0))] := hl
  unfold M_RP_run at h
  refine lv_aload_n hx hb d_RP_run_0 rfl (lv_at hl 0 rfl) ?_
  refine va_get (D := G.1) (ci := 0) (v := .ref (G.2.1 3)) (C := "RecipePlans") (T := T_RP) (N := 8) hx hb hts (fun _ h9 => List.mem_cons_of_mem _ (inT_RP _ h9)) hown hK hw.1 0 (WL_get (by decide)) rfl 2 (by decide) (hts _ (List.mem_cons_of_mem _ tw_223)) (fun _ h9 => h9) rfl d_RP_run_1 ?_
  refine lv_aload_n hx hb d_RP_run_4 rfl (lv_at hl 0 rfl) ?_
  refine va_get (D := G.1) (ci := 0) (v := .ref (G.2.1 1)) (C := "RecipePlans") (T := T_RP) (N := 8) hx hb hts (fun _ h9 => List.mem_cons_of_mem _ (inT_RP _ h9)) hown hK hw.1 0 (WL_get (by decide)) rfl 0 (by decide) (hts _ (List.mem_cons_of_mem _ tw_221)) (fun _ h9 => h9) rfl d_RP_run_5 ?_
  refine lv_aload_n hx hb d_RP_run_8 rfl (lv_at hl 0 rfl) ?_
  refine va_get (D := G.1) (ci := 0) (v := .ref (G.2.1 2)) (C := "RecipePlans") (T := T_RP) (N := 8) hx hb hts (fun _ h9 => List.mem_cons_of_mem _ (inT_RP _ h9)) hown hK hw.1 0 (WL_get (by decide)) rfl 1 (by decide) (hts _ (List.mem_cons_of_mem _ tw_222)) (fun _ h9 => h9) rfl d_RP_run_9 ?_
  obtain ⟨μ12, hq, h⟩ := bd h
  refine m_call (r := none) (μ1 := μ12) (va_runV (C := "RecipePlans$Sides") (As := [.ref (G.2.1 1), .ref (G.2.1 2)]) (rest := []) ⟨hx, hb, hml, hown, hts⟩ (c_Si_build l G N μ hq _) (cwV 2 hts (gdV tw_293 tw_294 tw_295 tw_37 tw_296) rfl rfl rfl (by decide +kernel) ⟨Nat.le_of_ble_eq_true rfl, Nat.le_of_ble_eq_true rfl⟩) (m_preV (k := 3) (by decide) rfl hK hSt hw) rfl rfl hl.1 rfl (lv_room (Nat.le_of_ble_eq_true rfl)) d_RP_run_12 ⟨Nat.zero_le _, Nat.zero_le _⟩) hw (fun H locs hw => ?_)
  refine lv_aload_n hx hb d_RP_run_15 rfl (lv_at hl 0 rfl) ?_
  refine va_get (D := G.1) (ci := 0) (v := .ref (G.2.1 4)) (C := "RecipePlans") (T := T_RP) (N := 8) hx hb hts (fun _ h9 => List.mem_cons_of_mem _ (inT_RP _ h9)) hown hK hw.1 0 (WL_get (by decide)) rfl 3 (by decide) (hts _ (List.mem_cons_of_mem _ tw_224)) (fun _ h9 => h9) rfl d_RP_run_16 ?_
  obtain ⟨μ19, hq, h⟩ := bd h
  refine m_call (r := none) (μ1 := μ19) (va_runV (C := "RecipePlans$CutSearch") (As := []) (rest := []) ⟨hx, hb, hml, hown, hts⟩ (c_CS_search l G N μ12 hq _) (cwV 0 hts (gdV tw_301 tw_302 tw_303 tw_38 tw_304) rfl rfl rfl (by decide +kernel) ⟨Nat.le_of_ble_eq_true rfl, Nat.le_of_ble_eq_true rfl⟩) (m_preV (k := 4) (by decide) rfl hK hSt hw) rfl rfl hl.1 rfl (lv_room (Nat.le_of_ble_eq_true rfl)) d_RP_run_19 ⟨Nat.zero_le _, Nat.zero_le _⟩) hw (fun H locs hw => ?_)
  refine lv_aload_n hx hb d_RP_run_22 rfl (lv_at hl 0 rfl) ?_
  refine va_get (D := G.1) (ci := 0) (v := .ref (G.2.1 5)) (C := "RecipePlans") (T := T_RP) (N := 8) hx hb hts (fun _ h9 => List.mem_cons_of_mem _ (inT_RP _ h9)) hown hK hw.1 0 (WL_get (by decide)) rfl 4 (by decide) (hts _ (List.mem_cons_of_mem _ tw_225)) (fun _ h9 => h9) rfl d_RP_run_23 ?_
  refine lv_aload_n hx hb d_RP_run_26 rfl (lv_at hl 0 rfl) ?_
  refine va_get (D := G.1) (ci := 0) (v := .ref (G.2.1 4)) (C := "RecipePlans") (T := T_RP) (N := 8) hx hb hts (fun _ h9 => List.mem_cons_of_mem _ (inT_RP _ h9)) hown hK hw.1 0 (WL_get (by decide)) rfl 3 (by decide) (hts _ (List.mem_cons_of_mem _ tw_224)) (fun _ h9 => h9) rfl d_RP_run_27 ?_
  refine va_get (D := G.1) (ci := 4) (v := .int (μ19.1 4 10)) (C := "RecipePlans$CutSearch") (T := T_CS) (N := 13) hx hb hts (fun _ h9 => List.mem_cons_of_mem _ (inT_CS _ h9)) hown hK hw.1 4 (WL_get (by decide)) rfl 10 (by decide) (hts _ (List.mem_cons_of_mem _ tw_143)) (fun _ h9 => h9) rfl d_RP_run_30 ?_
  obtain ⟨μ33, hq, h⟩ := bd h
  refine m_call (r := none) (μ1 := μ33) (va_runV (C := "RecipePlans$WholeSearch") (As := [.int (μ19.1 4 10)]) (rest := []) ⟨hx, hb, hml, hown, hts⟩ (c_WS_search l G N (μ19.1 4 10) μ19 hq _) (cwV 1 hts (gdV tw_365 tw_366 tw_367 tw_39 tw_368) rfl rfl rfl (by decide +kernel) ⟨Nat.le_of_ble_eq_true rfl, Nat.le_of_ble_eq_true rfl⟩) (m_preV (k := 5) (by decide) rfl hK hSt hw) rfl rfl hl.1 rfl (lv_room (Nat.le_of_ble_eq_true rfl)) d_RP_run_33 ⟨Nat.zero_le _, Nat.zero_le _⟩) hw (fun H locs hw => ?_)
  refine lv_aload_n hx hb d_RP_run_36 rfl (lv_at hl 0 rfl) ?_
  refine va_get (D := G.1) (ci := 0) (v := .ref (G.2.1 6)) (C := "RecipePlans") (T := T_RP) (N := 8) hx hb hts (fun _ h9 => List.mem_cons_of_mem _ (inT_RP _ h9)) hown hK hw.1 0 (WL_get (by decide)) rfl 5 (by decide) (hts _ (List.mem_cons_of_mem _ tw_226)) (fun _ h9 => h9) rfl d_RP_run_37 ?_
  refine lv_aload_n hx hb d_RP_run_40 rfl (lv_at hl 0 rfl) ?_
  refine va_get (D := G.1) (ci := 0) (v := .ref (G.2.1 4)) (C := "RecipePlans") (T := T_RP) (N := 8) hx hb hts (fun _ h9 => List.mem_cons_of_mem _ (inT_RP _ h9)) hown hK hw.1 0 (WL_get (by decide)) rfl 3 (by decide) (hts _ (List.mem_cons_of_mem _ tw_224)) (fun _ h9 => h9) rfl d_RP_run_41 ?_
  obtain ⟨μ44, hq, h⟩ := bd h
  refine m_call (r := none) (μ1 := μ44) (va_runV (C := "RecipePlans$Found") (As := [.ref (G.2.1 4)]) (rest := []) ⟨hx, hb, hml, hown, hts⟩ (c_Fo_takeCut l G N μ33 hq _) (cwV 1 hts (gdV tw_396 tw_397 tw_398 tw_40 tw_399) rfl rfl rfl (by decide +kernel) ⟨Nat.le_of_ble_eq_true rfl, Nat.le_of_ble_eq_true rfl⟩) (m_preV (k := 6) (by decide) rfl hK hSt hw) rfl rfl hl.1 rfl (lv_room (Nat.le_of_ble_eq_true rfl)) d_RP_run_44 ⟨Nat.zero_le _, Nat.zero_le _⟩) hw (fun H locs hw => ?_)
  refine lv_aload_n hx hb d_RP_run_47 rfl (lv_at hl 0 rfl) ?_
  refine va_get (D := G.1) (ci := 0) (v := .ref (G.2.1 6)) (C := "RecipePlans") (T := T_RP) (N := 8) hx hb hts (fun _ h9 => List.mem_cons_of_mem _ (inT_RP _ h9)) hown hK hw.1 0 (WL_get (by decide)) rfl 5 (by decide) (hts _ (List.mem_cons_of_mem _ tw_226)) (fun _ h9 => h9) rfl d_RP_run_48 ?_
  refine lv_aload_n hx hb d_RP_run_51 rfl (lv_at hl 0 rfl) ?_
  refine va_get (D := G.1) (ci := 0) (v := .ref (G.2.1 5)) (C := "RecipePlans") (T := T_RP) (N := 8) hx hb hts (fun _ h9 => List.mem_cons_of_mem _ (inT_RP _ h9)) hown hK hw.1 0 (WL_get (by decide)) rfl 4 (by decide) (hts _ (List.mem_cons_of_mem _ tw_225)) (fun _ h9 => h9) rfl d_RP_run_52 ?_
  refine lv_aload_n hx hb d_RP_run_55 rfl (lv_at hl 0 rfl) ?_
  refine va_get (D := G.1) (ci := 0) (v := .ref (G.2.1 1)) (C := "RecipePlans") (T := T_RP) (N := 8) hx hb hts (fun _ h9 => List.mem_cons_of_mem _ (inT_RP _ h9)) hown hK hw.1 0 (WL_get (by decide)) rfl 0 (by decide) (hts _ (List.mem_cons_of_mem _ tw_221)) (fun _ h9 => h9) rfl d_RP_run_56 ?_
  refine va_get (D := G.1) (ci := 1) (v := .int (μ44.1 1 0)) (C := "RecipePlans$Lots") (T := T_Lo) (N := 4) hx hb hts (fun _ h9 => List.mem_cons_of_mem _ (inT_Lo _ h9)) hown hK hw.1 1 (WL_get (by decide)) rfl 0 (by decide) (hts _ (List.mem_cons_of_mem _ tw_59)) (fun _ h9 => h9) rfl d_RP_run_59 ?_
  obtain ⟨μ62, hq, h⟩ := bd h
  refine m_call (r := none) (μ1 := μ62) (va_runV (C := "RecipePlans$Found") (As := [.ref (G.2.1 5), .int (μ44.1 1 0)]) (rest := []) ⟨hx, hb, hml, hown, hts⟩ (c_Fo_takeWhole l G N (μ44.1 1 0) μ44 hq _) (cwV 2 hts (gdV tw_414 tw_415 tw_416 tw_40 tw_417) rfl rfl rfl (by decide +kernel) ⟨Nat.le_of_ble_eq_true rfl, Nat.le_of_ble_eq_true rfl⟩) (m_preV (k := 6) (by decide) rfl hK hSt hw) rfl rfl hl.1 rfl (lv_room (Nat.le_of_ble_eq_true rfl)) d_RP_run_62 ⟨Nat.zero_le _, Nat.zero_le _⟩) hw (fun H locs hw => ?_)
  refine lv_aload_n hx hb d_RP_run_65 rfl (lv_at hl 0 rfl) ?_
  refine va_get (D := G.1) (ci := 0) (v := .ref (G.2.1 5)) (C := "RecipePlans") (T := T_RP) (N := 8) hx hb hts (fun _ h9 => List.mem_cons_of_mem _ (inT_RP _ h9)) hown hK hw.1 0 (WL_get (by decide)) rfl 4 (by decide) (hts _ (List.mem_cons_of_mem _ tw_225)) (fun _ h9 => h9) rfl d_RP_run_66 ?_
  refine va_get (D := G.1) (ci := 5) (v := .int (μ62.1 5 6)) (C := "RecipePlans$WholeSearch") (T := T_WS) (N := 9) hx hb hts (fun _ h9 => List.mem_cons_of_mem _ (inT_WS _ h9)) hown hK hw.1 5 (WL_get (by decide)) rfl 6 (by decide) (hts _ (List.mem_cons_of_mem _ tw_177)) (fun _ h9 => h9) rfl d_RP_run_69 ?_
  refine lv_if_eq (tgt := 77) hx hb d_RP_run_72 (by decide) (fun c72 => ?_) (fun c72 => ?_)
  · have h := ifp c72 h
    refine lv_aload_n hx hb d_RP_run_77 rfl (lv_at hl 0 rfl) ?_
    refine va_get (D := G.1) (ci := 0) (v := .ref (G.2.1 4)) (C := "RecipePlans") (T := T_RP) (N := 8) hx hb hts (fun _ h9 => List.mem_cons_of_mem _ (inT_RP _ h9)) hown hK hw.1 0 (WL_get (by decide)) rfl 3 (by decide) (hts _ (List.mem_cons_of_mem _ tw_224)) (fun _ h9 => h9) rfl d_RP_run_78 ?_
    refine va_get (D := G.1) (ci := 4) (v := .int (μ62.1 4 10)) (C := "RecipePlans$CutSearch") (T := T_CS) (N := 13) hx hb hts (fun _ h9 => List.mem_cons_of_mem _ (inT_CS _ h9)) hown hK hw.1 4 (WL_get (by decide)) rfl 10 (by decide) (hts _ (List.mem_cons_of_mem _ tw_143)) (fun _ h9 => h9) rfl d_RP_run_81 ?_
    refine lv_if_eq (tgt := 91) hx hb d_RP_run_84 (by decide) (fun c84 => ?_) (fun c84 => ?_)
    · have h := ifp c84 h
      refine lv_iconst (v := 2) hx hb d_RP_run_91 (by decide) ?_
      exact m_iret hx hb hr hlk hw h d_RP_run_92
    · have h := ifn c84 h
      refine lv_iconst (v := 1) hx hb d_RP_run_87 (by decide) ?_
      refine lv_goto (tgt := 92) hx hb d_RP_run_88 (by decide) ?_
      exact m_iret hx hb hr hlk hw h d_RP_run_92
  · have h := ifn c72 h
    refine lv_iconst (v := 0) hx hb d_RP_run_75 (by decide) ?_
    exact m_iret hx hb hr hlk hw h d_RP_run_76
set_option maxRecDepth 100000 in
set_option maxHeartbeats 4000000 in
theorem c_RP_best (l : Launch) (G : Gw) (N : Nat) (x1 : Int32) (μ : Mem) {r : Int32} {μ' : Mem} (h : M_RP_best N x1 μ = some (r, μ')) : CT l y_RP_best ws_RP_best rm_RP_best [.ref (G.2.1 0), .int x1] G μ (some (.int r)) μ' := by
  refine m_met (cc := prog_1_method_9_code) (maxL := 2) (ret := (some .int)) (by decide) rfl (Nat.le_of_ble_eq_true rfl) ?_
  intro p e s m args below meth c ls C hw hl
  obtain ⟨hx, hb, hr, hml, hown, hts, hlk, hK, hSt⟩ := id C
  have hl : lv_has ls 2 [(0, .ref (G.2.1 0)), (1, .int x1)] := hl
  unfold M_RP_best at h
  refine lv_aload_n hx hb d_RP_best_0 rfl (lv_at hl 0 rfl) ?_
  refine va_get (D := G.1) (ci := 0) (v := .ref (G.2.1 6)) (C := "RecipePlans") (T := T_RP) (N := 8) hx hb hts (fun _ h9 => List.mem_cons_of_mem _ (inT_RP _ h9)) hown hK hw.1 0 (WL_get (by decide)) rfl 5 (by decide) (hts _ (List.mem_cons_of_mem _ tw_226)) (fun _ h9 => h9) rfl d_RP_best_1 ?_
  refine va_get (D := G.1) (ci := 6) (v := .int (μ.1 6 0)) (C := "RecipePlans$Found") (T := T_Fo) (N := 8) hx hb hts (fun _ h9 => List.mem_cons_of_mem _ (inT_Fo _ h9)) hown hK hw.1 6 (WL_get (by decide)) rfl 0 (by decide) (hts _ (List.mem_cons_of_mem _ tw_198)) (fun _ h9 => h9) rfl d_RP_best_4 ?_
  refine lv_if_eq (tgt := 41) hx hb d_RP_best_7 (by decide) (fun c7 => ?_) (fun c7 => ?_)
  · have h := ifp c7 h
    refine lv_iconst (v := -1) hx hb d_RP_best_41 (by decide) ?_
    exact m_iret hx hb hr hlk hw h d_RP_best_42
  · have h := ifn c7 h
    refine lv_iload_n hx hb d_RP_best_10 rfl (lv_at hl 1 rfl) ?_
    refine lv_i2l hx hb d_RP_best_11 rfl ?_
    refine lv_lconst (v := 0) hx hb d_RP_best_12 (by decide) ?_
    refine lv_aload_n hx hb d_RP_best_13 rfl (lv_at hl 0 rfl) ?_
    refine va_get (D := G.1) (ci := 0) (v := .ref (G.2.1 6)) (C := "RecipePlans") (T := T_RP) (N := 8) hx hb hts (fun _ h9 => List.mem_cons_of_mem _ (inT_RP _ h9)) hown hK hw.1 0 (WL_get (by decide)) rfl 5 (by decide) (hts _ (List.mem_cons_of_mem _ tw_226)) (fun _ h9 => h9) rfl d_RP_best_14 ?_
    refine va_get (D := G.1) (ci := 6) (v := .int (μ.1 6 1)) (C := "RecipePlans$Found") (T := T_Fo) (N := 8) hx hb hts (fun _ h9 => List.mem_cons_of_mem _ (inT_Fo _ h9)) hown hK hw.1 6 (WL_get (by decide)) rfl 1 (by decide) (hts _ (List.mem_cons_of_mem _ tw_200)) (fun _ h9 => h9) rfl d_RP_best_17 ?_
    refine lv_iconst (v := 1) hx hb d_RP_best_20 (by decide) ?_
    refine lv_isub hx hb d_RP_best_21 ?_
    refine lv_i2l hx hb d_RP_best_22 rfl ?_
    obtain ⟨r23, hq, h⟩ := bd h
    refine m_pcall (r := .int r23) (W.runS (As := [.long x1.toInt64, .long (0 : Int64), .long (((μ.1 6 1) - (1 : Int32)).toInt64)]) (rest := []) ⟨hx, hb, hml, hown, hts⟩ (c_RP_within l N x1.toInt64 (0 : Int64) (((μ.1 6 1) - (1 : Int32)).toInt64) hq) (va_cwS 3 hts (gdS tw_242 tw_243 tw_34 tw_244) rfl rfl rfl (by decide +kernel) ⟨Nat.le_of_ble_eq_true rfl, Nat.le_of_ble_eq_true rfl⟩) preEq rfl rfl hl.1 rfl (lv_room (Nat.le_of_ble_eq_true rfl)) d_RP_best_23 ⟨Nat.zero_le _, Nat.zero_le _⟩) ?_
    refine lv_if_eq (tgt := 41) hx hb d_RP_best_26 (by decide) (fun c26 => ?_) (fun c26 => ?_)
    · have h := ifp c26 h
      refine lv_iconst (v := -1) hx hb d_RP_best_41 (by decide) ?_
      exact m_iret hx hb hr hlk hw h d_RP_best_42
    · have h := ifn c26 h
      refine lv_aload_n hx hb d_RP_best_29 rfl (lv_at hl 0 rfl) ?_
      refine va_get (D := G.1) (ci := 0) (v := .ref (G.2.1 6)) (C := "RecipePlans") (T := T_RP) (N := 8) hx hb hts (fun _ h9 => List.mem_cons_of_mem _ (inT_RP _ h9)) hown hK hw.1 0 (WL_get (by decide)) rfl 5 (by decide) (hts _ (List.mem_cons_of_mem _ tw_226)) (fun _ h9 => h9) rfl d_RP_best_30 ?_
      refine va_get (D := G.1) (ci := 6) (v := .ref (G.2.1 27)) (C := "RecipePlans$Found") (T := T_Fo) (N := 8) hx hb hts (fun _ h9 => List.mem_cons_of_mem _ (inT_Fo _ h9)) hown hK hw.1 6 (WL_get (by decide)) rfl 2 (by decide) (hts _ (List.mem_cons_of_mem _ tw_202)) (fun _ h9 => h9) rfl d_RP_best_33 ?_
      refine lv_iload_n hx hb d_RP_best_36 rfl (lv_at hl 1 rfl) ?_
      obtain ⟨v37, hv, h⟩ := bd h
      refine m_iaload hx hb hK hw hv d_RP_best_37 ?_
      refine lv_goto (tgt := 42) hx hb d_RP_best_38 (by decide) ?_
      exact m_iret hx hb hr hlk hw h d_RP_best_42
set_option maxRecDepth 100000 in
set_option maxHeartbeats 4000000 in
theorem c_RP_cost (l : Launch) (G : Gw) (N : Nat) (μ : Mem) {r : Int64} {μ' : Mem} (h : M_RP_cost N μ = some (r, μ')) : CT l y_RP_cost ws_RP_cost rm_RP_cost [.ref (G.2.1 0)] G μ (some (.long r)) μ' := by
  refine m_met (cc := prog_1_method_10_code) (maxL := 1) (ret := (some .long)) (by decide) rfl (Nat.le_of_ble_eq_true rfl) ?_
  intro p e s m args below meth c ls C hw hl
  obtain ⟨hx, hb, hr, hml, hown, hts, hlk, hK, hSt⟩ := id C
  have hl : lv_has ls 1 [(0, .ref (G.2.1 0))] := hl
  unfold M_RP_cost at h
  refine lv_aload_n hx hb d_RP_cost_0 rfl (lv_at hl 0 rfl) ?_
  refine va_get (D := G.1) (ci := 0) (v := .ref (G.2.1 6)) (C := "RecipePlans") (T := T_RP) (N := 8) hx hb hts (fun _ h9 => List.mem_cons_of_mem _ (inT_RP _ h9)) hown hK hw.1 0 (WL_get (by decide)) rfl 5 (by decide) (hts _ (List.mem_cons_of_mem _ tw_226)) (fun _ h9 => h9) rfl d_RP_cost_1 ?_
  refine va_get (D := G.1) (ci := 6) (v := .int (μ.1 6 0)) (C := "RecipePlans$Found") (T := T_Fo) (N := 8) hx hb hts (fun _ h9 => List.mem_cons_of_mem _ (inT_Fo _ h9)) hown hK hw.1 6 (WL_get (by decide)) rfl 0 (by decide) (hts _ (List.mem_cons_of_mem _ tw_198)) (fun _ h9 => h9) rfl d_RP_cost_4 ?_
  refine lv_if_eq (tgt := 20) hx hb d_RP_cost_7 (by decide) (fun c7 => ?_) (fun c7 => ?_)
  · have h := ifp c7 h
    refine lv_ldc2 (v := -9223372036854775808) hx hb hown (hts _ (List.mem_cons_of_mem _ tw_426)) d_RP_cost_20 ?_
    exact m_lret hx hb hr hlk hw h d_RP_cost_23
  · have h := ifn c7 h
    refine lv_aload_n hx hb d_RP_cost_10 rfl (lv_at hl 0 rfl) ?_
    refine va_get (D := G.1) (ci := 0) (v := .ref (G.2.1 6)) (C := "RecipePlans") (T := T_RP) (N := 8) hx hb hts (fun _ h9 => List.mem_cons_of_mem _ (inT_RP _ h9)) hown hK hw.1 0 (WL_get (by decide)) rfl 5 (by decide) (hts _ (List.mem_cons_of_mem _ tw_226)) (fun _ h9 => h9) rfl d_RP_cost_11 ?_
    refine va_get (D := G.1) (ci := 6) (v := .long (μ.2 6 3)) (C := "RecipePlans$Found") (T := T_Fo) (N := 8) hx hb hts (fun _ h9 => List.mem_cons_of_mem _ (inT_Fo _ h9)) hown hK hw.1 6 (WL_get (by decide)) rfl 3 (by decide) (hts _ (List.mem_cons_of_mem _ tw_204)) (fun _ h9 => h9) rfl d_RP_cost_14 ?_
    refine lv_goto (tgt := 23) hx hb d_RP_cost_17 (by decide) ?_
    exact m_lret hx hb hr hlk hw h d_RP_cost_23
set_option maxRecDepth 100000 in
set_option maxHeartbeats 4000000 in
theorem c_RP_cut (l : Launch) (G : Gw) (N : Nat) (x1 : Int32) (μ : Mem) {r : Int64} {μ' : Mem} (h : M_RP_cut N x1 μ = some (r, μ')) : CT l y_RP_cut ws_RP_cut rm_RP_cut [.ref (G.2.1 0), .int x1] G μ (some (.long r)) μ' := by
  refine m_met (cc := prog_1_method_11_code) (maxL := 2) (ret := (some .long)) (by decide) rfl (Nat.le_of_ble_eq_true rfl) ?_
  intro p e s m args below meth c ls C hw hl
  obtain ⟨hx, hb, hr, hml, hown, hts, hlk, hK, hSt⟩ := id C
  have hl : lv_has ls 2 [(0, .ref (G.2.1 0)), (1, .int x1)] := hl
  unfold M_RP_cut at h
  refine lv_aload_n hx hb d_RP_cut_0 rfl (lv_at hl 0 rfl) ?_
  refine va_get (D := G.1) (ci := 0) (v := .ref (G.2.1 6)) (C := "RecipePlans") (T := T_RP) (N := 8) hx hb hts (fun _ h9 => List.mem_cons_of_mem _ (inT_RP _ h9)) hown hK hw.1 0 (WL_get (by decide)) rfl 5 (by decide) (hts _ (List.mem_cons_of_mem _ tw_226)) (fun _ h9 => h9) rfl d_RP_cut_1 ?_
  refine va_get (D := G.1) (ci := 6) (v := .int (μ.1 6 4)) (C := "RecipePlans$Found") (T := T_Fo) (N := 8) hx hb hts (fun _ h9 => List.mem_cons_of_mem _ (inT_Fo _ h9)) hown hK hw.1 6 (WL_get (by decide)) rfl 4 (by decide) (hts _ (List.mem_cons_of_mem _ tw_206)) (fun _ h9 => h9) rfl d_RP_cut_4 ?_
  refine lv_if_eq (tgt := 20) hx hb d_RP_cut_7 (by decide) (fun c7 => ?_) (fun c7 => ?_)
  · have h := ifp c7 h
    refine lv_ldc2 (v := -9223372036854775808) hx hb hown (hts _ (List.mem_cons_of_mem _ tw_426)) d_RP_cut_20 ?_
    exact m_lret hx hb hr hlk hw h d_RP_cut_23
  · have h := ifn c7 h
    refine lv_iload_n hx hb d_RP_cut_10 rfl (lv_at hl 1 rfl) ?_
    refine lv_i2l hx hb d_RP_cut_11 rfl ?_
    refine lv_lconst (v := 0) hx hb d_RP_cut_12 (by decide) ?_
    refine lv_lconst (v := 1) hx hb d_RP_cut_13 (by decide) ?_
    obtain ⟨r14, hq, h⟩ := bd h
    refine m_pcall (r := .int r14) (W.runS (As := [.long x1.toInt64, .long (0 : Int64), .long (1 : Int64)]) (rest := []) ⟨hx, hb, hml, hown, hts⟩ (c_RP_within l N x1.toInt64 (0 : Int64) (1 : Int64) hq) (va_cwS 3 hts (gdS tw_242 tw_243 tw_34 tw_244) rfl rfl rfl (by decide +kernel) ⟨Nat.le_of_ble_eq_true rfl, Nat.le_of_ble_eq_true rfl⟩) preEq rfl rfl hl.1 rfl (lv_room (Nat.le_of_ble_eq_true rfl)) d_RP_cut_14 ⟨Nat.zero_le _, Nat.zero_le _⟩) ?_
    refine lv_if_ne (tgt := 24) hx hb d_RP_cut_17 (by decide) (fun c17 => ?_) (fun c17 => ?_)
    · have h := ifn c17 h
      refine lv_iload_n hx hb d_RP_cut_24 rfl (lv_at hl 1 rfl) ?_
      refine lv_if_ne (tgt := 38) hx hb d_RP_cut_25 (by decide) (fun c25 => ?_) (fun c25 => ?_)
      · have h := ifn c25 h
        refine lv_aload_n hx hb d_RP_cut_38 rfl (lv_at hl 0 rfl) ?_
        refine va_get (D := G.1) (ci := 0) (v := .ref (G.2.1 6)) (C := "RecipePlans") (T := T_RP) (N := 8) hx hb hts (fun _ h9 => List.mem_cons_of_mem _ (inT_RP _ h9)) hown hK hw.1 0 (WL_get (by decide)) rfl 5 (by decide) (hts _ (List.mem_cons_of_mem _ tw_226)) (fun _ h9 => h9) rfl d_RP_cut_39 ?_
        refine va_get (D := G.1) (ci := 6) (v := .long (μ.2 6 6)) (C := "RecipePlans$Found") (T := T_Fo) (N := 8) hx hb hts (fun _ h9 => List.mem_cons_of_mem _ (inT_Fo _ h9)) hown hK hw.1 6 (WL_get (by decide)) rfl 6 (by decide) (hts _ (List.mem_cons_of_mem _ tw_210)) (fun _ h9 => h9) rfl d_RP_cut_42 ?_
        exact m_lret hx hb hr hlk hw h d_RP_cut_45
      · have h := ifp c25 h
        refine lv_aload_n hx hb d_RP_cut_28 rfl (lv_at hl 0 rfl) ?_
        refine va_get (D := G.1) (ci := 0) (v := .ref (G.2.1 6)) (C := "RecipePlans") (T := T_RP) (N := 8) hx hb hts (fun _ h9 => List.mem_cons_of_mem _ (inT_RP _ h9)) hown hK hw.1 0 (WL_get (by decide)) rfl 5 (by decide) (hts _ (List.mem_cons_of_mem _ tw_226)) (fun _ h9 => h9) rfl d_RP_cut_29 ?_
        refine va_get (D := G.1) (ci := 6) (v := .long (μ.2 6 5)) (C := "RecipePlans$Found") (T := T_Fo) (N := 8) hx hb hts (fun _ h9 => List.mem_cons_of_mem _ (inT_Fo _ h9)) hown hK hw.1 6 (WL_get (by decide)) rfl 5 (by decide) (hts _ (List.mem_cons_of_mem _ tw_208)) (fun _ h9 => h9) rfl d_RP_cut_32 ?_
        refine lv_goto (tgt := 45) hx hb d_RP_cut_35 (by decide) ?_
        exact m_lret hx hb hr hlk hw h d_RP_cut_45
    · have h := ifp c17 h
      refine lv_ldc2 (v := -9223372036854775808) hx hb hown (hts _ (List.mem_cons_of_mem _ tw_426)) d_RP_cut_20 ?_
      exact m_lret hx hb hr hlk hw h d_RP_cut_23
set_option maxRecDepth 100000 in
set_option maxHeartbeats 4000000 in
theorem c_RP_clashes (l : Launch) (G : Gw) (N : Nat) (μ : Mem) {r : Int32} {μ' : Mem} (h : M_RP_clashes N μ = some (r, μ')) : CT l y_RP_clashes ws_RP_clashes rm_RP_clashes [.ref (G.2.1 0)] G μ (some (.int r)) μ' := by
  refine m_met (cc := prog_1_method_12_code) (maxL := 1) (ret := (some .int)) (by decide) rfl (Nat.le_of_ble_eq_true rfl) ?_
  intro p e s m args below meth c ls C hw hl
  obtain ⟨hx, hb, hr, hml, hown, hts, hlk, hK, hSt⟩ := id C
  have hl : lv_has ls 1 [(0, .ref (G.2.1 0))] := hl
  unfold M_RP_clashes at h
  refine lv_aload_n hx hb d_RP_clashes_0 rfl (lv_at hl 0 rfl) ?_
  refine va_get (D := G.1) (ci := 0) (v := .ref (G.2.1 6)) (C := "RecipePlans") (T := T_RP) (N := 8) hx hb hts (fun _ h9 => List.mem_cons_of_mem _ (inT_RP _ h9)) hown hK hw.1 0 (WL_get (by decide)) rfl 5 (by decide) (hts _ (List.mem_cons_of_mem _ tw_226)) (fun _ h9 => h9) rfl d_RP_clashes_1 ?_
  refine va_get (D := G.1) (ci := 6) (v := .int (μ.1 6 7)) (C := "RecipePlans$Found") (T := T_Fo) (N := 8) hx hb hts (fun _ h9 => List.mem_cons_of_mem _ (inT_Fo _ h9)) hown hK hw.1 6 (WL_get (by decide)) rfl 7 (by decide) (hts _ (List.mem_cons_of_mem _ tw_212)) (fun _ h9 => h9) rfl d_RP_clashes_4 ?_
  refine lv_if_ne (tgt := 14) hx hb d_RP_clashes_7 (by decide) (fun c7 => ?_) (fun c7 => ?_)
  · have h := ifn c7 h
    refine lv_aload_n hx hb d_RP_clashes_14 rfl (lv_at hl 0 rfl) ?_
    refine va_get (D := G.1) (ci := 0) (v := .ref (G.2.1 6)) (C := "RecipePlans") (T := T_RP) (N := 8) hx hb hts (fun _ h9 => List.mem_cons_of_mem _ (inT_RP _ h9)) hown hK hw.1 0 (WL_get (by decide)) rfl 5 (by decide) (hts _ (List.mem_cons_of_mem _ tw_226)) (fun _ h9 => h9) rfl d_RP_clashes_15 ?_
    refine va_get (D := G.1) (ci := 6) (v := .int (μ.1 6 7)) (C := "RecipePlans$Found") (T := T_Fo) (N := 8) hx hb hts (fun _ h9 => List.mem_cons_of_mem _ (inT_Fo _ h9)) hown hK hw.1 6 (WL_get (by decide)) rfl 7 (by decide) (hts _ (List.mem_cons_of_mem _ tw_212)) (fun _ h9 => h9) rfl d_RP_clashes_18 ?_
    obtain ⟨r21, hq, h⟩ := bd h
    refine m_pcall (r := .int r21) (W.runS (As := [.int (μ.1 6 7)]) (rest := []) ⟨hx, hb, hml, hown, hts⟩ (c_In_bitCount l N (μ.1 6 7) hq) (va_cwS 1 hts (gdS tw_435 tw_326 tw_42 tw_327) rfl rfl rfl (by decide +kernel) ⟨Nat.le_of_ble_eq_true rfl, Nat.le_of_ble_eq_true rfl⟩) preEq rfl rfl hl.1 rfl (lv_room (Nat.le_of_ble_eq_true rfl)) d_RP_clashes_21 ⟨Nat.zero_le _, Nat.zero_le _⟩) ?_
    exact m_iret hx hb hr hlk hw h d_RP_clashes_24
  · have h := ifp c7 h
    refine lv_iconst (v := -1) hx hb d_RP_clashes_10 (by decide) ?_
    refine lv_goto (tgt := 24) hx hb d_RP_clashes_11 (by decide) ?_
    exact m_iret hx hb hr hlk hw h d_RP_clashes_24
set_option maxRecDepth 100000 in
set_option maxHeartbeats 4000000 in
theorem c_RP_clash (l : Launch) (G : Gw) (N : Nat) (x1 : Int32) (μ : Mem) {r : Int32} {μ' : Mem} (h : M_RP_clash N x1 μ = some (r, μ')) : CT l y_RP_clash ws_RP_clash rm_RP_clash [.ref (G.2.1 0), .int x1] G μ (some (.int r)) μ' := by
  refine m_met (cc := prog_1_method_13_code) (maxL := 2) (ret := (some .boolean)) (by decide) rfl (Nat.le_of_ble_eq_true rfl) ?_
  intro p e s m args below meth c ls C hw hl
  obtain ⟨hx, hb, hr, hml, hown, hts, hlk, hK, hSt⟩ := id C
  have hl : lv_has ls 2 [(0, .ref (G.2.1 0)), (1, .int x1)] := hl
  unfold M_RP_clash at h
  refine lv_iload_n hx hb d_RP_clash_0 rfl (lv_at hl 1 rfl) ?_
  refine lv_i2l hx hb d_RP_clash_1 rfl ?_
  refine lv_lconst (v := 0) hx hb d_RP_clash_2 (by decide) ?_
  refine lv_ldc2 (v := 7) hx hb hown (hts _ (List.mem_cons_of_mem _ tw_282)) d_RP_clash_3 ?_
  obtain ⟨r6, hq, h⟩ := bd h
  refine m_pcall (r := .int r6) (W.runS (As := [.long x1.toInt64, .long (0 : Int64), .long (7 : Int64)]) (rest := []) ⟨hx, hb, hml, hown, hts⟩ (c_RP_within l N x1.toInt64 (0 : Int64) (7 : Int64) hq) (va_cwS 3 hts (gdS tw_242 tw_243 tw_34 tw_244) rfl rfl rfl (by decide +kernel) ⟨Nat.le_of_ble_eq_true rfl, Nat.le_of_ble_eq_true rfl⟩) preEq rfl rfl hl.1 rfl (lv_room (Nat.le_of_ble_eq_true rfl)) d_RP_clash_6 ⟨Nat.zero_le _, Nat.zero_le _⟩) ?_
  refine lv_if_eq (tgt := 30) hx hb d_RP_clash_9 (by decide) (fun c9 => ?_) (fun c9 => ?_)
  · have h := ifp c9 h
    refine lv_iconst (v := 0) hx hb d_RP_clash_30 (by decide) ?_
    exact m_zret hx hb hr hlk hw h d_RP_clash_31
  · have h := ifn c9 h
    refine lv_aload_n hx hb d_RP_clash_12 rfl (lv_at hl 0 rfl) ?_
    refine va_get (D := G.1) (ci := 0) (v := .ref (G.2.1 6)) (C := "RecipePlans") (T := T_RP) (N := 8) hx hb hts (fun _ h9 => List.mem_cons_of_mem _ (inT_RP _ h9)) hown hK hw.1 0 (WL_get (by decide)) rfl 5 (by decide) (hts _ (List.mem_cons_of_mem _ tw_226)) (fun _ h9 => h9) rfl d_RP_clash_13 ?_
    refine va_get (D := G.1) (ci := 6) (v := .int (μ.1 6 7)) (C := "RecipePlans$Found") (T := T_Fo) (N := 8) hx hb hts (fun _ h9 => List.mem_cons_of_mem _ (inT_Fo _ h9)) hown hK hw.1 6 (WL_get (by decide)) rfl 7 (by decide) (hts _ (List.mem_cons_of_mem _ tw_212)) (fun _ h9 => h9) rfl d_RP_clash_16 ?_
    refine lv_iload_n hx hb d_RP_clash_19 rfl (lv_at hl 1 rfl) ?_
    obtain ⟨r20, hq, h⟩ := bd h
    refine m_pcall (r := .int r20) (W.runS (As := [.int (μ.1 6 7), .int x1]) (rest := []) ⟨hx, hb, hml, hown, hts⟩ (c_RP_hasBit l N (μ.1 6 7) x1 hq) (va_cwS 2 hts (gdS tw_440 tw_287 tw_34 tw_288) rfl rfl rfl (by decide +kernel) ⟨Nat.le_of_ble_eq_true rfl, Nat.le_of_ble_eq_true rfl⟩) preEq rfl rfl hl.1 rfl (lv_room (Nat.le_of_ble_eq_true rfl)) d_RP_clash_20 ⟨Nat.zero_le _, Nat.zero_le _⟩) ?_
    refine lv_if_eq (tgt := 30) hx hb d_RP_clash_23 (by decide) (fun c23 => ?_) (fun c23 => ?_)
    · have h := ifp c23 h
      refine lv_iconst (v := 0) hx hb d_RP_clash_30 (by decide) ?_
      exact m_zret hx hb hr hlk hw h d_RP_clash_31
    · have h := ifn c23 h
      refine lv_iconst (v := 1) hx hb d_RP_clash_26 (by decide) ?_
      refine lv_goto (tgt := 31) hx hb d_RP_clash_27 (by decide) ?_
      exact m_zret hx hb hr hlk hw h d_RP_clash_31
set_option maxRecDepth 100000 in
set_option maxHeartbeats 4000000 in
theorem w_RP_broken_100 {r : Int32} {μ' : Mem} {N : Nat} (C : CxA G p s m args meth c prog_1_method_14_code 6 (some .int) "RecipePlans" ws_RP_broken) : ∀ (n : Nat) (x5 : Int32) (μ : Mem) (H : Heap) (locs : List Loc) (ls : Array Slot), Wk G s μ H locs → lv_has ls 6 [(0, .ref (G.2.1 0)), (5, .int x5)] → M_RP_broken_100 N n x5 μ = some (r, μ') → WA G rm_RP_broken p l e s m args below meth c (some (.int r)) μ' H locs 100 ls [] := by
  obtain ⟨hx, hb, hr, hml, hown, hts, hlk, hK, hSt⟩ := id C
  intro n
  induction n with
  | zero =>
    intro x5 μ H locs ls hw hl h
    rw [M_RP_broken_100] at h
    cases h
  | succ n ih =>
    intro x5 μ H locs ls hw hl h
    rw [M_RP_broken_100] at h
    refine lv_iload hx hb d_RP_broken_100 (lv_at hl 1 rfl) ?_
    refine lv_bipush (v := 8) hx hb d_RP_broken_102 (by decide) ?_
    refine lv_icmp_ge (tgt := 144) hx hb d_RP_broken_104 (by decide) (fun c104 => ?_) (fun c104 => ?_)
    · have h := ifp c104 h
      refine lv_bipush (v := 8) hx hb d_RP_broken_144 (by decide) ?_
      exact m_iret hx hb hr hlk hw h d_RP_broken_146
    · have h := ifn c104 h
      refine lv_aload_n hx hb d_RP_broken_107 rfl (lv_at hl 0 rfl) ?_
      refine va_get (D := G.1) (ci := 0) (v := .ref (G.2.1 2)) (C := "RecipePlans") (T := T_RP) (N := 8) hx hb hts (fun _ h9 => List.mem_cons_of_mem _ (inT_RP _ h9)) hown hK hw.1 0 (WL_get (by decide)) rfl 1 (by decide) (hts _ (List.mem_cons_of_mem _ tw_222)) (fun _ h9 => h9) rfl d_RP_broken_108 ?_
      refine lv_iload hx hb d_RP_broken_111 (lv_at hl 1 rfl) ?_
      obtain ⟨r113, μ113, hq, h⟩ := bd2 h
      refine m_call (r := some (.int r113)) (μ1 := μ113) (va_runV (C := "RecipePlans$Rules") (As := [.int x5]) (rest := []) ⟨hx, hb, hml, hown, hts⟩ (c_Ru_isTold l G N x5 μ hq _) (cwV 1 hts (gdV tw_283 tw_284 tw_285 tw_36 tw_286) rfl rfl rfl (by decide +kernel) ⟨Nat.le_of_ble_eq_true rfl, Nat.le_of_ble_eq_true rfl⟩) (m_preV (k := 2) (by decide) rfl hK hSt hw) rfl rfl hl.1 rfl (lv_room (Nat.le_of_ble_eq_true rfl)) d_RP_broken_113 ⟨Nat.zero_le _, Nat.zero_le _⟩) hw (fun H locs hw => ?_)
      refine lv_if_eq (tgt := 138) hx hb d_RP_broken_116 (by decide) (fun c116 => ?_) (fun c116 => ?_)
      · have h := ifp c116 h
        refine lv_iinc (v := x5 + 1) (lv' := [(5, .int (x5 + 1)), (0, .ref (G.2.1 0))]) hx hb d_RP_broken_138 hl (k := 1) rfl rfl (by decide) rfl (fun ls hl => ?_)
        refine lv_goto (tgt := 100) hx hb d_RP_broken_141 (by decide) ?_
        exact ih (x5 + 1) μ113 _ _ _ hw (lv_sub hl [1, 0] rfl) h
      · have h := ifn c116 h
        refine lv_aload_n hx hb d_RP_broken_119 rfl (lv_at hl 0 rfl) ?_
        refine va_get (D := G.1) (ci := 0) (v := .ref (G.2.1 2)) (C := "RecipePlans") (T := T_RP) (N := 8) hx hb hts (fun _ h9 => List.mem_cons_of_mem _ (inT_RP _ h9)) hown hK hw.1 0 (WL_get (by decide)) rfl 1 (by decide) (hts _ (List.mem_cons_of_mem _ tw_222)) (fun _ h9 => h9) rfl d_RP_broken_120 ?_
        refine lv_iload hx hb d_RP_broken_123 (lv_at hl 1 rfl) ?_
        refine lv_aload_n hx hb d_RP_broken_125 rfl (lv_at hl 0 rfl) ?_
        refine va_get (D := G.1) (ci := 0) (v := .ref (G.2.1 41)) (C := "RecipePlans") (T := T_RP) (N := 8) hx hb hts (fun _ h9 => List.mem_cons_of_mem _ (inT_RP _ h9)) hown hK hw.1 0 (WL_get (by decide)) rfl 7 (by decide) (hts _ (List.mem_cons_of_mem _ tw_228)) (fun _ h9 => h9) rfl d_RP_broken_126 ?_
        obtain ⟨r129, μ129, hq, h⟩ := bd2 h
        refine m_call (r := some (.int r129)) (μ1 := μ129) (va_runV (C := "RecipePlans$Rules") (As := [.int x5, .ref (G.2.1 41)]) (rest := []) ⟨hx, hb, hml, hown, hts⟩ (c_Ru_keeps l G N x5 41 μ113 hq _) (cwV 2 hts (gdV tw_446 tw_349 tw_350 tw_36 tw_351) rfl rfl rfl (by decide +kernel) ⟨Nat.le_of_ble_eq_true rfl, Nat.le_of_ble_eq_true rfl⟩) (m_preV (k := 2) (by decide) rfl hK hSt hw) rfl rfl hl.1 rfl (lv_room (Nat.le_of_ble_eq_true rfl)) d_RP_broken_129 ⟨Nat.zero_le _, Nat.zero_le _⟩) hw (fun H locs hw => ?_)
        refine lv_if_ne (tgt := 138) hx hb d_RP_broken_132 (by decide) (fun c132 => ?_) (fun c132 => ?_)
        · have h := ifn c132 h
          refine lv_iinc (v := x5 + 1) (lv' := [(5, .int (x5 + 1)), (0, .ref (G.2.1 0))]) hx hb d_RP_broken_138 hl (k := 1) rfl rfl (by decide) rfl (fun ls hl => ?_)
          refine lv_goto (tgt := 100) hx hb d_RP_broken_141 (by decide) ?_
          exact ih (x5 + 1) μ129 _ _ _ hw (lv_sub hl [1, 0] rfl) h
        · have h := ifp c132 h
          refine lv_iload hx hb d_RP_broken_135 (lv_at hl 1 rfl) ?_
          exact m_iret hx hb hr hlk hw h d_RP_broken_137
set_option maxRecDepth 100000 in
set_option maxHeartbeats 4000000 in
theorem w_RP_broken_43 {r : Int32} {μ' : Mem} {N : Nat} (C : CxA G p s m args meth c prog_1_method_14_code 6 (some .int) "RecipePlans" ws_RP_broken) : ∀ (n : Nat) (x5 : Int32) (μ : Mem) (H : Heap) (locs : List Loc) (ls : Array Slot), Wk G s μ H locs → lv_has ls 6 [(0, .ref (G.2.1 0)), (5, .int x5)] → M_RP_broken_43 N n x5 μ = some (r, μ') → WA G rm_RP_broken p l e s m args below meth c (some (.int r)) μ' H locs 43 ls [] := by
  obtain ⟨hx, hb, hr, hml, hown, hts, hlk, hK, hSt⟩ := id C
  intro n
  induction n with
  | zero =>
    intro x5 μ H locs ls hw hl h
    rw [M_RP_broken_43] at h
    cases h
  | succ n ih =>
    intro x5 μ H locs ls hw hl h
    rw [M_RP_broken_43] at h
    refine lv_iload hx hb d_RP_broken_43 (lv_at hl 1 rfl) ?_
    refine lv_iconst (v := 4) hx hb d_RP_broken_45 (by decide) ?_
    refine lv_icmp_ge (tgt := 82) hx hb d_RP_broken_46 (by decide) (fun c46 => ?_) (fun c46 => ?_)
    · have h := ifp c46 h
      refine lv_aload_n hx hb d_RP_broken_82 rfl (lv_at hl 0 rfl) ?_
      refine va_get (D := G.1) (ci := 0) (v := .ref (G.2.1 1)) (C := "RecipePlans") (T := T_RP) (N := 8) hx hb hts (fun _ h9 => List.mem_cons_of_mem _ (inT_RP _ h9)) hown hK hw.1 0 (WL_get (by decide)) rfl 0 (by decide) (hts _ (List.mem_cons_of_mem _ tw_221)) (fun _ h9 => h9) rfl d_RP_broken_83 ?_
      refine lv_aload_n hx hb d_RP_broken_86 rfl (lv_at hl 0 rfl) ?_
      refine va_get (D := G.1) (ci := 0) (v := .ref (G.2.1 40)) (C := "RecipePlans") (T := T_RP) (N := 8) hx hb hts (fun _ h9 => List.mem_cons_of_mem _ (inT_RP _ h9)) hown hK hw.1 0 (WL_get (by decide)) rfl 6 (by decide) (hts _ (List.mem_cons_of_mem _ tw_227)) (fun _ h9 => h9) rfl d_RP_broken_87 ?_
      refine lv_aload_n hx hb d_RP_broken_90 rfl (lv_at hl 0 rfl) ?_
      refine va_get (D := G.1) (ci := 0) (v := .ref (G.2.1 41)) (C := "RecipePlans") (T := T_RP) (N := 8) hx hb hts (fun _ h9 => List.mem_cons_of_mem _ (inT_RP _ h9)) hown hK hw.1 0 (WL_get (by decide)) rfl 7 (by decide) (hts _ (List.mem_cons_of_mem _ tw_228)) (fun _ h9 => h9) rfl d_RP_broken_91 ?_
      obtain ⟨μ94, hq, h⟩ := bd h
      refine m_call (r := none) (μ1 := μ94) (va_runV (C := "RecipePlans$Lots") (As := [.ref (G.2.1 40), .ref (G.2.1 41)]) (rest := []) ⟨hx, hb, hml, hown, hts⟩ (c_Lo_hold l G N 40 41 μ hq _) (cwV 2 hts (gdV tw_445 tw_345 tw_346 tw_35 tw_347) rfl rfl rfl (by decide +kernel) ⟨Nat.le_of_ble_eq_true rfl, Nat.le_of_ble_eq_true rfl⟩) (m_preV (k := 1) (by decide) rfl hK hSt hw) rfl rfl hl.1 rfl (lv_room (Nat.le_of_ble_eq_true rfl)) d_RP_broken_94 ⟨Nat.zero_le _, Nat.zero_le _⟩) hw (fun H locs hw => ?_)
      refine lv_iconst (v := 0) hx hb d_RP_broken_97 (by decide) ?_
      refine lv_istore (lv' := [(5, .int (0 : Int32)), (0, .ref (G.2.1 0))]) hx hb d_RP_broken_98 hl (by decide) rfl (fun ls hl => ?_)
      exact w_RP_broken_100 C N (0 : Int32) μ94 _ _ _ hw (lv_sub hl [1, 0] rfl) h
    · have h := ifn c46 h
      refine lv_aload_n hx hb d_RP_broken_49 rfl (lv_at hl 0 rfl) ?_
      refine va_get (D := G.1) (ci := 0) (v := .ref (G.2.1 40)) (C := "RecipePlans") (T := T_RP) (N := 8) hx hb hts (fun _ h9 => List.mem_cons_of_mem _ (inT_RP _ h9)) hown hK hw.1 0 (WL_get (by decide)) rfl 6 (by decide) (hts _ (List.mem_cons_of_mem _ tw_227)) (fun _ h9 => h9) rfl d_RP_broken_50 ?_
      refine lv_iload hx hb d_RP_broken_53 (lv_at hl 1 rfl) ?_
      obtain ⟨v55, hv, h⟩ := bd h
      refine m_laload hx hb hK hw hv d_RP_broken_55 ?_
      refine lv_lconst (v := 0) hx hb d_RP_broken_56 (by decide) ?_
      refine lv_aload_n hx hb d_RP_broken_57 rfl (lv_at hl 0 rfl) ?_
      refine va_get (D := G.1) (ci := 0) (v := .ref (G.2.1 1)) (C := "RecipePlans") (T := T_RP) (N := 8) hx hb hts (fun _ h9 => List.mem_cons_of_mem _ (inT_RP _ h9)) hown hK hw.1 0 (WL_get (by decide)) rfl 0 (by decide) (hts _ (List.mem_cons_of_mem _ tw_221)) (fun _ h9 => h9) rfl d_RP_broken_58 ?_
      refine va_get (D := G.1) (ci := 1) (v := .ref (G.2.1 17)) (C := "RecipePlans$Lots") (T := T_Lo) (N := 4) hx hb hts (fun _ h9 => List.mem_cons_of_mem _ (inT_Lo _ h9)) hown hK hw.1 1 (WL_get (by decide)) rfl 1 (by decide) (hts _ (List.mem_cons_of_mem _ tw_61)) (fun _ h9 => h9) rfl d_RP_broken_61 ?_
      refine lv_iload hx hb d_RP_broken_64 (lv_at hl 1 rfl) ?_
      obtain ⟨v66, hv, h⟩ := bd h
      refine m_iaload hx hb hK hw hv d_RP_broken_66 ?_
      refine lv_i2l hx hb d_RP_broken_67 rfl ?_
      obtain ⟨r68, hq, h⟩ := bd h
      refine m_pcall (r := .int r68) (W.runS (As := [.long v55, .long (0 : Int64), .long v66.toInt64]) (rest := []) ⟨hx, hb, hml, hown, hts⟩ (c_RP_within l N v55 (0 : Int64) v66.toInt64 hq) (va_cwS 3 hts (gdS tw_242 tw_243 tw_34 tw_244) rfl rfl rfl (by decide +kernel) ⟨Nat.le_of_ble_eq_true rfl, Nat.le_of_ble_eq_true rfl⟩) preEq rfl rfl hl.1 rfl (lv_room (Nat.le_of_ble_eq_true rfl)) d_RP_broken_68 ⟨Nat.zero_le _, Nat.zero_le _⟩) ?_
      refine lv_if_ne (tgt := 76) hx hb d_RP_broken_71 (by decide) (fun c71 => ?_) (fun c71 => ?_)
      · have h := ifn c71 h
        refine lv_iinc (v := x5 + 1) (lv' := [(5, .int (x5 + 1)), (0, .ref (G.2.1 0))]) hx hb d_RP_broken_76 hl (k := 1) rfl rfl (by decide) rfl (fun ls hl => ?_)
        refine lv_goto (tgt := 43) hx hb d_RP_broken_79 (by decide) ?_
        exact ih (x5 + 1) μ _ _ _ hw (lv_sub hl [1, 0] rfl) h
      · have h := ifp c71 h
        refine lv_iconst (v := -1) hx hb d_RP_broken_74 (by decide) ?_
        exact m_iret hx hb hr hlk hw h d_RP_broken_75
set_option maxRecDepth 100000 in
set_option maxHeartbeats 4000000 in
theorem c_RP_broken (l : Launch) (G : Gw) (N : Nat) (x1 : Int32) (x2 : Int32) (x3 : Int32) (x4 : Int32) (μ : Mem) {r : Int32} {μ' : Mem} (h : M_RP_broken N x1 x2 x3 x4 μ = some (r, μ')) : CT l y_RP_broken ws_RP_broken rm_RP_broken [.ref (G.2.1 0), .int x1, .int x2, .int x3, .int x4] G μ (some (.int r)) μ' := by
  refine m_met (cc := prog_1_method_14_code) (maxL := 6) (ret := (some .int)) (by decide) rfl (Nat.le_of_ble_eq_true rfl) ?_
  intro p e s m args below meth c ls C hw hl
  obtain ⟨hx, hb, hr, hml, hown, hts, hlk, hK, hSt⟩ := id C
  have hl : lv_has ls 6 [(0, .ref (G.2.1 0)), (1, .int x1), (2, .int x2), (3, .int x3), (4, .int x4)] := hl
  unfold M_RP_broken at h
  refine lv_aload_n hx hb d_RP_broken_0 rfl (lv_at hl 0 rfl) ?_
  refine va_get (D := G.1) (ci := 0) (v := .ref (G.2.1 40)) (C := "RecipePlans") (T := T_RP) (N := 8) hx hb hts (fun _ h9 => List.mem_cons_of_mem _ (inT_RP _ h9)) hown hK hw.1 0 (WL_get (by decide)) rfl 6 (by decide) (hts _ (List.mem_cons_of_mem _ tw_227)) (fun _ h9 => h9) rfl d_RP_broken_1 ?_
  refine lv_iconst (v := 0) hx hb d_RP_broken_4 (by decide) ?_
  refine lv_iload_n hx hb d_RP_broken_5 rfl (lv_at hl 1 rfl) ?_
  refine lv_i2l hx hb d_RP_broken_6 rfl ?_
  obtain ⟨μ7, hm, h⟩ := bd h
  refine m_lastore hx hb hK hw hm d_RP_broken_7 (fun H locs hw => ?_)
  refine lv_aload_n hx hb d_RP_broken_8 rfl (lv_at hl 0 rfl) ?_
  refine va_get (D := G.1) (ci := 0) (v := .ref (G.2.1 40)) (C := "RecipePlans") (T := T_RP) (N := 8) hx hb hts (fun _ h9 => List.mem_cons_of_mem _ (inT_RP _ h9)) hown hK hw.1 0 (WL_get (by decide)) rfl 6 (by decide) (hts _ (List.mem_cons_of_mem _ tw_227)) (fun _ h9 => h9) rfl d_RP_broken_9 ?_
  refine lv_iconst (v := 1) hx hb d_RP_broken_12 (by decide) ?_
  refine lv_iload_n hx hb d_RP_broken_13 rfl (lv_at hl 2 rfl) ?_
  refine lv_i2l hx hb d_RP_broken_14 rfl ?_
  obtain ⟨μ15, hm, h⟩ := bd h
  refine m_lastore hx hb hK hw hm d_RP_broken_15 (fun H locs hw => ?_)
  refine lv_aload_n hx hb d_RP_broken_16 rfl (lv_at hl 0 rfl) ?_
  refine va_get (D := G.1) (ci := 0) (v := .ref (G.2.1 40)) (C := "RecipePlans") (T := T_RP) (N := 8) hx hb hts (fun _ h9 => List.mem_cons_of_mem _ (inT_RP _ h9)) hown hK hw.1 0 (WL_get (by decide)) rfl 6 (by decide) (hts _ (List.mem_cons_of_mem _ tw_227)) (fun _ h9 => h9) rfl d_RP_broken_17 ?_
  refine lv_iconst (v := 2) hx hb d_RP_broken_20 (by decide) ?_
  refine lv_iload_n hx hb d_RP_broken_21 rfl (lv_at hl 3 rfl) ?_
  refine lv_i2l hx hb d_RP_broken_22 rfl ?_
  obtain ⟨μ23, hm, h⟩ := bd h
  refine m_lastore hx hb hK hw hm d_RP_broken_23 (fun H locs hw => ?_)
  refine lv_aload_n hx hb d_RP_broken_24 rfl (lv_at hl 0 rfl) ?_
  refine va_get (D := G.1) (ci := 0) (v := .ref (G.2.1 40)) (C := "RecipePlans") (T := T_RP) (N := 8) hx hb hts (fun _ h9 => List.mem_cons_of_mem _ (inT_RP _ h9)) hown hK hw.1 0 (WL_get (by decide)) rfl 6 (by decide) (hts _ (List.mem_cons_of_mem _ tw_227)) (fun _ h9 => h9) rfl d_RP_broken_25 ?_
  refine lv_iconst (v := 3) hx hb d_RP_broken_28 (by decide) ?_
  refine lv_iload hx hb d_RP_broken_29 (lv_at hl 4 rfl) ?_
  refine lv_i2l hx hb d_RP_broken_31 rfl ?_
  obtain ⟨μ32, hm, h⟩ := bd h
  refine m_lastore hx hb hK hw hm d_RP_broken_32 (fun H locs hw => ?_)
  refine lv_aload_n hx hb d_RP_broken_33 rfl (lv_at hl 0 rfl) ?_
  refine va_get (D := G.1) (ci := 0) (v := .ref (G.2.1 40)) (C := "RecipePlans") (T := T_RP) (N := 8) hx hb hts (fun _ h9 => List.mem_cons_of_mem _ (inT_RP _ h9)) hown hK hw.1 0 (WL_get (by decide)) rfl 6 (by decide) (hts _ (List.mem_cons_of_mem _ tw_227)) (fun _ h9 => h9) rfl d_RP_broken_34 ?_
  refine lv_iconst (v := 4) hx hb d_RP_broken_37 (by decide) ?_
  refine lv_lconst (v := 1) hx hb d_RP_broken_38 (by decide) ?_
  obtain ⟨μ39, hm, h⟩ := bd h
  refine m_lastore hx hb hK hw hm d_RP_broken_39 (fun H locs hw => ?_)
  refine lv_iconst (v := 0) hx hb d_RP_broken_40 (by decide) ?_
  refine lv_istore (lv' := [(5, .int (0 : Int32)), (0, .ref (G.2.1 0)), (1, .int x1), (2, .int x2), (3, .int x3), (4, .int x4)]) hx hb d_RP_broken_41 hl (by decide) rfl (fun ls hl => ?_)
  exact w_RP_broken_43 C N (0 : Int32) μ39 _ _ _ hw (lv_sub hl [1, 0] rfl) h
end WK
