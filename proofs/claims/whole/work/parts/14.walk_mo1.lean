section WK
variable {p : Program} {l : Launch} {e : Env} {s : State} {m : MethodId} {args : Array Value} {below : List Frame} {meth : Method} {c : Code} {G : Gw}
set_option maxRecDepth 100000 in
set_option maxHeartbeats 4000000 in
theorem c_Mo_isIn (l : Launch) (N : Nat) (x0 : Int64) (x2 : Int64) (x4 : Int64) {r : Int32} (h : M_Mo_isIn N x0 x2 x4 = some r) : CTp l y_Mo_isIn ws_Mo_isIn rm_Mo_isIn [.long x0, .long x2, .long x4] (.int r) := by
  refine m_metP (cc := prog_9_method_3_code) (maxL := 6) (ret := (some .boolean)) (by decide +kernel) rfl (Nat.le_of_ble_eq_true rfl) ?_
  intro p e s m args below meth c ls C hl
  obtain ⟨hx, hb, hr, hml, hown, hts, hlk⟩ := id C
  have hl : lv_has ls 6 [(0, .long x0), (2, .long x2), (4, .long x4)] := hl
  unfold M_Mo_isIn at h
  refine lv_lload_n hx hb d_Mo_isIn_0 rfl (lv_at hl 0 rfl) ?_
  refine lv_lload_n hx hb d_Mo_isIn_1 rfl (lv_at hl 1 rfl) ?_
  refine W.lcmp hx hb d_Mo_isIn_2 ?_
  refine lv_if_lt (tgt := 17) hx hb d_Mo_isIn_3 (by decide) (fun c3 => ?_) (fun c3 => ?_)
  · have h := ifp c3 h
    refine lv_iconst (v := 0) hx hb d_Mo_isIn_17 (by decide) ?_
    exact m_pzret hx hb hr hlk h d_Mo_isIn_18
  · have h := ifn c3 h
    refine lv_lload_n hx hb d_Mo_isIn_6 rfl (lv_at hl 0 rfl) ?_
    refine lv_lload hx hb d_Mo_isIn_7 (lv_at hl 2 rfl) ?_
    refine W.lcmp hx hb d_Mo_isIn_9 ?_
    refine lv_if_gt (tgt := 17) hx hb d_Mo_isIn_10 (by decide) (fun c10 => ?_) (fun c10 => ?_)
    · have h := ifp c10 h
      refine lv_iconst (v := 0) hx hb d_Mo_isIn_17 (by decide) ?_
      exact m_pzret hx hb hr hlk h d_Mo_isIn_18
    · have h := ifn c10 h
      refine lv_iconst (v := 1) hx hb d_Mo_isIn_13 (by decide) ?_
      refine lv_goto (tgt := 18) hx hb d_Mo_isIn_14 (by decide) ?_
      exact m_pzret hx hb hr hlk h d_Mo_isIn_18
set_option maxRecDepth 100000 in
set_option maxHeartbeats 4000000 in
theorem c_Mo_isWhat (l : Launch) (N : Nat) (x0 : Int32) {r : Int32} (h : M_Mo_isWhat N x0 = some r) : CTp l y_Mo_isWhat ws_Mo_isWhat rm_Mo_isWhat [.int x0] (.int r) := by
  refine m_metP (cc := prog_9_method_4_code) (maxL := 1) (ret := (some .boolean)) (by decide +kernel) rfl (Nat.le_of_ble_eq_true rfl) ?_
  intro p e s m args below meth c ls C hl
  obtain ⟨hx, hb, hr, hml, hown, hts, hlk⟩ := id C
  have hl : lv_has ls 1 [(0, .int x0)] := hl
  unfold M_Mo_isWhat at h
  refine lv_iload_n hx hb d_Mo_isWhat_0 rfl (lv_at hl 0 rfl) ?_
  refine lv_if_lt (tgt := 13) hx hb d_Mo_isWhat_1 (by decide) (fun c1 => ?_) (fun c1 => ?_)
  · have h := ifp c1 h
    refine lv_iconst (v := 0) hx hb d_Mo_isWhat_13 (by decide) ?_
    exact m_pzret hx hb hr hlk h d_Mo_isWhat_14
  · have h := ifn c1 h
    refine lv_iload_n hx hb d_Mo_isWhat_4 rfl (lv_at hl 0 rfl) ?_
    refine lv_iconst (v := 5) hx hb d_Mo_isWhat_5 (by decide) ?_
    refine lv_icmp_ge (tgt := 13) hx hb d_Mo_isWhat_6 (by decide) (fun c6 => ?_) (fun c6 => ?_)
    · have h := ifp c6 h
      refine lv_iconst (v := 0) hx hb d_Mo_isWhat_13 (by decide) ?_
      exact m_pzret hx hb hr hlk h d_Mo_isWhat_14
    · have h := ifn c6 h
      refine lv_iconst (v := 1) hx hb d_Mo_isWhat_9 (by decide) ?_
      refine lv_goto (tgt := 14) hx hb d_Mo_isWhat_10 (by decide) ?_
      exact m_pzret hx hb hr hlk h d_Mo_isWhat_14
set_option maxRecDepth 100000 in
set_option maxHeartbeats 4000000 in
theorem c_Mo_lot (l : Launch) (G : Gw) (N : Nat) (x1 : Int32) (x2 : Int64) (μ : Mem) {r : Int32} {μ' : Mem} (h : M_Mo_lot N x1 x2 μ = some (r, μ')) : CT l y_Mo_lot ws_Mo_lot rm_Mo_lot [.ref (G.2.1 7), .int x1, .long x2] G μ (some (.int r)) μ' := by
  refine m_met (cc := prog_9_method_5_code) (maxL := 4) (ret := (some .int)) (by decide) rfl (Nat.le_of_ble_eq_true rfl) ?_
  intro p e s m args below meth c ls C hw hl
  obtain ⟨hx, hb, hr, hml, hown, hts, hlk, hK, hSt⟩ := id C
  have hl : lv_has ls 4 [(0, .ref (G.2.1 7)), (1, .int x1), (2, .long x2)] := hl
  unfold M_Mo_lot at h
  refine lv_aload_n hx hb d_Mo_lot_0 rfl (lv_at hl 0 rfl) ?_
  refine va_get (D := G.1) (ci := 7) (v := .int (μ.1 7 0)) (C := "RecipePlansModel") (T := T_Mo) (N := 24) hx hb hts (fun _ h9 => List.mem_cons_of_mem _ (inT_Mo _ h9)) hown hK hw.1 7 (WL_get (by decide)) rfl 0 (by decide) (hts _ (List.mem_cons_of_mem _ tw_453)) (fun _ h9 => h9) rfl d_Mo_lot_1 ?_
  refine lv_iconst (v := 4) hx hb d_Mo_lot_4 (by decide) ?_
  refine lv_icmp_eq (tgt := 33) hx hb d_Mo_lot_5 (by decide) (fun c5 => ?_) (fun c5 => ?_)
  · have h := ifp c5 h
    refine lv_iconst (v := -1) hx hb d_Mo_lot_33 (by decide) ?_
    exact m_iret hx hb hr hlk hw h d_Mo_lot_34
  · have h := ifn c5 h
    refine lv_iload_n hx hb d_Mo_lot_8 rfl (lv_at hl 1 rfl) ?_
    refine lv_i2l hx hb d_Mo_lot_9 rfl ?_
    refine lv_lconst (v := 0) hx hb d_Mo_lot_10 (by decide) ?_
    refine lv_ldc2 (v := 9) hx hb hown (hts _ (List.mem_cons_of_mem _ tw_505)) d_Mo_lot_11 ?_
    obtain ⟨r14, hq, h⟩ := bd h
    refine m_pcall (r := .int r14) (W.runS (As := [.long x1.toInt64, .long (0 : Int64), .long (9 : Int64)]) (rest := []) ⟨hx, hb, hml, hown, hts⟩ (c_Mo_isIn l N x1.toInt64 (0 : Int64) (9 : Int64) hq) (va_cwS 3 hts (gdS tw_506 tw_507 tw_41 tw_508) rfl rfl rfl (by decide +kernel) ⟨Nat.le_of_ble_eq_true rfl, Nat.le_of_ble_eq_true rfl⟩) preEq rfl rfl hl.1 rfl (lv_room (Nat.le_of_ble_eq_true rfl)) d_Mo_lot_14 ⟨Nat.zero_le _, Nat.zero_le _⟩) ?_
    refine lv_if_eq (tgt := 33) hx hb d_Mo_lot_17 (by decide) (fun c17 => ?_) (fun c17 => ?_)
    · have h := ifp c17 h
      refine lv_iconst (v := -1) hx hb d_Mo_lot_33 (by decide) ?_
      exact m_iret hx hb hr hlk hw h d_Mo_lot_34
    · have h := ifn c17 h
      refine lv_lload_n hx hb d_Mo_lot_20 rfl (lv_at hl 2 rfl) ?_
      refine lv_ldc2 (v := -1000) hx hb hown (hts _ (List.mem_cons_of_mem _ tw_509)) d_Mo_lot_21 ?_
      refine lv_ldc2 (v := 1000) hx hb hown (hts _ (List.mem_cons_of_mem _ tw_510)) d_Mo_lot_24 ?_
      obtain ⟨r27, hq, h⟩ := bd h
      refine m_pcall (r := .int r27) (W.runS (As := [.long x2, .long (-1000 : Int64), .long (1000 : Int64)]) (rest := []) ⟨hx, hb, hml, hown, hts⟩ (c_Mo_isIn l N x2 (-1000 : Int64) (1000 : Int64) hq) (va_cwS 3 hts (gdS tw_506 tw_507 tw_41 tw_508) rfl rfl rfl (by decide +kernel) ⟨Nat.le_of_ble_eq_true rfl, Nat.le_of_ble_eq_true rfl⟩) preEq rfl rfl hl.1 rfl (lv_room (Nat.le_of_ble_eq_true rfl)) d_Mo_lot_27 ⟨Nat.zero_le _, Nat.zero_le _⟩) ?_
      refine lv_if_ne (tgt := 35) hx hb d_Mo_lot_30 (by decide) (fun c30 => ?_) (fun c30 => ?_)
      · have h := ifn c30 h
        refine lv_aload_n hx hb d_Mo_lot_35 rfl (lv_at hl 0 rfl) ?_
        refine va_get (D := G.1) (ci := 7) (v := .ref (G.2.1 28)) (C := "RecipePlansModel") (T := T_Mo) (N := 24) hx hb hts (fun _ h9 => List.mem_cons_of_mem _ (inT_Mo _ h9)) hown hK hw.1 7 (WL_get (by decide)) rfl 1 (by decide) (hts _ (List.mem_cons_of_mem _ tw_454)) (fun _ h9 => h9) rfl d_Mo_lot_36 ?_
        refine lv_aload_n hx hb d_Mo_lot_39 rfl (lv_at hl 0 rfl) ?_
        refine va_get (D := G.1) (ci := 7) (v := .int (μ.1 7 0)) (C := "RecipePlansModel") (T := T_Mo) (N := 24) hx hb hts (fun _ h9 => List.mem_cons_of_mem _ (inT_Mo _ h9)) hown hK hw.1 7 (WL_get (by decide)) rfl 0 (by decide) (hts _ (List.mem_cons_of_mem _ tw_453)) (fun _ h9 => h9) rfl d_Mo_lot_40 ?_
        refine lv_iload_n hx hb d_Mo_lot_43 rfl (lv_at hl 1 rfl) ?_
        obtain ⟨μ44, hm, h⟩ := bd h
        refine m_iastore hx hb hK hw hm d_Mo_lot_44 (fun H locs hw => ?_)
        refine lv_aload_n hx hb d_Mo_lot_45 rfl (lv_at hl 0 rfl) ?_
        refine va_get (D := G.1) (ci := 7) (v := .ref (G.2.1 29)) (C := "RecipePlansModel") (T := T_Mo) (N := 24) hx hb hts (fun _ h9 => List.mem_cons_of_mem _ (inT_Mo _ h9)) hown hK hw.1 7 (WL_get (by decide)) rfl 2 (by decide) (hts _ (List.mem_cons_of_mem _ tw_455)) (fun _ h9 => h9) rfl d_Mo_lot_46 ?_
        refine lv_aload_n hx hb d_Mo_lot_49 rfl (lv_at hl 0 rfl) ?_
        refine va_get (D := G.1) (ci := 7) (v := .int (μ44.1 7 0)) (C := "RecipePlansModel") (T := T_Mo) (N := 24) hx hb hts (fun _ h9 => List.mem_cons_of_mem _ (inT_Mo _ h9)) hown hK hw.1 7 (WL_get (by decide)) rfl 0 (by decide) (hts _ (List.mem_cons_of_mem _ tw_453)) (fun _ h9 => h9) rfl d_Mo_lot_50 ?_
        refine lv_lload_n hx hb d_Mo_lot_53 rfl (lv_at hl 2 rfl) ?_
        refine lv_l2i hx hb d_Mo_lot_54 rfl ?_
        obtain ⟨μ55, hm, h⟩ := bd h
        refine m_iastore hx hb hK hw hm d_Mo_lot_55 (fun H locs hw => ?_)
        refine lv_aload_n hx hb d_Mo_lot_56 rfl (lv_at hl 0 rfl) ?_
        refine lv_dup hx hb d_Mo_lot_57 rfl ?_
        refine va_get (D := G.1) (ci := 7) (v := .int (μ55.1 7 0)) (C := "RecipePlansModel") (T := T_Mo) (N := 24) hx hb hts (fun _ h9 => List.mem_cons_of_mem _ (inT_Mo _ h9)) hown hK hw.1 7 (WL_get (by decide)) rfl 0 (by decide) (hts _ (List.mem_cons_of_mem _ tw_453)) (fun _ h9 => h9) rfl d_Mo_lot_58 ?_
        refine lv_iconst (v := 1) hx hb d_Mo_lot_61 (by decide) ?_
        refine lv_iadd hx hb d_Mo_lot_62 ?_
        obtain ⟨μ63, hm, h⟩ := bd h
        refine va_put (D := G.1) (ci := 7) (v := .int ((μ55.1 7 0) + (1 : Int32))) (ty := .int) (C := "RecipePlansModel") (T := T_Mo) (N := 24) hx hb hts (fun _ h9 => List.mem_cons_of_mem _ (inT_Mo _ h9)) ty_Mo tyok_Mo nm_Mo hown hK hw.1 hw.2.1 hw.2.2 7 (WL_get (by decide)) rfl 0 (by decide) (hts _ (List.mem_cons_of_mem _ tw_453)) (fun _ h9 => h9) rfl (by decide +kernel) rfl rfl (Nat.le_of_ble_eq_true rfl) d_Mo_lot_63 (fun H locs hP hD hS => ?_)
        have hw := wk_pI hm (by decide) (by rfl) hP hD hS
        refine lv_aload_n hx hb d_Mo_lot_66 rfl (lv_at hl 0 rfl) ?_
        refine va_get (D := G.1) (ci := 7) (v := .int (μ63.1 7 0)) (C := "RecipePlansModel") (T := T_Mo) (N := 24) hx hb hts (fun _ h9 => List.mem_cons_of_mem _ (inT_Mo _ h9)) hown hK hw.1 7 (WL_get (by decide)) rfl 0 (by decide) (hts _ (List.mem_cons_of_mem _ tw_453)) (fun _ h9 => h9) rfl d_Mo_lot_67 ?_
        refine lv_iconst (v := 1) hx hb d_Mo_lot_70 (by decide) ?_
        refine lv_isub hx hb d_Mo_lot_71 ?_
        exact m_iret hx hb hr hlk hw h d_Mo_lot_72
      · have h := ifp c30 h
        refine lv_iconst (v := -1) hx hb d_Mo_lot_33 (by decide) ?_
        exact m_iret hx hb hr hlk hw h d_Mo_lot_34
set_option maxRecDepth 100000 in
set_option maxHeartbeats 4000000 in
theorem c_Mo_amount (l : Launch) (G : Gw) (N : Nat) (x1 : Int32) (x2 : Int32) (x3 : Int32) (μ : Mem) {r : Int32} {μ' : Mem} (h : M_Mo_amount N x1 x2 x3 μ = some (r, μ')) : CT l y_Mo_amount ws_Mo_amount rm_Mo_amount [.ref (G.2.1 7), .int x1, .int x2, .int x3] G μ (some (.int r)) μ' := by
  refine m_met (cc := prog_9_method_6_code) (maxL := 4) (ret := (some .boolean)) (by decide) rfl (Nat.le_of_ble_eq_true rfl) ?_
  intro p e s m args below meth c ls C hw hl
  obtain ⟨hx, hb, hr, hml, hown, hts, hlk, hK, hSt⟩ := id C
  have hl : lv_has ls 4 [(0, .ref (G.2.1 7)), (1, .int x1), (2, .int x2), (3, .int x3)] := hl
  unfold M_Mo_amount at h
  refine lv_iload_n hx hb d_Mo_amount_0 rfl (lv_at hl 1 rfl) ?_
  refine lv_if_lt (tgt := 33) hx hb d_Mo_amount_1 (by decide) (fun c1 => ?_) (fun c1 => ?_)
  · have h := ifp c1 h
    refine lv_iconst (v := 0) hx hb d_Mo_amount_33 (by decide) ?_
    exact m_zret hx hb hr hlk hw h d_Mo_amount_34
  · have h := ifn c1 h
    refine lv_iload_n hx hb d_Mo_amount_4 rfl (lv_at hl 1 rfl) ?_
    refine lv_aload_n hx hb d_Mo_amount_5 rfl (lv_at hl 0 rfl) ?_
    refine va_get (D := G.1) (ci := 7) (v := .int (μ.1 7 0)) (C := "RecipePlansModel") (T := T_Mo) (N := 24) hx hb hts (fun _ h9 => List.mem_cons_of_mem _ (inT_Mo _ h9)) hown hK hw.1 7 (WL_get (by decide)) rfl 0 (by decide) (hts _ (List.mem_cons_of_mem _ tw_453)) (fun _ h9 => h9) rfl d_Mo_amount_6 ?_
    refine lv_icmp_ge (tgt := 33) hx hb d_Mo_amount_9 (by decide) (fun c9 => ?_) (fun c9 => ?_)
    · have h := ifp c9 h
      refine lv_iconst (v := 0) hx hb d_Mo_amount_33 (by decide) ?_
      exact m_zret hx hb hr hlk hw h d_Mo_amount_34
    · have h := ifn c9 h
      refine lv_iload_n hx hb d_Mo_amount_12 rfl (lv_at hl 2 rfl) ?_
      obtain ⟨r13, hq, h⟩ := bd h
      refine m_pcall (r := .int r13) (W.runS (As := [.int x2]) (rest := []) ⟨hx, hb, hml, hown, hts⟩ (c_Mo_isWhat l N x2 hq) (va_cwS 1 hts (gdS tw_515 tw_516 tw_41 tw_517) rfl rfl rfl (by decide +kernel) ⟨Nat.le_of_ble_eq_true rfl, Nat.le_of_ble_eq_true rfl⟩) preEq rfl rfl hl.1 rfl (lv_room (Nat.le_of_ble_eq_true rfl)) d_Mo_amount_13 ⟨Nat.zero_le _, Nat.zero_le _⟩) ?_
      refine lv_if_eq (tgt := 33) hx hb d_Mo_amount_16 (by decide) (fun c16 => ?_) (fun c16 => ?_)
      · have h := ifp c16 h
        refine lv_iconst (v := 0) hx hb d_Mo_amount_33 (by decide) ?_
        exact m_zret hx hb hr hlk hw h d_Mo_amount_34
      · have h := ifn c16 h
        refine lv_iload_n hx hb d_Mo_amount_19 rfl (lv_at hl 3 rfl) ?_
        refine lv_i2l hx hb d_Mo_amount_20 rfl ?_
        refine lv_ldc2 (v := -100) hx hb hown (hts _ (List.mem_cons_of_mem _ tw_518)) d_Mo_amount_21 ?_
        refine lv_ldc2 (v := 100) hx hb hown (hts _ (List.mem_cons_of_mem _ tw_519)) d_Mo_amount_24 ?_
        obtain ⟨r27, hq, h⟩ := bd h
        refine m_pcall (r := .int r27) (W.runS (As := [.long x3.toInt64, .long (-100 : Int64), .long (100 : Int64)]) (rest := []) ⟨hx, hb, hml, hown, hts⟩ (c_Mo_isIn l N x3.toInt64 (-100 : Int64) (100 : Int64) hq) (va_cwS 3 hts (gdS tw_506 tw_507 tw_41 tw_508) rfl rfl rfl (by decide +kernel) ⟨Nat.le_of_ble_eq_true rfl, Nat.le_of_ble_eq_true rfl⟩) preEq rfl rfl hl.1 rfl (lv_room (Nat.le_of_ble_eq_true rfl)) d_Mo_amount_27 ⟨Nat.zero_le _, Nat.zero_le _⟩) ?_
        refine lv_if_ne (tgt := 35) hx hb d_Mo_amount_30 (by decide) (fun c30 => ?_) (fun c30 => ?_)
        · have h := ifn c30 h
          refine lv_aload_n hx hb d_Mo_amount_35 rfl (lv_at hl 0 rfl) ?_
          refine va_get (D := G.1) (ci := 7) (v := .ref (G.2.1 30)) (C := "RecipePlansModel") (T := T_Mo) (N := 24) hx hb hts (fun _ h9 => List.mem_cons_of_mem _ (inT_Mo _ h9)) hown hK hw.1 7 (WL_get (by decide)) rfl 3 (by decide) (hts _ (List.mem_cons_of_mem _ tw_456)) (fun _ h9 => h9) rfl d_Mo_amount_36 ?_
          refine lv_iconst (v := 5) hx hb d_Mo_amount_39 (by decide) ?_
          refine lv_iload_n hx hb d_Mo_amount_40 rfl (lv_at hl 1 rfl) ?_
          refine lv_imul hx hb d_Mo_amount_41 ?_
          refine lv_iload_n hx hb d_Mo_amount_42 rfl (lv_at hl 2 rfl) ?_
          refine lv_iadd hx hb d_Mo_amount_43 ?_
          refine lv_iload_n hx hb d_Mo_amount_44 rfl (lv_at hl 3 rfl) ?_
          obtain ⟨μ45, hm, h⟩ := bd h
          refine m_iastore hx hb hK hw hm d_Mo_amount_45 (fun H locs hw => ?_)
          refine lv_iconst (v := 1) hx hb d_Mo_amount_46 (by decide) ?_
          exact m_zret hx hb hr hlk hw h d_Mo_amount_47
        · have h := ifp c30 h
          refine lv_iconst (v := 0) hx hb d_Mo_amount_33 (by decide) ?_
          exact m_zret hx hb hr hlk hw h d_Mo_amount_34
set_option maxRecDepth 100000 in
set_option maxHeartbeats 4000000 in
theorem c_Mo_tell (l : Launch) (G : Gw) (N : Nat) (x1 : Int32) (x2 : Int32) (x3 : Int32) (μ : Mem) {r : Int32} {μ' : Mem} (h : M_Mo_tell N x1 x2 x3 μ = some (r, μ')) : CT l y_Mo_tell ws_Mo_tell rm_Mo_tell [.ref (G.2.1 7), .int x1, .int x2, .int x3] G μ (some (.int r)) μ' := by
  refine m_met (cc := prog_9_method_7_code) (maxL := 4) (ret := (some .boolean)) (by decide) rfl (Nat.le_of_ble_eq_true rfl) ?_
  intro p e s m args below meth c ls C hw hl
  obtain ⟨hx, hb, hr, hml, hown, hts, hlk, hK, hSt⟩ := id C
  have hl : lv_has ls 4 [(0, .ref (G.2.1 7)), (1, .int x1), (2, .int x2), (3, .int x3)] := hl
  unfold M_Mo_tell at h
  refine lv_aload_n hx hb d_Mo_tell_0 rfl (lv_at hl 0 rfl) ?_
  refine va_get (D := G.1) (ci := 7) (v := .ref (G.2.1 14)) (C := "RecipePlansModel") (T := T_Mo) (N := 24) hx hb hts (fun _ h9 => List.mem_cons_of_mem _ (inT_Mo _ h9)) hown hK hw.1 7 (WL_get (by decide)) rfl 4 (by decide) (hts _ (List.mem_cons_of_mem _ tw_457)) (fun _ h9 => h9) rfl d_Mo_tell_1 ?_
  refine lv_iload_n hx hb d_Mo_tell_4 rfl (lv_at hl 1 rfl) ?_
  refine lv_iconst (v := 1) hx hb d_Mo_tell_5 (by decide) ?_
  obtain ⟨μ6, hm, h⟩ := bd h
  refine m_bastore hx hb hK hw hm d_Mo_tell_6 (fun H locs hw => ?_)
  refine lv_aload_n hx hb d_Mo_tell_7 rfl (lv_at hl 0 rfl) ?_
  refine va_get (D := G.1) (ci := 7) (v := .ref (G.2.1 31)) (C := "RecipePlansModel") (T := T_Mo) (N := 24) hx hb hts (fun _ h9 => List.mem_cons_of_mem _ (inT_Mo _ h9)) hown hK hw.1 7 (WL_get (by decide)) rfl 5 (by decide) (hts _ (List.mem_cons_of_mem _ tw_458)) (fun _ h9 => h9) rfl d_Mo_tell_8 ?_
  refine lv_iload_n hx hb d_Mo_tell_11 rfl (lv_at hl 1 rfl) ?_
  refine lv_iload_n hx hb d_Mo_tell_12 rfl (lv_at hl 2 rfl) ?_
  obtain ⟨μ13, hm, h⟩ := bd h
  refine m_iastore hx hb hK hw hm d_Mo_tell_13 (fun H locs hw => ?_)
  refine lv_aload_n hx hb d_Mo_tell_14 rfl (lv_at hl 0 rfl) ?_
  refine va_get (D := G.1) (ci := 7) (v := .ref (G.2.1 32)) (C := "RecipePlansModel") (T := T_Mo) (N := 24) hx hb hts (fun _ h9 => List.mem_cons_of_mem _ (inT_Mo _ h9)) hown hK hw.1 7 (WL_get (by decide)) rfl 6 (by decide) (hts _ (List.mem_cons_of_mem _ tw_459)) (fun _ h9 => h9) rfl d_Mo_tell_15 ?_
  refine lv_iload_n hx hb d_Mo_tell_18 rfl (lv_at hl 1 rfl) ?_
  refine lv_iload_n hx hb d_Mo_tell_19 rfl (lv_at hl 3 rfl) ?_
  obtain ⟨μ20, hm, h⟩ := bd h
  refine m_iastore hx hb hK hw hm d_Mo_tell_20 (fun H locs hw => ?_)
  refine lv_iconst (v := 1) hx hb d_Mo_tell_21 (by decide) ?_
  exact m_zret hx hb hr hlk hw h d_Mo_tell_22
set_option maxRecDepth 100000 in
set_option maxHeartbeats 4000000 in
theorem c_Mo_span (l : Launch) (G : Gw) (N : Nat) (x1 : Int32) (x2 : Int32) (x3 : Int32) (μ : Mem) {r : Int32} {μ' : Mem} (h : M_Mo_span N x1 x2 x3 μ = some (r, μ')) : CT l y_Mo_span ws_Mo_span rm_Mo_span [.ref (G.2.1 7), .int x1, .int x2, .int x3] G μ (some (.int r)) μ' := by
  refine m_met (cc := prog_9_method_8_code) (maxL := 4) (ret := (some .boolean)) (by decide) rfl (Nat.le_of_ble_eq_true rfl) ?_
  intro p e s m args below meth c ls C hw hl
  obtain ⟨hx, hb, hr, hml, hown, hts, hlk, hK, hSt⟩ := id C
  have hl : lv_has ls 4 [(0, .ref (G.2.1 7)), (1, .int x1), (2, .int x2), (3, .int x3)] := hl
  unfold M_Mo_span at h
  refine lv_iload_n hx hb d_Mo_span_0 rfl (lv_at hl 1 rfl) ?_
  obtain ⟨r1, hq, h⟩ := bd h
  refine m_pcall (r := .int r1) (W.runS (As := [.int x1]) (rest := []) ⟨hx, hb, hml, hown, hts⟩ (c_Mo_isWhat l N x1 hq) (va_cwS 1 hts (gdS tw_515 tw_516 tw_41 tw_517) rfl rfl rfl (by decide +kernel) ⟨Nat.le_of_ble_eq_true rfl, Nat.le_of_ble_eq_true rfl⟩) preEq rfl rfl hl.1 rfl (lv_room (Nat.le_of_ble_eq_true rfl)) d_Mo_span_1 ⟨Nat.zero_le _, Nat.zero_le _⟩) ?_
  refine lv_if_eq (tgt := 47) hx hb d_Mo_span_4 (by decide) (fun c4 => ?_) (fun c4 => ?_)
  · have h := ifp c4 h
    refine lv_iconst (v := 0) hx hb d_Mo_span_47 (by decide) ?_
    exact m_zret hx hb hr hlk hw h d_Mo_span_48
  · have h := ifn c4 h
    refine lv_iload_n hx hb d_Mo_span_7 rfl (lv_at hl 2 rfl) ?_
    refine lv_i2l hx hb d_Mo_span_8 rfl ?_
    refine lv_ldc2 (v := -100000) hx hb hown (hts _ (List.mem_cons_of_mem _ tw_524)) d_Mo_span_9 ?_
    refine lv_iload_n hx hb d_Mo_span_12 rfl (lv_at hl 3 rfl) ?_
    refine lv_i2l hx hb d_Mo_span_13 rfl ?_
    obtain ⟨r14, hq, h⟩ := bd h
    refine m_pcall (r := .int r14) (W.runS (As := [.long x2.toInt64, .long (-100000 : Int64), .long x3.toInt64]) (rest := []) ⟨hx, hb, hml, hown, hts⟩ (c_Mo_isIn l N x2.toInt64 (-100000 : Int64) x3.toInt64 hq) (va_cwS 3 hts (gdS tw_506 tw_507 tw_41 tw_508) rfl rfl rfl (by decide +kernel) ⟨Nat.le_of_ble_eq_true rfl, Nat.le_of_ble_eq_true rfl⟩) preEq rfl rfl hl.1 rfl (lv_room (Nat.le_of_ble_eq_true rfl)) d_Mo_span_14 ⟨Nat.zero_le _, Nat.zero_le _⟩) ?_
    refine lv_if_eq (tgt := 47) hx hb d_Mo_span_17 (by decide) (fun c17 => ?_) (fun c17 => ?_)
    · have h := ifp c17 h
      refine lv_iconst (v := 0) hx hb d_Mo_span_47 (by decide) ?_
      exact m_zret hx hb hr hlk hw h d_Mo_span_48
    · have h := ifn c17 h
      refine lv_iload_n hx hb d_Mo_span_20 rfl (lv_at hl 3 rfl) ?_
      refine lv_i2l hx hb d_Mo_span_21 rfl ?_
      refine lv_iload_n hx hb d_Mo_span_22 rfl (lv_at hl 2 rfl) ?_
      refine lv_i2l hx hb d_Mo_span_23 rfl ?_
      refine lv_ldc2 (v := 100000) hx hb hown (hts _ (List.mem_cons_of_mem _ tw_525)) d_Mo_span_24 ?_
      obtain ⟨r27, hq, h⟩ := bd h
      refine m_pcall (r := .int r27) (W.runS (As := [.long x3.toInt64, .long x2.toInt64, .long (100000 : Int64)]) (rest := []) ⟨hx, hb, hml, hown, hts⟩ (c_Mo_isIn l N x3.toInt64 x2.toInt64 (100000 : Int64) hq) (va_cwS 3 hts (gdS tw_506 tw_507 tw_41 tw_508) rfl rfl rfl (by decide +kernel) ⟨Nat.le_of_ble_eq_true rfl, Nat.le_of_ble_eq_true rfl⟩) preEq rfl rfl hl.1 rfl (lv_room (Nat.le_of_ble_eq_true rfl)) d_Mo_span_27 ⟨Nat.zero_le _, Nat.zero_le _⟩) ?_
      refine lv_if_eq (tgt := 47) hx hb d_Mo_span_30 (by decide) (fun c30 => ?_) (fun c30 => ?_)
      · have h := ifp c30 h
        refine lv_iconst (v := 0) hx hb d_Mo_span_47 (by decide) ?_
        exact m_zret hx hb hr hlk hw h d_Mo_span_48
      · have h := ifn c30 h
        refine lv_aload_n hx hb d_Mo_span_33 rfl (lv_at hl 0 rfl) ?_
        refine lv_iload_n hx hb d_Mo_span_34 rfl (lv_at hl 1 rfl) ?_
        refine lv_iload_n hx hb d_Mo_span_35 rfl (lv_at hl 2 rfl) ?_
        refine lv_iload_n hx hb d_Mo_span_36 rfl (lv_at hl 3 rfl) ?_
        obtain ⟨r37, μ37, hq, h⟩ := bd2 h
        refine m_call (r := some (.int r37)) (μ1 := μ37) (va_runV (C := "RecipePlansModel") (As := [.int x1, .int x2, .int x3]) (rest := []) ⟨hx, hb, hml, hown, hts⟩ (c_Mo_tell l G N x1 x2 x3 μ hq _) (cwV 3 hts (gdV tw_526 tw_527 tw_16 tw_41 tw_528) rfl rfl rfl (by decide +kernel) ⟨Nat.le_of_ble_eq_true rfl, Nat.le_of_ble_eq_true rfl⟩) (m_preV (k := 7) (by decide) rfl hK hSt hw) rfl rfl hl.1 rfl (lv_room (Nat.le_of_ble_eq_true rfl)) d_Mo_span_37 ⟨Nat.zero_le _, Nat.zero_le _⟩) hw (fun H locs hw => ?_)
        refine lv_if_eq (tgt := 47) hx hb d_Mo_span_40 (by decide) (fun c40 => ?_) (fun c40 => ?_)
        · have h := ifp c40 h
          refine lv_iconst (v := 0) hx hb d_Mo_span_47 (by decide) ?_
          exact m_zret hx hb hr hlk hw h d_Mo_span_48
        · have h := ifn c40 h
          refine lv_iconst (v := 1) hx hb d_Mo_span_43 (by decide) ?_
          refine lv_goto (tgt := 48) hx hb d_Mo_span_44 (by decide) ?_
          exact m_zret hx hb hr hlk hw h d_Mo_span_48
set_option maxRecDepth 100000 in
set_option maxHeartbeats 4000000 in
theorem c_Mo_ratio (l : Launch) (G : Gw) (N : Nat) (x1 : Int32) (x2 : Int32) (x3 : Int32) (x4 : Int32) (x5 : Int32) (x6 : Int32) (μ : Mem) {r : Int32} {μ' : Mem} (h : M_Mo_ratio N x1 x2 x3 x4 x5 x6 μ = some (r, μ')) : CT l y_Mo_ratio ws_Mo_ratio rm_Mo_ratio [.ref (G.2.1 7), .int x1, .int x2, .int x3, .int x4, .int x5, .int x6] G μ (some (.int r)) μ' := by
  refine m_met (cc := prog_9_method_9_code) (maxL := 7) (ret := (some .boolean)) (by decide) rfl (Nat.le_of_ble_eq_true rfl) ?_
  intro p e s m args below meth c ls C hw hl
  obtain ⟨hx, hb, hr, hml, hown, hts, hlk, hK, hSt⟩ := id C
  have hl : lv_has ls 7 [(0, .ref (G.2.1 7)), (1, .int x1), (2, .int x2), (3, .int x3), (4, .int x4), (5, .int x5), (6, .int x6)] := hl
  unfold M_Mo_ratio at h
  refine lv_iload_n hx hb d_Mo_ratio_0 rfl (lv_at hl 1 rfl) ?_
  refine lv_if_lt (tgt := 64) hx hb d_Mo_ratio_1 (by decide) (fun c1 => ?_) (fun c1 => ?_)
  · have h := ifp c1 h
    refine lv_iconst (v := 0) hx hb d_Mo_ratio_64 (by decide) ?_
    exact m_zret hx hb hr hlk hw h d_Mo_ratio_65
  · have h := ifn c1 h
    refine lv_iload_n hx hb d_Mo_ratio_4 rfl (lv_at hl 1 rfl) ?_
    refine lv_iconst (v := 1) hx hb d_Mo_ratio_5 (by decide) ?_
    refine lv_icmp_gt (tgt := 64) hx hb d_Mo_ratio_6 (by decide) (fun c6 => ?_) (fun c6 => ?_)
    · have h := ifp c6 h
      refine lv_iconst (v := 0) hx hb d_Mo_ratio_64 (by decide) ?_
      exact m_zret hx hb hr hlk hw h d_Mo_ratio_65
    · have h := ifn c6 h
      refine lv_iload_n hx hb d_Mo_ratio_9 rfl (lv_at hl 2 rfl) ?_
      obtain ⟨r10, hq, h⟩ := bd h
      refine m_pcall (r := .int r10) (W.runS (As := [.int x2]) (rest := []) ⟨hx, hb, hml, hown, hts⟩ (c_Mo_isWhat l N x2 hq) (va_cwS 1 hts (gdS tw_515 tw_516 tw_41 tw_517) rfl rfl rfl (by decide +kernel) ⟨Nat.le_of_ble_eq_true rfl, Nat.le_of_ble_eq_true rfl⟩) preEq rfl rfl hl.1 rfl (lv_room (Nat.le_of_ble_eq_true rfl)) d_Mo_ratio_10 ⟨Nat.zero_le _, Nat.zero_le _⟩) ?_
      refine lv_if_eq (tgt := 64) hx hb d_Mo_ratio_13 (by decide) (fun c13 => ?_) (fun c13 => ?_)
      · have h := ifp c13 h
        refine lv_iconst (v := 0) hx hb d_Mo_ratio_64 (by decide) ?_
        exact m_zret hx hb hr hlk hw h d_Mo_ratio_65
      · have h := ifn c13 h
        refine lv_iload_n hx hb d_Mo_ratio_16 rfl (lv_at hl 3 rfl) ?_
        obtain ⟨r17, hq, h⟩ := bd h
        refine m_pcall (r := .int r17) (W.runS (As := [.int x3]) (rest := []) ⟨hx, hb, hml, hown, hts⟩ (c_Mo_isWhat l N x3 hq) (va_cwS 1 hts (gdS tw_515 tw_516 tw_41 tw_517) rfl rfl rfl (by decide +kernel) ⟨Nat.le_of_ble_eq_true rfl, Nat.le_of_ble_eq_true rfl⟩) preEq rfl rfl hl.1 rfl (lv_room (Nat.le_of_ble_eq_true rfl)) d_Mo_ratio_17 ⟨Nat.zero_le _, Nat.zero_le _⟩) ?_
        refine lv_if_eq (tgt := 64) hx hb d_Mo_ratio_20 (by decide) (fun c20 => ?_) (fun c20 => ?_)
        · have h := ifp c20 h
          refine lv_iconst (v := 0) hx hb d_Mo_ratio_64 (by decide) ?_
          exact m_zret hx hb hr hlk hw h d_Mo_ratio_65
        · have h := ifn c20 h
          refine lv_iload hx hb d_Mo_ratio_23 (lv_at hl 4 rfl) ?_
          refine lv_i2l hx hb d_Mo_ratio_25 rfl ?_
          refine lv_lconst (v := 0) hx hb d_Mo_ratio_26 (by decide) ?_
          refine lv_iload hx hb d_Mo_ratio_27 (lv_at hl 5 rfl) ?_
          refine lv_i2l hx hb d_Mo_ratio_29 rfl ?_
          obtain ⟨r30, hq, h⟩ := bd h
          refine m_pcall (r := .int r30) (W.runS (As := [.long x4.toInt64, .long (0 : Int64), .long x5.toInt64]) (rest := []) ⟨hx, hb, hml, hown, hts⟩ (c_Mo_isIn l N x4.toInt64 (0 : Int64) x5.toInt64 hq) (va_cwS 3 hts (gdS tw_506 tw_507 tw_41 tw_508) rfl rfl rfl (by decide +kernel) ⟨Nat.le_of_ble_eq_true rfl, Nat.le_of_ble_eq_true rfl⟩) preEq rfl rfl hl.1 rfl (lv_room (Nat.le_of_ble_eq_true rfl)) d_Mo_ratio_30 ⟨Nat.zero_le _, Nat.zero_le _⟩) ?_
          refine lv_if_eq (tgt := 64) hx hb d_Mo_ratio_33 (by decide) (fun c33 => ?_) (fun c33 => ?_)
          · have h := ifp c33 h
            refine lv_iconst (v := 0) hx hb d_Mo_ratio_64 (by decide) ?_
            exact m_zret hx hb hr hlk hw h d_Mo_ratio_65
          · have h := ifn c33 h
            refine lv_iload hx hb d_Mo_ratio_36 (lv_at hl 5 rfl) ?_
            refine lv_i2l hx hb d_Mo_ratio_38 rfl ?_
            refine lv_iload hx hb d_Mo_ratio_39 (lv_at hl 4 rfl) ?_
            refine lv_i2l hx hb d_Mo_ratio_41 rfl ?_
            refine lv_ldc2 (v := 100) hx hb hown (hts _ (List.mem_cons_of_mem _ tw_519)) d_Mo_ratio_42 ?_
            obtain ⟨r45, hq, h⟩ := bd h
            refine m_pcall (r := .int r45) (W.runS (As := [.long x5.toInt64, .long x4.toInt64, .long (100 : Int64)]) (rest := []) ⟨hx, hb, hml, hown, hts⟩ (c_Mo_isIn l N x5.toInt64 x4.toInt64 (100 : Int64) hq) (va_cwS 3 hts (gdS tw_506 tw_507 tw_41 tw_508) rfl rfl rfl (by decide +kernel) ⟨Nat.le_of_ble_eq_true rfl, Nat.le_of_ble_eq_true rfl⟩) preEq rfl rfl hl.1 rfl (lv_room (Nat.le_of_ble_eq_true rfl)) d_Mo_ratio_45 ⟨Nat.zero_le _, Nat.zero_le _⟩) ?_
            refine lv_if_eq (tgt := 64) hx hb d_Mo_ratio_48 (by decide) (fun c48 => ?_) (fun c48 => ?_)
            · have h := ifp c48 h
              refine lv_iconst (v := 0) hx hb d_Mo_ratio_64 (by decide) ?_
              exact m_zret hx hb hr hlk hw h d_Mo_ratio_65
            · have h := ifn c48 h
              refine lv_iload hx hb d_Mo_ratio_51 (lv_at hl 6 rfl) ?_
              refine lv_i2l hx hb d_Mo_ratio_53 rfl ?_
              refine lv_lconst (v := 1) hx hb d_Mo_ratio_54 (by decide) ?_
              refine lv_ldc2 (v := 100) hx hb hown (hts _ (List.mem_cons_of_mem _ tw_519)) d_Mo_ratio_55 ?_
              obtain ⟨r58, hq, h⟩ := bd h
              refine m_pcall (r := .int r58) (W.runS (As := [.long x6.toInt64, .long (1 : Int64), .long (100 : Int64)]) (rest := []) ⟨hx, hb, hml, hown, hts⟩ (c_Mo_isIn l N x6.toInt64 (1 : Int64) (100 : Int64) hq) (va_cwS 3 hts (gdS tw_506 tw_507 tw_41 tw_508) rfl rfl rfl (by decide +kernel) ⟨Nat.le_of_ble_eq_true rfl, Nat.le_of_ble_eq_true rfl⟩) preEq rfl rfl hl.1 rfl (lv_room (Nat.le_of_ble_eq_true rfl)) d_Mo_ratio_58 ⟨Nat.zero_le _, Nat.zero_le _⟩) ?_
              refine lv_if_ne (tgt := 66) hx hb d_Mo_ratio_61 (by decide) (fun c61 => ?_) (fun c61 => ?_)
              · have h := ifn c61 h
                refine lv_aload_n hx hb d_Mo_ratio_66 rfl (lv_at hl 0 rfl) ?_
                refine va_get (D := G.1) (ci := 7) (v := .ref (G.2.1 34)) (C := "RecipePlansModel") (T := T_Mo) (N := 24) hx hb hts (fun _ h9 => List.mem_cons_of_mem _ (inT_Mo _ h9)) hown hK hw.1 7 (WL_get (by decide)) rfl 8 (by decide) (hts _ (List.mem_cons_of_mem _ tw_461)) (fun _ h9 => h9) rfl d_Mo_ratio_67 ?_
                refine lv_iconst (v := 5) hx hb d_Mo_ratio_70 (by decide) ?_
                refine lv_iload_n hx hb d_Mo_ratio_71 rfl (lv_at hl 1 rfl) ?_
                refine lv_iadd hx hb d_Mo_ratio_72 ?_
                refine lv_iload_n hx hb d_Mo_ratio_73 rfl (lv_at hl 2 rfl) ?_
                obtain ⟨μ74, hm, h⟩ := bd h
                refine m_iastore hx hb hK hw hm d_Mo_ratio_74 (fun H locs hw => ?_)
                refine lv_aload_n hx hb d_Mo_ratio_75 rfl (lv_at hl 0 rfl) ?_
                refine va_get (D := G.1) (ci := 7) (v := .ref (G.2.1 35)) (C := "RecipePlansModel") (T := T_Mo) (N := 24) hx hb hts (fun _ h9 => List.mem_cons_of_mem _ (inT_Mo _ h9)) hown hK hw.1 7 (WL_get (by decide)) rfl 9 (by decide) (hts _ (List.mem_cons_of_mem _ tw_462)) (fun _ h9 => h9) rfl d_Mo_ratio_76 ?_
                refine lv_iconst (v := 5) hx hb d_Mo_ratio_79 (by decide) ?_
                refine lv_iload_n hx hb d_Mo_ratio_80 rfl (lv_at hl 1 rfl) ?_
                refine lv_iadd hx hb d_Mo_ratio_81 ?_
                refine lv_iload_n hx hb d_Mo_ratio_82 rfl (lv_at hl 3 rfl) ?_
                obtain ⟨μ83, hm, h⟩ := bd h
                refine m_iastore hx hb hK hw hm d_Mo_ratio_83 (fun H locs hw => ?_)
                refine lv_aload_n hx hb d_Mo_ratio_84 rfl (lv_at hl 0 rfl) ?_
                refine va_get (D := G.1) (ci := 7) (v := .ref (G.2.1 33)) (C := "RecipePlansModel") (T := T_Mo) (N := 24) hx hb hts (fun _ h9 => List.mem_cons_of_mem _ (inT_Mo _ h9)) hown hK hw.1 7 (WL_get (by decide)) rfl 7 (by decide) (hts _ (List.mem_cons_of_mem _ tw_460)) (fun _ h9 => h9) rfl d_Mo_ratio_85 ?_
                refine lv_iconst (v := 5) hx hb d_Mo_ratio_88 (by decide) ?_
                refine lv_iload_n hx hb d_Mo_ratio_89 rfl (lv_at hl 1 rfl) ?_
                refine lv_iadd hx hb d_Mo_ratio_90 ?_
                refine lv_iload hx hb d_Mo_ratio_91 (lv_at hl 6 rfl) ?_
                obtain ⟨μ93, hm, h⟩ := bd h
                refine m_iastore hx hb hK hw hm d_Mo_ratio_93 (fun H locs hw => ?_)
                refine lv_aload_n hx hb d_Mo_ratio_94 rfl (lv_at hl 0 rfl) ?_
                refine lv_iconst (v := 5) hx hb d_Mo_ratio_95 (by decide) ?_
                refine lv_iload_n hx hb d_Mo_ratio_96 rfl (lv_at hl 1 rfl) ?_
                refine lv_iadd hx hb d_Mo_ratio_97 ?_
                refine lv_iload hx hb d_Mo_ratio_98 (lv_at hl 4 rfl) ?_
                refine lv_iload hx hb d_Mo_ratio_100 (lv_at hl 5 rfl) ?_
                obtain ⟨r102, μ102, hq, h⟩ := bd2 h
                refine m_call (r := some (.int r102)) (μ1 := μ102) (va_runV (C := "RecipePlansModel") (As := [.int ((5 : Int32) + x1), .int x4, .int x5]) (rest := []) ⟨hx, hb, hml, hown, hts⟩ (c_Mo_tell l G N ((5 : Int32) + x1) x4 x5 μ93 hq _) (cwV 3 hts (gdV tw_526 tw_527 tw_16 tw_41 tw_528) rfl rfl rfl (by decide +kernel) ⟨Nat.le_of_ble_eq_true rfl, Nat.le_of_ble_eq_true rfl⟩) (m_preV (k := 7) (by decide) rfl hK hSt hw) rfl rfl hl.1 rfl (lv_room (Nat.le_of_ble_eq_true rfl)) d_Mo_ratio_102 ⟨Nat.zero_le _, Nat.zero_le _⟩) hw (fun H locs hw => ?_)
                exact m_zret hx hb hr hlk hw h d_Mo_ratio_105
              · have h := ifp c61 h
                refine lv_iconst (v := 0) hx hb d_Mo_ratio_64 (by decide) ?_
                exact m_zret hx hb hr hlk hw h d_Mo_ratio_65
set_option maxRecDepth 100000 in
set_option maxHeartbeats 4000000 in
theorem c_Mo_loads (l : Launch) (G : Gw) (N : Nat) (x1 : Int32) (x2 : Int32) (μ : Mem) {r : Int32} {μ' : Mem} (h : M_Mo_loads N x1 x2 μ = some (r, μ')) : CT l y_Mo_loads ws_Mo_loads rm_Mo_loads [.ref (G.2.1 7), .int x1, .int x2] G μ (some (.int r)) μ' := by
  refine m_met (cc := prog_9_method_10_code) (maxL := 3) (ret := (some .boolean)) (by decide) rfl (Nat.le_of_ble_eq_true rfl) ?_
  intro p e s m args below meth c ls C hw hl
  obtain ⟨hx, hb, hr, hml, hown, hts, hlk, hK, hSt⟩ := id C
  have hl : lv_has ls 3 [(0, .ref (G.2.1 7)), (1, .int x1), (2, .int x2)] := hl
  unfold M_Mo_loads at h
  refine lv_iload_n hx hb d_Mo_loads_0 rfl (lv_at hl 1 rfl) ?_
  refine lv_i2l hx hb d_Mo_loads_1 rfl ?_
  refine lv_lconst (v := 0) hx hb d_Mo_loads_2 (by decide) ?_
  refine lv_iload_n hx hb d_Mo_loads_3 rfl (lv_at hl 2 rfl) ?_
  refine lv_i2l hx hb d_Mo_loads_4 rfl ?_
  obtain ⟨r5, hq, h⟩ := bd h
  refine m_pcall (r := .int r5) (W.runS (As := [.long x1.toInt64, .long (0 : Int64), .long x2.toInt64]) (rest := []) ⟨hx, hb, hml, hown, hts⟩ (c_Mo_isIn l N x1.toInt64 (0 : Int64) x2.toInt64 hq) (va_cwS 3 hts (gdS tw_506 tw_507 tw_41 tw_508) rfl rfl rfl (by decide +kernel) ⟨Nat.le_of_ble_eq_true rfl, Nat.le_of_ble_eq_true rfl⟩) preEq rfl rfl hl.1 rfl (lv_room (Nat.le_of_ble_eq_true rfl)) d_Mo_loads_5 ⟨Nat.zero_le _, Nat.zero_le _⟩) ?_
  refine lv_if_eq (tgt := 39) hx hb d_Mo_loads_8 (by decide) (fun c8 => ?_) (fun c8 => ?_)
  · have h := ifp c8 h
    refine lv_iconst (v := 0) hx hb d_Mo_loads_39 (by decide) ?_
    exact m_zret hx hb hr hlk hw h d_Mo_loads_40
  · have h := ifn c8 h
    refine lv_iload_n hx hb d_Mo_loads_11 rfl (lv_at hl 2 rfl) ?_
    refine lv_i2l hx hb d_Mo_loads_12 rfl ?_
    refine lv_iload_n hx hb d_Mo_loads_13 rfl (lv_at hl 1 rfl) ?_
    refine lv_i2l hx hb d_Mo_loads_14 rfl ?_
    refine lv_ldc2 (v := 36) hx hb hown (hts _ (List.mem_cons_of_mem _ tw_537)) d_Mo_loads_15 ?_
    obtain ⟨r18, hq, h⟩ := bd h
    refine m_pcall (r := .int r18) (W.runS (As := [.long x2.toInt64, .long x1.toInt64, .long (36 : Int64)]) (rest := []) ⟨hx, hb, hml, hown, hts⟩ (c_Mo_isIn l N x2.toInt64 x1.toInt64 (36 : Int64) hq) (va_cwS 3 hts (gdS tw_506 tw_507 tw_41 tw_508) rfl rfl rfl (by decide +kernel) ⟨Nat.le_of_ble_eq_true rfl, Nat.le_of_ble_eq_true rfl⟩) preEq rfl rfl hl.1 rfl (lv_room (Nat.le_of_ble_eq_true rfl)) d_Mo_loads_18 ⟨Nat.zero_le _, Nat.zero_le _⟩) ?_
    refine lv_if_eq (tgt := 39) hx hb d_Mo_loads_21 (by decide) (fun c21 => ?_) (fun c21 => ?_)
    · have h := ifp c21 h
      refine lv_iconst (v := 0) hx hb d_Mo_loads_39 (by decide) ?_
      exact m_zret hx hb hr hlk hw h d_Mo_loads_40
    · have h := ifn c21 h
      refine lv_aload_n hx hb d_Mo_loads_24 rfl (lv_at hl 0 rfl) ?_
      refine lv_bipush (v := 7) hx hb d_Mo_loads_25 (by decide) ?_
      refine lv_iload_n hx hb d_Mo_loads_27 rfl (lv_at hl 1 rfl) ?_
      refine lv_iload_n hx hb d_Mo_loads_28 rfl (lv_at hl 2 rfl) ?_
      obtain ⟨r29, μ29, hq, h⟩ := bd2 h
      refine m_call (r := some (.int r29)) (μ1 := μ29) (va_runV (C := "RecipePlansModel") (As := [.int (7 : Int32), .int x1, .int x2]) (rest := []) ⟨hx, hb, hml, hown, hts⟩ (c_Mo_tell l G N (7 : Int32) x1 x2 μ hq _) (cwV 3 hts (gdV tw_526 tw_527 tw_16 tw_41 tw_528) rfl rfl rfl (by decide +kernel) ⟨Nat.le_of_ble_eq_true rfl, Nat.le_of_ble_eq_true rfl⟩) (m_preV (k := 7) (by decide) rfl hK hSt hw) rfl rfl hl.1 rfl (lv_room (Nat.le_of_ble_eq_true rfl)) d_Mo_loads_29 ⟨Nat.zero_le _, Nat.zero_le _⟩) hw (fun H locs hw => ?_)
      refine lv_if_eq (tgt := 39) hx hb d_Mo_loads_32 (by decide) (fun c32 => ?_) (fun c32 => ?_)
      · have h := ifp c32 h
        refine lv_iconst (v := 0) hx hb d_Mo_loads_39 (by decide) ?_
        exact m_zret hx hb hr hlk hw h d_Mo_loads_40
      · have h := ifn c32 h
        refine lv_iconst (v := 1) hx hb d_Mo_loads_35 (by decide) ?_
        refine lv_goto (tgt := 40) hx hb d_Mo_loads_36 (by decide) ?_
        exact m_zret hx hb hr hlk hw h d_Mo_loads_40
set_option maxRecDepth 100000 in
set_option maxHeartbeats 4000000 in
theorem c_Mo_untell (l : Launch) (G : Gw) (N : Nat) (x1 : Int32) (μ : Mem) {r : Int32} {μ' : Mem} (h : M_Mo_untell N x1 μ = some (r, μ')) : CT l y_Mo_untell ws_Mo_untell rm_Mo_untell [.ref (G.2.1 7), .int x1] G μ (some (.int r)) μ' := by
  refine m_met (cc := prog_9_method_11_code) (maxL := 2) (ret := (some .boolean)) (by decide) rfl (Nat.le_of_ble_eq_true rfl) ?_
  intro p e s m args below meth c ls C hw hl
  obtain ⟨hx, hb, hr, hml, hown, hts, hlk, hK, hSt⟩ := id C
  have hl : lv_has ls 2 [(0, .ref (G.2.1 7)), (1, .int x1)] := hl
  unfold M_Mo_untell at h
  refine lv_iload_n hx hb d_Mo_untell_0 rfl (lv_at hl 1 rfl) ?_
  refine lv_if_lt (tgt := 19) hx hb d_Mo_untell_1 (by decide) (fun c1 => ?_) (fun c1 => ?_)
  · have h := ifp c1 h
    refine lv_iconst (v := 0) hx hb d_Mo_untell_19 (by decide) ?_
    exact m_zret hx hb hr hlk hw h d_Mo_untell_20
  · have h := ifn c1 h
    refine lv_iload_n hx hb d_Mo_untell_4 rfl (lv_at hl 1 rfl) ?_
    refine lv_bipush (v := 8) hx hb d_Mo_untell_5 (by decide) ?_
    refine lv_icmp_ge (tgt := 19) hx hb d_Mo_untell_7 (by decide) (fun c7 => ?_) (fun c7 => ?_)
    · have h := ifp c7 h
      refine lv_iconst (v := 0) hx hb d_Mo_untell_19 (by decide) ?_
      exact m_zret hx hb hr hlk hw h d_Mo_untell_20
    · have h := ifn c7 h
      refine lv_aload_n hx hb d_Mo_untell_10 rfl (lv_at hl 0 rfl) ?_
      refine va_get (D := G.1) (ci := 7) (v := .ref (G.2.1 14)) (C := "RecipePlansModel") (T := T_Mo) (N := 24) hx hb hts (fun _ h9 => List.mem_cons_of_mem _ (inT_Mo _ h9)) hown hK hw.1 7 (WL_get (by decide)) rfl 4 (by decide) (hts _ (List.mem_cons_of_mem _ tw_457)) (fun _ h9 => h9) rfl d_Mo_untell_11 ?_
      refine lv_iload_n hx hb d_Mo_untell_14 rfl (lv_at hl 1 rfl) ?_
      obtain ⟨v15, hv, h⟩ := bd h
      refine m_baload hx hb hK hw hv d_Mo_untell_15 ?_
      refine lv_if_ne (tgt := 21) hx hb d_Mo_untell_16 (by decide) (fun c16 => ?_) (fun c16 => ?_)
      · have h := ifn c16 h
        refine lv_aload_n hx hb d_Mo_untell_21 rfl (lv_at hl 0 rfl) ?_
        refine va_get (D := G.1) (ci := 7) (v := .ref (G.2.1 14)) (C := "RecipePlansModel") (T := T_Mo) (N := 24) hx hb hts (fun _ h9 => List.mem_cons_of_mem _ (inT_Mo _ h9)) hown hK hw.1 7 (WL_get (by decide)) rfl 4 (by decide) (hts _ (List.mem_cons_of_mem _ tw_457)) (fun _ h9 => h9) rfl d_Mo_untell_22 ?_
        refine lv_iload_n hx hb d_Mo_untell_25 rfl (lv_at hl 1 rfl) ?_
        refine lv_iconst (v := 0) hx hb d_Mo_untell_26 (by decide) ?_
        obtain ⟨μ27, hm, h⟩ := bd h
        refine m_bastore hx hb hK hw hm d_Mo_untell_27 (fun H locs hw => ?_)
        refine lv_iconst (v := 1) hx hb d_Mo_untell_28 (by decide) ?_
        exact m_zret hx hb hr hlk hw h d_Mo_untell_29
      · have h := ifp c16 h
        refine lv_iconst (v := 0) hx hb d_Mo_untell_19 (by decide) ?_
        exact m_zret hx hb hr hlk hw h d_Mo_untell_20
set_option maxRecDepth 100000 in
set_option maxHeartbeats 4000000 in
theorem w_Mo_holds_4 {r : Int32} {μ' : Mem} {N : Nat} (C : CxA G p s m args meth c prog_9_method_12_code 4 (some .int) "RecipePlansModel" ws_Mo_holds) : ∀ (n : Nat) (x1 : Int32) (x2 : Int32) (x3 : Int32) (μ : Mem) (H : Heap) (locs : List Loc) (ls : Array Slot), Wk G s μ H locs → lv_has ls 4 [(0, .ref (G.2.1 7)), (1, .int x1), (2, .int x2), (3, .int x3)] → M_Mo_holds_4 N n x1 x2 x3 μ = some (r, μ') → WA G rm_Mo_holds p l e s m args below meth c (some (.int r)) μ' H locs 4 ls [] := by
  obtain ⟨hx, hb, hr, hml, hown, hts, hlk, hK, hSt⟩ := id C
  intro n
  induction n with
  | zero =>
    intro x1 x2 x3 μ H locs ls hw hl h
    rw [M_Mo_holds_4] at h
    cases h
  | succ n ih =>
    intro x1 x2 x3 μ H locs ls hw hl h
    rw [M_Mo_holds_4] at h
    refine lv_iload_n hx hb d_Mo_holds_4 rfl (lv_at hl 3 rfl) ?_
    refine lv_aload_n hx hb d_Mo_holds_5 rfl (lv_at hl 0 rfl) ?_
    refine va_get (D := G.1) (ci := 7) (v := .int (μ.1 7 0)) (C := "RecipePlansModel") (T := T_Mo) (N := 24) hx hb hts (fun _ h9 => List.mem_cons_of_mem _ (inT_Mo _ h9)) hown hK hw.1 7 (WL_get (by decide)) rfl 0 (by decide) (hts _ (List.mem_cons_of_mem _ tw_453)) (fun _ h9 => h9) rfl d_Mo_holds_6 ?_
    refine lv_icmp_ge (tgt := 38) hx hb d_Mo_holds_9 (by decide) (fun c9 => ?_) (fun c9 => ?_)
    · have h := ifp c9 h
      refine lv_iload_n hx hb d_Mo_holds_38 rfl (lv_at hl 2 rfl) ?_
      exact m_iret hx hb hr hlk hw h d_Mo_holds_39
    · have h := ifn c9 h
      refine lv_iload_n hx hb d_Mo_holds_12 rfl (lv_at hl 2 rfl) ?_
      refine lv_aload_n hx hb d_Mo_holds_13 rfl (lv_at hl 0 rfl) ?_
      refine va_get (D := G.1) (ci := 7) (v := .ref (G.2.1 37)) (C := "RecipePlansModel") (T := T_Mo) (N := 24) hx hb hts (fun _ h9 => List.mem_cons_of_mem _ (inT_Mo _ h9)) hown hK hw.1 7 (WL_get (by decide)) rfl 17 (by decide) (hts _ (List.mem_cons_of_mem _ tw_470)) (fun _ h9 => h9) rfl d_Mo_holds_14 ?_
      refine lv_iload_n hx hb d_Mo_holds_17 rfl (lv_at hl 3 rfl) ?_
      obtain ⟨v18, hv, h⟩ := bd h
      refine m_iaload hx hb hK hw hv d_Mo_holds_18 ?_
      refine lv_aload_n hx hb d_Mo_holds_19 rfl (lv_at hl 0 rfl) ?_
      refine va_get (D := G.1) (ci := 7) (v := .ref (G.2.1 30)) (C := "RecipePlansModel") (T := T_Mo) (N := 24) hx hb hts (fun _ h9 => List.mem_cons_of_mem _ (inT_Mo _ h9)) hown hK hw.1 7 (WL_get (by decide)) rfl 3 (by decide) (hts _ (List.mem_cons_of_mem _ tw_456)) (fun _ h9 => h9) rfl d_Mo_holds_20 ?_
      refine lv_iconst (v := 5) hx hb d_Mo_holds_23 (by decide) ?_
      refine lv_iload_n hx hb d_Mo_holds_24 rfl (lv_at hl 3 rfl) ?_
      refine lv_imul hx hb d_Mo_holds_25 ?_
      refine lv_iload_n hx hb d_Mo_holds_26 rfl (lv_at hl 1 rfl) ?_
      refine lv_iadd hx hb d_Mo_holds_27 ?_
      obtain ⟨v28, hv, h⟩ := bd h
      refine m_iaload hx hb hK hw hv d_Mo_holds_28 ?_
      refine lv_imul hx hb d_Mo_holds_29 ?_
      refine lv_iadd hx hb d_Mo_holds_30 ?_
      obtain ⟨x2_31, ex2_31, h⟩ := nmx h
      refine m_eqi ex2_31 ?_
      refine lv_istore_n (lv' := [(2, .int x2_31), (0, .ref (G.2.1 7)), (1, .int x1), (3, .int x3)]) hx hb d_Mo_holds_31 rfl hl (by decide) rfl (fun ls hl => ?_)
      refine lv_iinc (v := x3 + 1) (lv' := [(3, .int (x3 + 1)), (2, .int x2_31), (0, .ref (G.2.1 7)), (1, .int x1)]) hx hb d_Mo_holds_32 hl (k := 3) rfl rfl (by decide) rfl (fun ls hl => ?_)
      refine lv_goto (tgt := 4) hx hb d_Mo_holds_35 (by decide) ?_
      exact ih x1 x2_31 (x3 + 1) μ _ _ _ hw (lv_sub hl [2, 3, 1, 0] rfl) h
set_option maxRecDepth 100000 in
set_option maxHeartbeats 4000000 in
theorem c_Mo_holds (l : Launch) (G : Gw) (N : Nat) (x1 : Int32) (μ : Mem) {r : Int32} {μ' : Mem} (h : M_Mo_holds N x1 μ = some (r, μ')) : CT l y_Mo_holds ws_Mo_holds rm_Mo_holds [.ref (G.2.1 7), .int x1] G μ (some (.int r)) μ' := by
  refine m_met (cc := prog_9_method_12_code) (maxL := 4) (ret := (some .int)) (by decide) rfl (Nat.le_of_ble_eq_true rfl) ?_
  intro p e s m args below meth c ls C hw hl
  obtain ⟨hx, hb, hr, hml, hown, hts, hlk, hK, hSt⟩ := id C
  have hl : lv_has ls 4 [(0, .ref (G.2.1 7)), (1, .int x1)] := hl
  unfold M_Mo_holds at h
  refine lv_iconst (v := 0) hx hb d_Mo_holds_0 (by decide) ?_
  refine lv_istore_n (lv' := [(2, .int (0 : Int32)), (0, .ref (G.2.1 7)), (1, .int x1)]) hx hb d_Mo_holds_1 rfl hl (by decide) rfl (fun ls hl => ?_)
  refine lv_iconst (v := 0) hx hb d_Mo_holds_2 (by decide) ?_
  refine lv_istore_n (lv' := [(3, .int (0 : Int32)), (2, .int (0 : Int32)), (0, .ref (G.2.1 7)), (1, .int x1)]) hx hb d_Mo_holds_3 rfl hl (by decide) rfl (fun ls hl => ?_)
  exact w_Mo_holds_4 C N x1 (0 : Int32) (0 : Int32) μ _ _ _ hw (lv_sub hl [2, 3, 1, 0] rfl) h
set_option maxRecDepth 100000 in
set_option maxHeartbeats 4000000 in
theorem c_Mo_keeps (l : Launch) (G : Gw) (N : Nat) (x1 : Int32) (μ : Mem) {r : Int32} {μ' : Mem} (h : M_Mo_keeps N x1 μ = some (r, μ')) : CT l y_Mo_keeps ws_Mo_keeps rm_Mo_keeps [.ref (G.2.1 7), .int x1] G μ (some (.int r)) μ' := by
  refine m_met (cc := prog_9_method_13_code) (maxL := 6) (ret := (some .boolean)) (by decide) rfl (Nat.le_of_ble_eq_true rfl) ?_
  intro p e s m args below meth c ls C hw hl
  obtain ⟨hx, hb, hr, hml, hown, hts, hlk, hK, hSt⟩ := id C
  have hl : lv_has ls 6 [(0, .ref (G.2.1 7)), (1, .int x1)] := hl
  unfold M_Mo_keeps at h
  refine lv_iload_n hx hb d_Mo_keeps_0 rfl (lv_at hl 1 rfl) ?_
  refine lv_iconst (v := 5) hx hb d_Mo_keeps_1 (by decide) ?_
  refine lv_icmp_ge (tgt := 29) hx hb d_Mo_keeps_2 (by decide) (fun c2 => ?_) (fun c2 => ?_)
  · have h := ifp c2 h
    refine lv_iload_n hx hb d_Mo_keeps_29 rfl (lv_at hl 1 rfl) ?_
    refine lv_bipush (v := 7) hx hb d_Mo_keeps_30 (by decide) ?_
    refine lv_icmp_ge (tgt := 104) hx hb d_Mo_keeps_32 (by decide) (fun c32 => ?_) (fun c32 => ?_)
    · have h := ifp c32 h
      refine lv_aload_n hx hb d_Mo_keeps_104 rfl (lv_at hl 0 rfl) ?_
      refine va_get (D := G.1) (ci := 7) (v := .ref (G.2.1 37)) (C := "RecipePlansModel") (T := T_Mo) (N := 24) hx hb hts (fun _ h9 => List.mem_cons_of_mem _ (inT_Mo _ h9)) hown hK hw.1 7 (WL_get (by decide)) rfl 17 (by decide) (hts _ (List.mem_cons_of_mem _ tw_470)) (fun _ h9 => h9) rfl d_Mo_keeps_105 ?_
      refine lv_iconst (v := 0) hx hb d_Mo_keeps_108 (by decide) ?_
      obtain ⟨v109, hv, h⟩ := bd h
      refine m_iaload hx hb hK hw hv d_Mo_keeps_109 ?_
      refine lv_aload_n hx hb d_Mo_keeps_110 rfl (lv_at hl 0 rfl) ?_
      refine va_get (D := G.1) (ci := 7) (v := .ref (G.2.1 37)) (C := "RecipePlansModel") (T := T_Mo) (N := 24) hx hb hts (fun _ h9 => List.mem_cons_of_mem _ (inT_Mo _ h9)) hown hK hw.1 7 (WL_get (by decide)) rfl 17 (by decide) (hts _ (List.mem_cons_of_mem _ tw_470)) (fun _ h9 => h9) rfl d_Mo_keeps_111 ?_
      refine lv_iconst (v := 1) hx hb d_Mo_keeps_114 (by decide) ?_
      obtain ⟨v115, hv, h⟩ := bd h
      refine m_iaload hx hb hK hw hv d_Mo_keeps_115 ?_
      refine lv_iadd hx hb d_Mo_keeps_116 ?_
      refine lv_aload_n hx hb d_Mo_keeps_117 rfl (lv_at hl 0 rfl) ?_
      refine va_get (D := G.1) (ci := 7) (v := .ref (G.2.1 37)) (C := "RecipePlansModel") (T := T_Mo) (N := 24) hx hb hts (fun _ h9 => List.mem_cons_of_mem _ (inT_Mo _ h9)) hown hK hw.1 7 (WL_get (by decide)) rfl 17 (by decide) (hts _ (List.mem_cons_of_mem _ tw_470)) (fun _ h9 => h9) rfl d_Mo_keeps_118 ?_
      refine lv_iconst (v := 2) hx hb d_Mo_keeps_121 (by decide) ?_
      obtain ⟨v122, hv, h⟩ := bd h
      refine m_iaload hx hb hK hw hv d_Mo_keeps_122 ?_
      refine lv_iadd hx hb d_Mo_keeps_123 ?_
      refine lv_aload_n hx hb d_Mo_keeps_124 rfl (lv_at hl 0 rfl) ?_
      refine va_get (D := G.1) (ci := 7) (v := .ref (G.2.1 37)) (C := "RecipePlansModel") (T := T_Mo) (N := 24) hx hb hts (fun _ h9 => List.mem_cons_of_mem _ (inT_Mo _ h9)) hown hK hw.1 7 (WL_get (by decide)) rfl 17 (by decide) (hts _ (List.mem_cons_of_mem _ tw_470)) (fun _ h9 => h9) rfl d_Mo_keeps_125 ?_
      refine lv_iconst (v := 3) hx hb d_Mo_keeps_128 (by decide) ?_
      obtain ⟨v129, hv, h⟩ := bd h
      refine m_iaload hx hb hK hw hv d_Mo_keeps_129 ?_
      refine lv_iadd hx hb d_Mo_keeps_130 ?_
      refine lv_i2l hx hb d_Mo_keeps_131 rfl ?_
      refine lv_aload_n hx hb d_Mo_keeps_132 rfl (lv_at hl 0 rfl) ?_
      refine va_get (D := G.1) (ci := 7) (v := .ref (G.2.1 31)) (C := "RecipePlansModel") (T := T_Mo) (N := 24) hx hb hts (fun _ h9 => List.mem_cons_of_mem _ (inT_Mo _ h9)) hown hK hw.1 7 (WL_get (by decide)) rfl 5 (by decide) (hts _ (List.mem_cons_of_mem _ tw_458)) (fun _ h9 => h9) rfl d_Mo_keeps_133 ?_
      refine lv_iload_n hx hb d_Mo_keeps_136 rfl (lv_at hl 1 rfl) ?_
      obtain ⟨v137, hv, h⟩ := bd h
      refine m_iaload hx hb hK hw hv d_Mo_keeps_137 ?_
      refine lv_i2l hx hb d_Mo_keeps_138 rfl ?_
      refine lv_aload_n hx hb d_Mo_keeps_139 rfl (lv_at hl 0 rfl) ?_
      refine va_get (D := G.1) (ci := 7) (v := .ref (G.2.1 32)) (C := "RecipePlansModel") (T := T_Mo) (N := 24) hx hb hts (fun _ h9 => List.mem_cons_of_mem _ (inT_Mo _ h9)) hown hK hw.1 7 (WL_get (by decide)) rfl 6 (by decide) (hts _ (List.mem_cons_of_mem _ tw_459)) (fun _ h9 => h9) rfl d_Mo_keeps_140 ?_
      refine lv_iload_n hx hb d_Mo_keeps_143 rfl (lv_at hl 1 rfl) ?_
      obtain ⟨v144, hv, h⟩ := bd h
      refine m_iaload hx hb hK hw hv d_Mo_keeps_144 ?_
      refine lv_i2l hx hb d_Mo_keeps_145 rfl ?_
      obtain ⟨r146, hq, h⟩ := bd h
      refine m_pcall (r := .int r146) (W.runS (As := [.long ((((v109 + v115) + v122) + v129).toInt64), .long v137.toInt64, .long v144.toInt64]) (rest := []) ⟨hx, hb, hml, hown, hts⟩ (c_Mo_isIn l N ((((v109 + v115) + v122) + v129).toInt64) v137.toInt64 v144.toInt64 hq) (va_cwS 3 hts (gdS tw_506 tw_507 tw_41 tw_508) rfl rfl rfl (by decide +kernel) ⟨Nat.le_of_ble_eq_true rfl, Nat.le_of_ble_eq_true rfl⟩) preEq rfl rfl hl.1 rfl (lv_room (Nat.le_of_ble_eq_true rfl)) d_Mo_keeps_146 ⟨Nat.zero_le _, Nat.zero_le _⟩) ?_
      exact m_zret hx hb hr hlk hw h d_Mo_keeps_149
    · have h := ifn c32 h
      refine lv_aload_n hx hb d_Mo_keeps_35 rfl (lv_at hl 0 rfl) ?_
      refine va_get (D := G.1) (ci := 7) (v := .ref (G.2.1 33)) (C := "RecipePlansModel") (T := T_Mo) (N := 24) hx hb hts (fun _ h9 => List.mem_cons_of_mem _ (inT_Mo _ h9)) hown hK hw.1 7 (WL_get (by decide)) rfl 7 (by decide) (hts _ (List.mem_cons_of_mem _ tw_460)) (fun _ h9 => h9) rfl d_Mo_keeps_36 ?_
      refine lv_iload_n hx hb d_Mo_keeps_39 rfl (lv_at hl 1 rfl) ?_
      obtain ⟨v40, hv, h⟩ := bd h
      refine m_iaload hx hb hK hw hv d_Mo_keeps_40 ?_
      refine lv_i2l hx hb d_Mo_keeps_41 rfl ?_
      refine lv_aload_n hx hb d_Mo_keeps_42 rfl (lv_at hl 0 rfl) ?_
      refine lv_aload_n hx hb d_Mo_keeps_43 rfl (lv_at hl 0 rfl) ?_
      refine va_get (D := G.1) (ci := 7) (v := .ref (G.2.1 34)) (C := "RecipePlansModel") (T := T_Mo) (N := 24) hx hb hts (fun _ h9 => List.mem_cons_of_mem _ (inT_Mo _ h9)) hown hK hw.1 7 (WL_get (by decide)) rfl 8 (by decide) (hts _ (List.mem_cons_of_mem _ tw_461)) (fun _ h9 => h9) rfl d_Mo_keeps_44 ?_
      refine lv_iload_n hx hb d_Mo_keeps_47 rfl (lv_at hl 1 rfl) ?_
      obtain ⟨v48, hv, h⟩ := bd h
      refine m_iaload hx hb hK hw hv d_Mo_keeps_48 ?_
      obtain ⟨r49, μ49, hq, h⟩ := bd2 h
      refine m_call (r := some (.int r49)) (μ1 := μ49) (va_runV (C := "RecipePlansModel") (As := [.int v48]) (rest := [.long v40.toInt64]) ⟨hx, hb, hml, hown, hts⟩ (c_Mo_holds l G N v48 μ hq _) (cwV 1 hts (gdV tw_552 tw_553 tw_19 tw_41 tw_554) rfl rfl rfl (by decide +kernel) ⟨Nat.le_of_ble_eq_true rfl, Nat.le_of_ble_eq_true rfl⟩) (m_preV (k := 7) (by decide) rfl hK hSt hw) rfl rfl hl.1 rfl (lv_room (Nat.le_of_ble_eq_true rfl)) d_Mo_keeps_49 ⟨Nat.zero_le _, Nat.zero_le _⟩) hw (fun H locs hw => ?_)
      refine lv_i2l hx hb d_Mo_keeps_52 rfl ?_
      refine lv_lmul hx hb d_Mo_keeps_53 ?_
      obtain ⟨x2_54, ex2_54, h⟩ := nmx h
      refine m_eql ex2_54 ?_
      refine lv_lstore_n (lv' := [(2, .long x2_54), (0, .ref (G.2.1 7)), (1, .int x1)]) hx hb d_Mo_keeps_54 rfl hl (by decide) rfl (fun ls hl => ?_)
      refine lv_aload_n hx hb d_Mo_keeps_55 rfl (lv_at hl 1 rfl) ?_
      refine lv_aload_n hx hb d_Mo_keeps_56 rfl (lv_at hl 1 rfl) ?_
      refine va_get (D := G.1) (ci := 7) (v := .ref (G.2.1 35)) (C := "RecipePlansModel") (T := T_Mo) (N := 24) hx hb hts (fun _ h9 => List.mem_cons_of_mem _ (inT_Mo _ h9)) hown hK hw.1 7 (WL_get (by decide)) rfl 9 (by decide) (hts _ (List.mem_cons_of_mem _ tw_462)) (fun _ h9 => h9) rfl d_Mo_keeps_57 ?_
      refine lv_iload_n hx hb d_Mo_keeps_60 rfl (lv_at hl 2 rfl) ?_
      obtain ⟨v61, hv, h⟩ := bd h
      refine m_iaload hx hb hK hw hv d_Mo_keeps_61 ?_
      obtain ⟨r62, μ62, hq, h⟩ := bd2 h
      refine m_call (r := some (.int r62)) (μ1 := μ62) (va_runV (C := "RecipePlansModel") (As := [.int v61]) (rest := []) ⟨hx, hb, hml, hown, hts⟩ (c_Mo_holds l G N v61 μ49 hq _) (cwV 1 hts (gdV tw_552 tw_553 tw_19 tw_41 tw_554) rfl rfl rfl (by decide +kernel) ⟨Nat.le_of_ble_eq_true rfl, Nat.le_of_ble_eq_true rfl⟩) (m_preV (k := 7) (by decide) rfl hK hSt hw) rfl rfl hl.1 rfl (lv_room (Nat.le_of_ble_eq_true rfl)) d_Mo_keeps_62 ⟨Nat.zero_le _, Nat.zero_le _⟩) hw (fun H locs hw => ?_)
      refine lv_i2l hx hb d_Mo_keeps_65 rfl ?_
      obtain ⟨x4_66, ex4_66, h⟩ := nmx h
      refine m_eql ex4_66 ?_
      refine lv_lstore (lv' := [(4, .long x4_66), (2, .long x2_54), (0, .ref (G.2.1 7)), (1, .int x1)]) hx hb d_Mo_keeps_66 hl (by decide) rfl (fun ls hl => ?_)
      refine lv_lload_n hx hb d_Mo_keeps_68 rfl (lv_at hl 1 rfl) ?_
      refine lv_aload_n hx hb d_Mo_keeps_69 rfl (lv_at hl 2 rfl) ?_
      refine va_get (D := G.1) (ci := 7) (v := .ref (G.2.1 31)) (C := "RecipePlansModel") (T := T_Mo) (N := 24) hx hb hts (fun _ h9 => List.mem_cons_of_mem _ (inT_Mo _ h9)) hown hK hw.1 7 (WL_get (by decide)) rfl 5 (by decide) (hts _ (List.mem_cons_of_mem _ tw_458)) (fun _ h9 => h9) rfl d_Mo_keeps_70 ?_
      refine lv_iload_n hx hb d_Mo_keeps_73 rfl (lv_at hl 3 rfl) ?_
      obtain ⟨v74, hv, h⟩ := bd h
      refine m_iaload hx hb hK hw hv d_Mo_keeps_74 ?_
      refine lv_i2l hx hb d_Mo_keeps_75 rfl ?_
      refine lv_lload hx hb d_Mo_keeps_76 (lv_at hl 0 rfl) ?_
      refine lv_lmul hx hb d_Mo_keeps_78 ?_
      refine W.lcmp hx hb d_Mo_keeps_79 ?_
      refine lv_if_lt (tgt := 102) hx hb d_Mo_keeps_80 (by decide) (fun c80 => ?_) (fun c80 => ?_)
      · have h := ifp c80 h
        refine lv_iconst (v := 0) hx hb d_Mo_keeps_102 (by decide) ?_
        exact m_zret hx hb hr hlk hw h d_Mo_keeps_103
      · have h := ifn c80 h
        refine lv_lload_n hx hb d_Mo_keeps_83 rfl (lv_at hl 1 rfl) ?_
        refine lv_aload_n hx hb d_Mo_keeps_84 rfl (lv_at hl 2 rfl) ?_
        refine va_get (D := G.1) (ci := 7) (v := .ref (G.2.1 32)) (C := "RecipePlansModel") (T := T_Mo) (N := 24) hx hb hts (fun _ h9 => List.mem_cons_of_mem _ (inT_Mo _ h9)) hown hK hw.1 7 (WL_get (by decide)) rfl 6 (by decide) (hts _ (List.mem_cons_of_mem _ tw_459)) (fun _ h9 => h9) rfl d_Mo_keeps_85 ?_
        refine lv_iload_n hx hb d_Mo_keeps_88 rfl (lv_at hl 3 rfl) ?_
        obtain ⟨v89, hv, h⟩ := bd h
        refine m_iaload hx hb hK hw hv d_Mo_keeps_89 ?_
        refine lv_i2l hx hb d_Mo_keeps_90 rfl ?_
        refine lv_lload hx hb d_Mo_keeps_91 (lv_at hl 0 rfl) ?_
        refine lv_lmul hx hb d_Mo_keeps_93 ?_
        refine W.lcmp hx hb d_Mo_keeps_94 ?_
        refine lv_if_gt (tgt := 102) hx hb d_Mo_keeps_95 (by decide) (fun c95 => ?_) (fun c95 => ?_)
        · have h := ifp c95 h
          refine lv_iconst (v := 0) hx hb d_Mo_keeps_102 (by decide) ?_
          exact m_zret hx hb hr hlk hw h d_Mo_keeps_103
        · have h := ifn c95 h
          refine lv_iconst (v := 1) hx hb d_Mo_keeps_98 (by decide) ?_
          refine lv_goto (tgt := 103) hx hb d_Mo_keeps_99 (by decide) ?_
          exact m_zret hx hb hr hlk hw h d_Mo_keeps_103
  · have h := ifn c2 h
    refine lv_aload_n hx hb d_Mo_keeps_5 rfl (lv_at hl 0 rfl) ?_
    refine lv_iload_n hx hb d_Mo_keeps_6 rfl (lv_at hl 1 rfl) ?_
    obtain ⟨r7, μ7, hq, h⟩ := bd2 h
    refine m_call (r := some (.int r7)) (μ1 := μ7) (va_runV (C := "RecipePlansModel") (As := [.int x1]) (rest := []) ⟨hx, hb, hml, hown, hts⟩ (c_Mo_holds l G N x1 μ hq _) (cwV 1 hts (gdV tw_552 tw_553 tw_19 tw_41 tw_554) rfl rfl rfl (by decide +kernel) ⟨Nat.le_of_ble_eq_true rfl, Nat.le_of_ble_eq_true rfl⟩) (m_preV (k := 7) (by decide) rfl hK hSt hw) rfl rfl hl.1 rfl (lv_room (Nat.le_of_ble_eq_true rfl)) d_Mo_keeps_7 ⟨Nat.zero_le _, Nat.zero_le _⟩) hw (fun H locs hw => ?_)
    refine lv_i2l hx hb d_Mo_keeps_10 rfl ?_
    refine lv_aload_n hx hb d_Mo_keeps_11 rfl (lv_at hl 0 rfl) ?_
    refine va_get (D := G.1) (ci := 7) (v := .ref (G.2.1 31)) (C := "RecipePlansModel") (T := T_Mo) (N := 24) hx hb hts (fun _ h9 => List.mem_cons_of_mem _ (inT_Mo _ h9)) hown hK hw.1 7 (WL_get (by decide)) rfl 5 (by decide) (hts _ (List.mem_cons_of_mem _ tw_458)) (fun _ h9 => h9) rfl d_Mo_keeps_12 ?_
    refine lv_iload_n hx hb d_Mo_keeps_15 rfl (lv_at hl 1 rfl) ?_
    obtain ⟨v16, hv, h⟩ := bd h
    refine m_iaload hx hb hK hw hv d_Mo_keeps_16 ?_
    refine lv_i2l hx hb d_Mo_keeps_17 rfl ?_
    refine lv_aload_n hx hb d_Mo_keeps_18 rfl (lv_at hl 0 rfl) ?_
    refine va_get (D := G.1) (ci := 7) (v := .ref (G.2.1 32)) (C := "RecipePlansModel") (T := T_Mo) (N := 24) hx hb hts (fun _ h9 => List.mem_cons_of_mem _ (inT_Mo _ h9)) hown hK hw.1 7 (WL_get (by decide)) rfl 6 (by decide) (hts _ (List.mem_cons_of_mem _ tw_459)) (fun _ h9 => h9) rfl d_Mo_keeps_19 ?_
    refine lv_iload_n hx hb d_Mo_keeps_22 rfl (lv_at hl 1 rfl) ?_
    obtain ⟨v23, hv, h⟩ := bd h
    refine m_iaload hx hb hK hw hv d_Mo_keeps_23 ?_
    refine lv_i2l hx hb d_Mo_keeps_24 rfl ?_
    obtain ⟨r25, hq, h⟩ := bd h
    refine m_pcall (r := .int r25) (W.runS (As := [.long r7.toInt64, .long v16.toInt64, .long v23.toInt64]) (rest := []) ⟨hx, hb, hml, hown, hts⟩ (c_Mo_isIn l N r7.toInt64 v16.toInt64 v23.toInt64 hq) (va_cwS 3 hts (gdS tw_506 tw_507 tw_41 tw_508) rfl rfl rfl (by decide +kernel) ⟨Nat.le_of_ble_eq_true rfl, Nat.le_of_ble_eq_true rfl⟩) preEq rfl rfl hl.1 rfl (lv_room (Nat.le_of_ble_eq_true rfl)) d_Mo_keeps_25 ⟨Nat.zero_le _, Nat.zero_le _⟩) ?_
    exact m_zret hx hb hr hlk hw h d_Mo_keeps_28
set_option maxRecDepth 100000 in
set_option maxHeartbeats 4000000 in
theorem w_Mo_firstBroken_2 {r : Int32} {μ' : Mem} {N : Nat} (C : CxA G p s m args meth c prog_9_method_14_code 2 (some .int) "RecipePlansModel" ws_Mo_firstBroken) : ∀ (n : Nat) (x1 : Int32) (μ : Mem) (H : Heap) (locs : List Loc) (ls : Array Slot), Wk G s μ H locs → lv_has ls 2 [(0, .ref (G.2.1 7)), (1, .int x1)] → M_Mo_firstBroken_2 N n x1 μ = some (r, μ') → WA G rm_Mo_firstBroken p l e s m args below meth c (some (.int r)) μ' H locs 2 ls [] := by
  obtain ⟨hx, hb, hr, hml, hown, hts, hlk, hK, hSt⟩ := id C
  intro n
  induction n with
  | zero =>
    intro x1 μ H locs ls hw hl h
    rw [M_Mo_firstBroken_2] at h
    cases h
  | succ n ih =>
    intro x1 μ H locs ls hw hl h
    rw [M_Mo_firstBroken_2] at h
    refine lv_iload_n hx hb d_Mo_firstBroken_2 rfl (lv_at hl 1 rfl) ?_
    refine lv_bipush (v := 8) hx hb d_Mo_firstBroken_3 (by decide) ?_
    refine lv_icmp_ge (tgt := 33) hx hb d_Mo_firstBroken_5 (by decide) (fun c5 => ?_) (fun c5 => ?_)
    · have h := ifp c5 h
      refine lv_bipush (v := 8) hx hb d_Mo_firstBroken_33 (by decide) ?_
      exact m_iret hx hb hr hlk hw h d_Mo_firstBroken_35
    · have h := ifn c5 h
      refine lv_aload_n hx hb d_Mo_firstBroken_8 rfl (lv_at hl 0 rfl) ?_
      refine va_get (D := G.1) (ci := 7) (v := .ref (G.2.1 14)) (C := "RecipePlansModel") (T := T_Mo) (N := 24) hx hb hts (fun _ h9 => List.mem_cons_of_mem _ (inT_Mo _ h9)) hown hK hw.1 7 (WL_get (by decide)) rfl 4 (by decide) (hts _ (List.mem_cons_of_mem _ tw_457)) (fun _ h9 => h9) rfl d_Mo_firstBroken_9 ?_
      refine lv_iload_n hx hb d_Mo_firstBroken_12 rfl (lv_at hl 1 rfl) ?_
      obtain ⟨v13, hv, h⟩ := bd h
      refine m_baload hx hb hK hw hv d_Mo_firstBroken_13 ?_
      refine lv_if_eq (tgt := 27) hx hb d_Mo_firstBroken_14 (by decide) (fun c14 => ?_) (fun c14 => ?_)
      · have h := ifp c14 h
        refine lv_iinc (v := x1 + 1) (lv' := [(1, .int (x1 + 1)), (0, .ref (G.2.1 7))]) hx hb d_Mo_firstBroken_27 hl (k := 1) rfl rfl (by decide) rfl (fun ls hl => ?_)
        refine lv_goto (tgt := 2) hx hb d_Mo_firstBroken_30 (by decide) ?_
        exact ih (x1 + 1) μ _ _ _ hw (lv_sub hl [1, 0] rfl) h
      · have h := ifn c14 h
        refine lv_aload_n hx hb d_Mo_firstBroken_17 rfl (lv_at hl 0 rfl) ?_
        refine lv_iload_n hx hb d_Mo_firstBroken_18 rfl (lv_at hl 1 rfl) ?_
        obtain ⟨r19, μ19, hq, h⟩ := bd2 h
        refine m_call (r := some (.int r19)) (μ1 := μ19) (va_runV (C := "RecipePlansModel") (As := [.int x1]) (rest := []) ⟨hx, hb, hml, hown, hts⟩ (c_Mo_keeps l G N x1 μ hq _) (cwV 1 hts (gdV tw_549 tw_550 tw_18 tw_41 tw_551) rfl rfl rfl (by decide +kernel) ⟨Nat.le_of_ble_eq_true rfl, Nat.le_of_ble_eq_true rfl⟩) (m_preV (k := 7) (by decide) rfl hK hSt hw) rfl rfl hl.1 rfl (lv_room (Nat.le_of_ble_eq_true rfl)) d_Mo_firstBroken_19 ⟨Nat.zero_le _, Nat.zero_le _⟩) hw (fun H locs hw => ?_)
        refine lv_if_ne (tgt := 27) hx hb d_Mo_firstBroken_22 (by decide) (fun c22 => ?_) (fun c22 => ?_)
        · have h := ifn c22 h
          refine lv_iinc (v := x1 + 1) (lv' := [(1, .int (x1 + 1)), (0, .ref (G.2.1 7))]) hx hb d_Mo_firstBroken_27 hl (k := 1) rfl rfl (by decide) rfl (fun ls hl => ?_)
          refine lv_goto (tgt := 2) hx hb d_Mo_firstBroken_30 (by decide) ?_
          exact ih (x1 + 1) μ19 _ _ _ hw (lv_sub hl [1, 0] rfl) h
        · have h := ifp c22 h
          refine lv_iload_n hx hb d_Mo_firstBroken_25 rfl (lv_at hl 1 rfl) ?_
          exact m_iret hx hb hr hlk hw h d_Mo_firstBroken_26
set_option maxRecDepth 100000 in
set_option maxHeartbeats 4000000 in
theorem c_Mo_firstBroken (l : Launch) (G : Gw) (N : Nat) (μ : Mem) {r : Int32} {μ' : Mem} (h : M_Mo_firstBroken N μ = some (r, μ')) : CT l y_Mo_firstBroken ws_Mo_firstBroken rm_Mo_firstBroken [.ref (G.2.1 7)] G μ (some (.int r)) μ' := by
  refine m_met (cc := prog_9_method_14_code) (maxL := 2) (ret := (some .int)) (by decide) rfl (Nat.le_of_ble_eq_true rfl) ?_
  intro p e s m args below meth c ls C hw hl
  obtain ⟨hx, hb, hr, hml, hown, hts, hlk, hK, hSt⟩ := id C
  have hl : lv_has ls 2 [(0, .ref (G.2.1 7))] := hl
  unfold M_Mo_firstBroken at h
  refine lv_iconst (v := 0) hx hb d_Mo_firstBroken_0 (by decide) ?_
  refine lv_istore_n (lv' := [(1, .int (0 : Int32)), (0, .ref (G.2.1 7))]) hx hb d_Mo_firstBroken_1 rfl hl (by decide) rfl (fun ls hl => ?_)
  exact w_Mo_firstBroken_2 C N (0 : Int32) μ _ _ _ hw (lv_sub hl [1, 0] rfl) h
set_option maxRecDepth 100000 in
set_option maxHeartbeats 4000000 in
theorem w_Mo_broken_68 {r : Int32} {μ' : Mem} {N : Nat} (C : CxA G p s m args meth c prog_9_method_15_code 6 (some .int) "RecipePlansModel" ws_Mo_broken) {K32 : Int32 → Mem → Option (Int32 × Mem)} (hK32 : ∀ (x5 : Int32) (μ : Mem) (H : Heap) (locs : List Loc) (ls : Array Slot), Wk G s μ H locs → lv_has ls 6 [(0, .ref (G.2.1 7)), (5, .int x5)] → K32 x5 μ = some (r, μ') → WA G rm_Mo_broken p l e s m args below meth c (some (.int r)) μ' H locs 32 ls []) : ∀ (x5 : Int32) (y0 : Int64) (y1 : Int64) (y2 : Int64) (μ : Mem) (H : Heap) (locs : List Loc) (ls : Array Slot), Wk G s μ H locs → lv_has ls 6 [(0, .ref (G.2.1 7)), (5, .int x5)] → M_Mo_broken_68 N K32 x5 y0 y1 y2 μ = some (r, μ') → WA G rm_Mo_broken p l e s m args below meth c (some (.int r)) μ' H locs 68 ls [.long y2, .long y1, .long y0] := by
  obtain ⟨hx, hb, hr, hml, hown, hts, hlk, hK, hSt⟩ := id C
  intro x5 y0 y1 y2 μ H locs ls hw hl h
  unfold M_Mo_broken_68 at h
  obtain ⟨r68, hq, h⟩ := bd h
  refine m_pcall (r := .int r68) (W.runS (As := [.long y0, .long y1, .long y2]) (rest := []) ⟨hx, hb, hml, hown, hts⟩ (c_Mo_isIn l N y0 y1 y2 hq) (va_cwS 3 hts (gdS tw_506 tw_507 tw_41 tw_508) rfl rfl rfl (by decide +kernel) ⟨Nat.le_of_ble_eq_true rfl, Nat.le_of_ble_eq_true rfl⟩) preEq rfl rfl hl.1 rfl (lv_room (Nat.le_of_ble_eq_true rfl)) d_Mo_broken_68 ⟨Nat.zero_le _, Nat.zero_le _⟩) ?_
  refine lv_if_ne (tgt := 76) hx hb d_Mo_broken_71 (by decide) (fun c71 => ?_) (fun c71 => ?_)
  · have h := ifn c71 h
    refine lv_iinc (v := x5 + 1) (lv' := [(5, .int (x5 + 1)), (0, .ref (G.2.1 7))]) hx hb d_Mo_broken_76 hl (k := 1) rfl rfl (by decide) rfl (fun ls hl => ?_)
    refine lv_goto (tgt := 32) hx hb d_Mo_broken_79 (by decide) ?_
    exact hK32 (x5 + 1) μ _ _ _ hw (lv_sub hl [1, 0] rfl) h
  · have h := ifp c71 h
    refine lv_iconst (v := -1) hx hb d_Mo_broken_74 (by decide) ?_
    exact m_iret hx hb hr hlk hw h d_Mo_broken_75
set_option maxRecDepth 100000 in
set_option maxHeartbeats 4000000 in
theorem w_Mo_broken_32 {r : Int32} {μ' : Mem} {N : Nat} (C : CxA G p s m args meth c prog_9_method_15_code 6 (some .int) "RecipePlansModel" ws_Mo_broken) : ∀ (n : Nat) (x5 : Int32) (μ : Mem) (H : Heap) (locs : List Loc) (ls : Array Slot), Wk G s μ H locs → lv_has ls 6 [(0, .ref (G.2.1 7)), (5, .int x5)] → M_Mo_broken_32 N n x5 μ = some (r, μ') → WA G rm_Mo_broken p l e s m args below meth c (some (.int r)) μ' H locs 32 ls [] := by
  obtain ⟨hx, hb, hr, hml, hown, hts, hlk, hK, hSt⟩ := id C
  intro n
  induction n with
  | zero =>
    intro x5 μ H locs ls hw hl h
    rw [M_Mo_broken_32] at h
    cases h
  | succ n ih =>
    intro x5 μ H locs ls hw hl h
    rw [M_Mo_broken_32] at h
    refine lv_iload hx hb d_Mo_broken_32 (lv_at hl 1 rfl) ?_
    refine lv_iconst (v := 4) hx hb d_Mo_broken_34 (by decide) ?_
    refine lv_icmp_ge (tgt := 82) hx hb d_Mo_broken_35 (by decide) (fun c35 => ?_) (fun c35 => ?_)
    · have h := ifp c35 h
      refine lv_aload_n hx hb d_Mo_broken_82 rfl (lv_at hl 0 rfl) ?_
      obtain ⟨r83, μ83, hq, h⟩ := bd2 h
      refine m_call (r := some (.int r83)) (μ1 := μ83) (va_runV (C := "RecipePlansModel") (As := []) (rest := []) ⟨hx, hb, hml, hown, hts⟩ (c_Mo_firstBroken l G N μ hq _) (cwV 0 hts (gdV tw_546 tw_547 tw_17 tw_41 tw_548) rfl rfl rfl (by decide +kernel) ⟨Nat.le_of_ble_eq_true rfl, Nat.le_of_ble_eq_true rfl⟩) (m_preV (k := 7) (by decide) rfl hK hSt hw) rfl rfl hl.1 rfl (lv_room (Nat.le_of_ble_eq_true rfl)) d_Mo_broken_83 ⟨Nat.zero_le _, Nat.zero_le _⟩) hw (fun H locs hw => ?_)
      exact m_iret hx hb hr hlk hw h d_Mo_broken_86
    · have h := ifn c35 h
      refine lv_aload_n hx hb d_Mo_broken_38 rfl (lv_at hl 0 rfl) ?_
      refine va_get (D := G.1) (ci := 7) (v := .ref (G.2.1 37)) (C := "RecipePlansModel") (T := T_Mo) (N := 24) hx hb hts (fun _ h9 => List.mem_cons_of_mem _ (inT_Mo _ h9)) hown hK hw.1 7 (WL_get (by decide)) rfl 17 (by decide) (hts _ (List.mem_cons_of_mem _ tw_470)) (fun _ h9 => h9) rfl d_Mo_broken_39 ?_
      refine lv_iload hx hb d_Mo_broken_42 (lv_at hl 1 rfl) ?_
      obtain ⟨v44, hv, h⟩ := bd h
      refine m_iaload hx hb hK hw hv d_Mo_broken_44 ?_
      refine lv_i2l hx hb d_Mo_broken_45 rfl ?_
      refine lv_lconst (v := 0) hx hb d_Mo_broken_46 (by decide) ?_
      refine lv_iload hx hb d_Mo_broken_47 (lv_at hl 1 rfl) ?_
      refine lv_aload_n hx hb d_Mo_broken_49 rfl (lv_at hl 0 rfl) ?_
      refine va_get (D := G.1) (ci := 7) (v := .int (μ.1 7 0)) (C := "RecipePlansModel") (T := T_Mo) (N := 24) hx hb hts (fun _ h9 => List.mem_cons_of_mem _ (inT_Mo _ h9)) hown hK hw.1 7 (WL_get (by decide)) rfl 0 (by decide) (hts _ (List.mem_cons_of_mem _ tw_453)) (fun _ h9 => h9) rfl d_Mo_broken_50 ?_
      refine lv_icmp_ge (tgt := 67) hx hb d_Mo_broken_53 (by decide) (fun c53 => ?_) (fun c53 => ?_)
      · have h := ifp c53 h
        refine lv_lconst (v := 0) hx hb d_Mo_broken_67 (by decide) ?_
        exact w_Mo_broken_68 C ih x5 v44.toInt64 (0 : Int64) (0 : Int64) μ _ _ _ hw hl h
      · have h := ifn c53 h
        refine lv_aload_n hx hb d_Mo_broken_56 rfl (lv_at hl 0 rfl) ?_
        refine va_get (D := G.1) (ci := 7) (v := .ref (G.2.1 28)) (C := "RecipePlansModel") (T := T_Mo) (N := 24) hx hb hts (fun _ h9 => List.mem_cons_of_mem _ (inT_Mo _ h9)) hown hK hw.1 7 (WL_get (by decide)) rfl 1 (by decide) (hts _ (List.mem_cons_of_mem _ tw_454)) (fun _ h9 => h9) rfl d_Mo_broken_57 ?_
        refine lv_iload hx hb d_Mo_broken_60 (lv_at hl 1 rfl) ?_
        obtain ⟨v62, hv, h⟩ := bd h
        refine m_iaload hx hb hK hw hv d_Mo_broken_62 ?_
        refine lv_i2l hx hb d_Mo_broken_63 rfl ?_
        refine lv_goto (tgt := 68) hx hb d_Mo_broken_64 (by decide) ?_
        exact w_Mo_broken_68 C ih x5 v44.toInt64 (0 : Int64) v62.toInt64 μ _ _ _ hw hl h
set_option maxRecDepth 100000 in
set_option maxHeartbeats 4000000 in
theorem c_Mo_broken (l : Launch) (G : Gw) (N : Nat) (x1 : Int32) (x2 : Int32) (x3 : Int32) (x4 : Int32) (μ : Mem) {r : Int32} {μ' : Mem} (h : M_Mo_broken N x1 x2 x3 x4 μ = some (r, μ')) : CT l y_Mo_broken ws_Mo_broken rm_Mo_broken [.ref (G.2.1 7), .int x1, .int x2, .int x3, .int x4] G μ (some (.int r)) μ' := by
  refine m_met (cc := prog_9_method_15_code) (maxL := 6) (ret := (some .int)) (by decide) rfl (Nat.le_of_ble_eq_true rfl) ?_
  intro p e s m args below meth c ls C hw hl
  obtain ⟨hx, hb, hr, hml, hown, hts, hlk, hK, hSt⟩ := id C
  have hl : lv_has ls 6 [(0, .ref (G.2.1 7)), (1, .int x1), (2, .int x2), (3, .int x3), (4, .int x4)] := hl
  unfold M_Mo_broken at h
  refine lv_aload_n hx hb d_Mo_broken_0 rfl (lv_at hl 0 rfl) ?_
  refine va_get (D := G.1) (ci := 7) (v := .ref (G.2.1 37)) (C := "RecipePlansModel") (T := T_Mo) (N := 24) hx hb hts (fun _ h9 => List.mem_cons_of_mem _ (inT_Mo _ h9)) hown hK hw.1 7 (WL_get (by decide)) rfl 17 (by decide) (hts _ (List.mem_cons_of_mem _ tw_470)) (fun _ h9 => h9) rfl d_Mo_broken_1 ?_
  refine lv_iconst (v := 0) hx hb d_Mo_broken_4 (by decide) ?_
  refine lv_iload_n hx hb d_Mo_broken_5 rfl (lv_at hl 1 rfl) ?_
  obtain ⟨μ6, hm, h⟩ := bd h
  refine m_iastore hx hb hK hw hm d_Mo_broken_6 (fun H locs hw => ?_)
  refine lv_aload_n hx hb d_Mo_broken_7 rfl (lv_at hl 0 rfl) ?_
  refine va_get (D := G.1) (ci := 7) (v := .ref (G.2.1 37)) (C := "RecipePlansModel") (T := T_Mo) (N := 24) hx hb hts (fun _ h9 => List.mem_cons_of_mem _ (inT_Mo _ h9)) hown hK hw.1 7 (WL_get (by decide)) rfl 17 (by decide) (hts _ (List.mem_cons_of_mem _ tw_470)) (fun _ h9 => h9) rfl d_Mo_broken_8 ?_
  refine lv_iconst (v := 1) hx hb d_Mo_broken_11 (by decide) ?_
  refine lv_iload_n hx hb d_Mo_broken_12 rfl (lv_at hl 2 rfl) ?_
  obtain ⟨μ13, hm, h⟩ := bd h
  refine m_iastore hx hb hK hw hm d_Mo_broken_13 (fun H locs hw => ?_)
  refine lv_aload_n hx hb d_Mo_broken_14 rfl (lv_at hl 0 rfl) ?_
  refine va_get (D := G.1) (ci := 7) (v := .ref (G.2.1 37)) (C := "RecipePlansModel") (T := T_Mo) (N := 24) hx hb hts (fun _ h9 => List.mem_cons_of_mem _ (inT_Mo _ h9)) hown hK hw.1 7 (WL_get (by decide)) rfl 17 (by decide) (hts _ (List.mem_cons_of_mem _ tw_470)) (fun _ h9 => h9) rfl d_Mo_broken_15 ?_
  refine lv_iconst (v := 2) hx hb d_Mo_broken_18 (by decide) ?_
  refine lv_iload_n hx hb d_Mo_broken_19 rfl (lv_at hl 3 rfl) ?_
  obtain ⟨μ20, hm, h⟩ := bd h
  refine m_iastore hx hb hK hw hm d_Mo_broken_20 (fun H locs hw => ?_)
  refine lv_aload_n hx hb d_Mo_broken_21 rfl (lv_at hl 0 rfl) ?_
  refine va_get (D := G.1) (ci := 7) (v := .ref (G.2.1 37)) (C := "RecipePlansModel") (T := T_Mo) (N := 24) hx hb hts (fun _ h9 => List.mem_cons_of_mem _ (inT_Mo _ h9)) hown hK hw.1 7 (WL_get (by decide)) rfl 17 (by decide) (hts _ (List.mem_cons_of_mem _ tw_470)) (fun _ h9 => h9) rfl d_Mo_broken_22 ?_
  refine lv_iconst (v := 3) hx hb d_Mo_broken_25 (by decide) ?_
  refine lv_iload hx hb d_Mo_broken_26 (lv_at hl 4 rfl) ?_
  obtain ⟨μ28, hm, h⟩ := bd h
  refine m_iastore hx hb hK hw hm d_Mo_broken_28 (fun H locs hw => ?_)
  refine lv_iconst (v := 0) hx hb d_Mo_broken_29 (by decide) ?_
  refine lv_istore (lv' := [(5, .int (0 : Int32)), (0, .ref (G.2.1 7)), (1, .int x1), (2, .int x2), (3, .int x3), (4, .int x4)]) hx hb d_Mo_broken_30 hl (by decide) rfl (fun ls hl => ?_)
  exact w_Mo_broken_32 C N (0 : Int32) μ28 _ _ _ hw (lv_sub hl [1, 0] rfl) h
set_option maxRecDepth 100000 in
set_option maxHeartbeats 4000000 in
theorem w_Mo_findWhole_167 {r : Int32} {μ' : Mem} {N : Nat} (C : CxA G p s m args meth c prog_9_method_16_code 8 (some .boolean) "RecipePlansModel" ws_Mo_findWhole) {K4 : Int32 → Int32 → Mem → Option (Int32 × Mem)} (hK4 : ∀ (x1 : Int32) (x2 : Int32) (μ : Mem) (H : Heap) (locs : List Loc) (ls : Array Slot), Wk G s μ H locs → lv_has ls 8 [(0, .ref (G.2.1 7)), (1, .int x1), (2, .int x2)] → K4 x1 x2 μ = some (r, μ') → WA G rm_Mo_findWhole p l e s m args below meth c (some (.int r)) μ' H locs 4 ls []) : ∀ (n : Nat) (x1 : Int32) (x2 : Int32) (x7 : Int32) (μ : Mem) (H : Heap) (locs : List Loc) (ls : Array Slot), Wk G s μ H locs → lv_has ls 8 [(0, .ref (G.2.1 7)), (1, .int x1), (2, .int x2), (7, .int x7)] → M_Mo_findWhole_167 N K4 n x1 x2 x7 μ = some (r, μ') → WA G rm_Mo_findWhole p l e s m args below meth c (some (.int r)) μ' H locs 167 ls [] := by
  obtain ⟨hx, hb, hr, hml, hown, hts, hlk, hK, hSt⟩ := id C
  intro n
  induction n with
  | zero =>
    intro x1 x2 x7 μ H locs ls hw hl h
    rw [M_Mo_findWhole_167] at h
    cases h
  | succ n ih =>
    intro x1 x2 x7 μ H locs ls hw hl h
    rw [M_Mo_findWhole_167] at h
    refine lv_iload hx hb d_Mo_findWhole_167 (lv_at hl 3 rfl) ?_
    refine lv_iconst (v := 4) hx hb d_Mo_findWhole_169 (by decide) ?_
    refine lv_icmp_ge (tgt := 193) hx hb d_Mo_findWhole_170 (by decide) (fun c170 => ?_) (fun c170 => ?_)
    · have h := ifp c170 h
      refine lv_iinc (v := x2 + 1) (lv' := [(2, .int (x2 + 1)), (0, .ref (G.2.1 7)), (1, .int x1), (7, .int x7)]) hx hb d_Mo_findWhole_193 hl (k := 2) rfl rfl (by decide) rfl (fun ls hl => ?_)
      refine lv_goto (tgt := 4) hx hb d_Mo_findWhole_196 (by decide) ?_
      exact hK4 x1 (x2 + 1) μ _ _ _ hw (lv_sub hl [1, 2, 0] rfl) h
    · have h := ifn c170 h
      refine lv_aload_n hx hb d_Mo_findWhole_173 rfl (lv_at hl 0 rfl) ?_
      refine va_get (D := G.1) (ci := 7) (v := .ref (G.2.1 36)) (C := "RecipePlansModel") (T := T_Mo) (N := 24) hx hb hts (fun _ h9 => List.mem_cons_of_mem _ (inT_Mo _ h9)) hown hK hw.1 7 (WL_get (by decide)) rfl 12 (by decide) (hts _ (List.mem_cons_of_mem _ tw_465)) (fun _ h9 => h9) rfl d_Mo_findWhole_174 ?_
      refine lv_iload hx hb d_Mo_findWhole_177 (lv_at hl 3 rfl) ?_
      refine lv_aload_n hx hb d_Mo_findWhole_179 rfl (lv_at hl 0 rfl) ?_
      refine va_get (D := G.1) (ci := 7) (v := .ref (G.2.1 37)) (C := "RecipePlansModel") (T := T_Mo) (N := 24) hx hb hts (fun _ h9 => List.mem_cons_of_mem _ (inT_Mo _ h9)) hown hK hw.1 7 (WL_get (by decide)) rfl 17 (by decide) (hts _ (List.mem_cons_of_mem _ tw_470)) (fun _ h9 => h9) rfl d_Mo_findWhole_180 ?_
      refine lv_iload hx hb d_Mo_findWhole_183 (lv_at hl 3 rfl) ?_
      obtain ⟨v185, hv, h⟩ := bd h
      refine m_iaload hx hb hK hw hv d_Mo_findWhole_185 ?_
      obtain ⟨μ186, hm, h⟩ := bd h
      refine m_iastore hx hb hK hw hm d_Mo_findWhole_186 (fun H locs hw => ?_)
      refine lv_iinc (v := x7 + 1) (lv' := [(7, .int (x7 + 1)), (0, .ref (G.2.1 7)), (1, .int x1), (2, .int x2)]) hx hb d_Mo_findWhole_187 hl (k := 3) rfl rfl (by decide) rfl (fun ls hl => ?_)
      refine lv_goto (tgt := 167) hx hb d_Mo_findWhole_190 (by decide) ?_
      exact ih x1 x2 (x7 + 1) μ186 _ _ _ hw (lv_sub hl [1, 2, 3, 0] rfl) h
set_option maxRecDepth 100000 in
set_option maxHeartbeats 4000000 in
theorem w_Mo_findWhole_156 {r : Int32} {μ' : Mem} {N : Nat} (C : CxA G p s m args meth c prog_9_method_16_code 8 (some .boolean) "RecipePlansModel" ws_Mo_findWhole) {K4 : Int32 → Int32 → Mem → Option (Int32 × Mem)} (hK4 : ∀ (x1 : Int32) (x2 : Int32) (μ : Mem) (H : Heap) (locs : List Loc) (ls : Array Slot), Wk G s μ H locs → lv_has ls 8 [(0, .ref (G.2.1 7)), (1, .int x1), (2, .int x2)] → K4 x1 x2 μ = some (r, μ') → WA G rm_Mo_findWhole p l e s m args below meth c (some (.int r)) μ' H locs 4 ls []) : ∀ (x2 : Int32) (x5 : Int64) (μ : Mem) (H : Heap) (locs : List Loc) (ls : Array Slot), Wk G s μ H locs → lv_has ls 8 [(0, .ref (G.2.1 7)), (2, .int x2), (5, .long x5)] → M_Mo_findWhole_156 N K4 x2 x5 μ = some (r, μ') → WA G rm_Mo_findWhole p l e s m args below meth c (some (.int r)) μ' H locs 156 ls [] := by
  obtain ⟨hx, hb, hr, hml, hown, hts, hlk, hK, hSt⟩ := id C
  intro x2 x5 μ H locs ls hw hl h
  unfold M_Mo_findWhole_156 at h
  refine lv_iconst (v := 1) hx hb d_Mo_findWhole_156 (by decide) ?_
  refine lv_istore_n (lv' := [(1, .int (1 : Int32)), (0, .ref (G.2.1 7)), (2, .int x2), (5, .long x5)]) hx hb d_Mo_findWhole_157 rfl hl (by decide) rfl (fun ls hl => ?_)
  refine lv_aload_n hx hb d_Mo_findWhole_158 rfl (lv_at hl 1 rfl) ?_
  refine lv_lload hx hb d_Mo_findWhole_159 (lv_at hl 3 rfl) ?_
  obtain ⟨μ161, hm, h⟩ := bd h
  refine va_put (D := G.1) (ci := 7) (v := .long x5) (ty := .long) (C := "RecipePlansModel") (T := T_Mo) (N := 24) hx hb hts (fun _ h9 => List.mem_cons_of_mem _ (inT_Mo _ h9)) ty_Mo tyok_Mo nm_Mo hown hK hw.1 hw.2.1 hw.2.2 7 (WL_get (by decide)) rfl 13 (by decide) (hts _ (List.mem_cons_of_mem _ tw_466)) (fun _ h9 => h9) rfl (by decide +kernel) rfl rfl (Nat.le_of_ble_eq_true rfl) d_Mo_findWhole_161 (fun H locs hP hD hS => ?_)
  have hw := wk_pJ hm (by decide) (by rfl) hP hD hS
  refine lv_iconst (v := 0) hx hb d_Mo_findWhole_164 (by decide) ?_
  refine lv_istore (lv' := [(7, .int (0 : Int32)), (1, .int (1 : Int32)), (0, .ref (G.2.1 7)), (2, .int x2), (5, .long x5)]) hx hb d_Mo_findWhole_165 hl (by decide) rfl (fun ls hl => ?_)
  exact w_Mo_findWhole_167 C hK4 N (1 : Int32) x2 (0 : Int32) μ161 _ _ _ hw (lv_sub hl [2, 1, 3, 0] rfl) h
set_option maxRecDepth 100000 in
set_option maxHeartbeats 4000000 in
theorem w_Mo_findWhole_108 {r : Int32} {μ' : Mem} {N : Nat} (C : CxA G p s m args meth c prog_9_method_16_code 8 (some .boolean) "RecipePlansModel" ws_Mo_findWhole) {K4 : Int32 → Int32 → Mem → Option (Int32 × Mem)} (hK4 : ∀ (x1 : Int32) (x2 : Int32) (μ : Mem) (H : Heap) (locs : List Loc) (ls : Array Slot), Wk G s μ H locs → lv_has ls 8 [(0, .ref (G.2.1 7)), (1, .int x1), (2, .int x2)] → K4 x1 x2 μ = some (r, μ') → WA G rm_Mo_findWhole p l e s m args below meth c (some (.int r)) μ' H locs 4 ls []) : ∀ (n : Nat) (x1 : Int32) (x2 : Int32) (x5 : Int64) (x7 : Int32) (μ : Mem) (H : Heap) (locs : List Loc) (ls : Array Slot), Wk G s μ H locs → lv_has ls 8 [(0, .ref (G.2.1 7)), (1, .int x1), (2, .int x2), (5, .long x5), (7, .int x7)] → M_Mo_findWhole_108 N K4 n x1 x2 x5 x7 μ = some (r, μ') → WA G rm_Mo_findWhole p l e s m args below meth c (some (.int r)) μ' H locs 108 ls [] := by
  obtain ⟨hx, hb, hr, hml, hown, hts, hlk, hK, hSt⟩ := id C
  intro n
  induction n with
  | zero =>
    intro x1 x2 x5 x7 μ H locs ls hw hl h
    rw [M_Mo_findWhole_108] at h
    cases h
  | succ n ih =>
    intro x1 x2 x5 x7 μ H locs ls hw hl h
    rw [M_Mo_findWhole_108] at h
    refine lv_iload hx hb d_Mo_findWhole_108 (lv_at hl 4 rfl) ?_
    refine lv_iconst (v := 4) hx hb d_Mo_findWhole_110 (by decide) ?_
    refine lv_icmp_ge (tgt := 142) hx hb d_Mo_findWhole_111 (by decide) (fun c111 => ?_) (fun c111 => ?_)
    · have h := ifp c111 h
      refine lv_iload_n hx hb d_Mo_findWhole_142 rfl (lv_at hl 1 rfl) ?_
      refine lv_if_eq (tgt := 156) hx hb d_Mo_findWhole_143 (by decide) (fun c143 => ?_) (fun c143 => ?_)
      · have h := ifp c143 h
        exact w_Mo_findWhole_156 C hK4 x2 x5 μ _ _ _ hw (lv_sub hl [0, 2, 3] rfl) h
      · have h := ifn c143 h
        refine lv_lload hx hb d_Mo_findWhole_146 (lv_at hl 3 rfl) ?_
        refine lv_aload_n hx hb d_Mo_findWhole_148 rfl (lv_at hl 0 rfl) ?_
        refine va_get (D := G.1) (ci := 7) (v := .long (μ.2 7 13)) (C := "RecipePlansModel") (T := T_Mo) (N := 24) hx hb hts (fun _ h9 => List.mem_cons_of_mem _ (inT_Mo _ h9)) hown hK hw.1 7 (WL_get (by decide)) rfl 13 (by decide) (hts _ (List.mem_cons_of_mem _ tw_466)) (fun _ h9 => h9) rfl d_Mo_findWhole_149 ?_
        refine W.lcmp hx hb d_Mo_findWhole_152 ?_
        refine lv_if_ge (tgt := 193) hx hb d_Mo_findWhole_153 (by decide) (fun c153 => ?_) (fun c153 => ?_)
        · have h := ifp c153 h
          refine lv_iinc (v := x2 + 1) (lv' := [(2, .int (x2 + 1)), (0, .ref (G.2.1 7)), (1, .int x1), (5, .long x5), (7, .int x7)]) hx hb d_Mo_findWhole_193 hl (k := 2) rfl rfl (by decide) rfl (fun ls hl => ?_)
          refine lv_goto (tgt := 4) hx hb d_Mo_findWhole_196 (by decide) ?_
          exact hK4 x1 (x2 + 1) μ _ _ _ hw (lv_sub hl [1, 2, 0] rfl) h
        · have h := ifn c153 h
          exact w_Mo_findWhole_156 C hK4 x2 x5 μ _ _ _ hw (lv_sub hl [0, 2, 3] rfl) h
    · have h := ifn c111 h
      refine lv_lload hx hb d_Mo_findWhole_114 (lv_at hl 3 rfl) ?_
      refine lv_aload_n hx hb d_Mo_findWhole_116 rfl (lv_at hl 0 rfl) ?_
      refine va_get (D := G.1) (ci := 7) (v := .ref (G.2.1 37)) (C := "RecipePlansModel") (T := T_Mo) (N := 24) hx hb hts (fun _ h9 => List.mem_cons_of_mem _ (inT_Mo _ h9)) hown hK hw.1 7 (WL_get (by decide)) rfl 17 (by decide) (hts _ (List.mem_cons_of_mem _ tw_470)) (fun _ h9 => h9) rfl d_Mo_findWhole_117 ?_
      refine lv_iload hx hb d_Mo_findWhole_120 (lv_at hl 4 rfl) ?_
      obtain ⟨v122, hv, h⟩ := bd h
      refine m_iaload hx hb hK hw hv d_Mo_findWhole_122 ?_
      refine lv_i2l hx hb d_Mo_findWhole_123 rfl ?_
      refine lv_aload_n hx hb d_Mo_findWhole_124 rfl (lv_at hl 0 rfl) ?_
      refine va_get (D := G.1) (ci := 7) (v := .ref (G.2.1 29)) (C := "RecipePlansModel") (T := T_Mo) (N := 24) hx hb hts (fun _ h9 => List.mem_cons_of_mem _ (inT_Mo _ h9)) hown hK hw.1 7 (WL_get (by decide)) rfl 2 (by decide) (hts _ (List.mem_cons_of_mem _ tw_455)) (fun _ h9 => h9) rfl d_Mo_findWhole_125 ?_
      refine lv_iload hx hb d_Mo_findWhole_128 (lv_at hl 4 rfl) ?_
      obtain ⟨v130, hv, h⟩ := bd h
      refine m_iaload hx hb hK hw hv d_Mo_findWhole_130 ?_
      refine lv_i2l hx hb d_Mo_findWhole_131 rfl ?_
      refine lv_lmul hx hb d_Mo_findWhole_132 ?_
      refine lv_ladd hx hb d_Mo_findWhole_133 ?_
      obtain ⟨x5_134, ex5_134, h⟩ := nmx h
      refine m_eql ex5_134 ?_
      refine lv_lstore (lv' := [(5, .long x5_134), (0, .ref (G.2.1 7)), (1, .int x1), (2, .int x2), (7, .int x7)]) hx hb d_Mo_findWhole_134 hl (by decide) rfl (fun ls hl => ?_)
      refine lv_iinc (v := x7 + 1) (lv' := [(7, .int (x7 + 1)), (5, .long x5_134), (0, .ref (G.2.1 7)), (1, .int x1), (2, .int x2)]) hx hb d_Mo_findWhole_136 hl (k := 4) rfl rfl (by decide) rfl (fun ls hl => ?_)
      refine lv_goto (tgt := 108) hx hb d_Mo_findWhole_139 (by decide) ?_
      exact ih x1 x2 x5_134 (x7 + 1) μ _ _ _ hw (lv_sub hl [2, 3, 4, 1, 0] rfl) h
set_option maxRecDepth 100000 in
set_option maxHeartbeats 4000000 in
theorem w_Mo_findWhole_80 {r : Int32} {μ' : Mem} {N : Nat} (C : CxA G p s m args meth c prog_9_method_16_code 8 (some .boolean) "RecipePlansModel" ws_Mo_findWhole) {K4 : Int32 → Int32 → Mem → Option (Int32 × Mem)} (hK4 : ∀ (x1 : Int32) (x2 : Int32) (μ : Mem) (H : Heap) (locs : List Loc) (ls : Array Slot), Wk G s μ H locs → lv_has ls 8 [(0, .ref (G.2.1 7)), (1, .int x1), (2, .int x2)] → K4 x1 x2 μ = some (r, μ') → WA G rm_Mo_findWhole p l e s m args below meth c (some (.int r)) μ' H locs 4 ls []) {K19 : Int32 → Int32 → Int32 → Int32 → Int32 → Mem → Option (Int32 × Mem)} (hK19 : ∀ (x1 : Int32) (x2 : Int32) (x3 : Int32) (x4 : Int32) (x5 : Int32) (μ : Mem) (H : Heap) (locs : List Loc) (ls : Array Slot), Wk G s μ H locs → lv_has ls 8 [(0, .ref (G.2.1 7)), (1, .int x1), (2, .int x2), (3, .int x3), (4, .int x4), (5, .int x5)] → K19 x1 x2 x3 x4 x5 μ = some (r, μ') → WA G rm_Mo_findWhole p l e s m args below meth c (some (.int r)) μ' H locs 19 ls []) : ∀ (x1 : Int32) (x2 : Int32) (x3 : Int32) (x5 : Int32) (y0 : Int32) (μ : Mem) (H : Heap) (locs : List Loc) (ls : Array Slot), Wk G s μ H locs → lv_has ls 8 [(0, .ref (G.2.1 7)), (1, .int x1), (2, .int x2), (3, .int x3), (5, .int x5)] → M_Mo_findWhole_80 N K4 K19 x1 x2 x3 x5 y0 μ = some (r, μ') → WA G rm_Mo_findWhole p l e s m args below meth c (some (.int r)) μ' H locs 80 ls [.int y0] := by
  obtain ⟨hx, hb, hr, hml, hown, hts, hlk, hK, hSt⟩ := id C
  intro x1 x2 x3 x5 y0 μ H locs ls hw hl h
  unfold M_Mo_findWhole_80 at h
  refine lv_istore (lv' := [(4, .int y0), (0, .ref (G.2.1 7)), (1, .int x1), (2, .int x2), (3, .int x3), (5, .int x5)]) hx hb d_Mo_findWhole_80 hl (by decide) rfl (fun ls hl => ?_)
  refine lv_iinc (v := x5 + (-1)) (lv' := [(5, .int (x5 + (-1))), (4, .int y0), (0, .ref (G.2.1 7)), (1, .int x1), (2, .int x2), (3, .int x3)]) hx hb d_Mo_findWhole_82 hl (k := 5) rfl rfl (by decide) rfl (fun ls hl => ?_)
  refine lv_goto (tgt := 19) hx hb d_Mo_findWhole_85 (by decide) ?_
  exact hK19 x1 x2 x3 y0 (x5 + (-1)) μ _ _ _ hw (lv_sub hl [2, 3, 4, 5, 1, 0] rfl) h
set_option maxRecDepth 100000 in
set_option maxHeartbeats 4000000 in
theorem w_Mo_findWhole_79 {r : Int32} {μ' : Mem} {N : Nat} (C : CxA G p s m args meth c prog_9_method_16_code 8 (some .boolean) "RecipePlansModel" ws_Mo_findWhole) {K4 : Int32 → Int32 → Mem → Option (Int32 × Mem)} (hK4 : ∀ (x1 : Int32) (x2 : Int32) (μ : Mem) (H : Heap) (locs : List Loc) (ls : Array Slot), Wk G s μ H locs → lv_has ls 8 [(0, .ref (G.2.1 7)), (1, .int x1), (2, .int x2)] → K4 x1 x2 μ = some (r, μ') → WA G rm_Mo_findWhole p l e s m args below meth c (some (.int r)) μ' H locs 4 ls []) {K19 : Int32 → Int32 → Int32 → Int32 → Int32 → Mem → Option (Int32 × Mem)} (hK19 : ∀ (x1 : Int32) (x2 : Int32) (x3 : Int32) (x4 : Int32) (x5 : Int32) (μ : Mem) (H : Heap) (locs : List Loc) (ls : Array Slot), Wk G s μ H locs → lv_has ls 8 [(0, .ref (G.2.1 7)), (1, .int x1), (2, .int x2), (3, .int x3), (4, .int x4), (5, .int x5)] → K19 x1 x2 x3 x4 x5 μ = some (r, μ') → WA G rm_Mo_findWhole p l e s m args below meth c (some (.int r)) μ' H locs 19 ls []) : ∀ (x1 : Int32) (x2 : Int32) (x3 : Int32) (x5 : Int32) (μ : Mem) (H : Heap) (locs : List Loc) (ls : Array Slot), Wk G s μ H locs → lv_has ls 8 [(0, .ref (G.2.1 7)), (1, .int x1), (2, .int x2), (3, .int x3), (5, .int x5)] → M_Mo_findWhole_79 N K4 K19 x1 x2 x3 x5 μ = some (r, μ') → WA G rm_Mo_findWhole p l e s m args below meth c (some (.int r)) μ' H locs 79 ls [] := by
  obtain ⟨hx, hb, hr, hml, hown, hts, hlk, hK, hSt⟩ := id C
  intro x1 x2 x3 x5 μ H locs ls hw hl h
  unfold M_Mo_findWhole_79 at h
  refine lv_iconst (v := 0) hx hb d_Mo_findWhole_79 (by decide) ?_
  exact w_Mo_findWhole_80 C hK4 hK19 x1 x2 x3 x5 (0 : Int32) μ _ _ _ hw hl h
set_option maxRecDepth 100000 in
set_option maxHeartbeats 4000000 in
theorem w_Mo_findWhole_72 {r : Int32} {μ' : Mem} {N : Nat} (C : CxA G p s m args meth c prog_9_method_16_code 8 (some .boolean) "RecipePlansModel" ws_Mo_findWhole) {K4 : Int32 → Int32 → Mem → Option (Int32 × Mem)} (hK4 : ∀ (x1 : Int32) (x2 : Int32) (μ : Mem) (H : Heap) (locs : List Loc) (ls : Array Slot), Wk G s μ H locs → lv_has ls 8 [(0, .ref (G.2.1 7)), (1, .int x1), (2, .int x2)] → K4 x1 x2 μ = some (r, μ') → WA G rm_Mo_findWhole p l e s m args below meth c (some (.int r)) μ' H locs 4 ls []) {K19 : Int32 → Int32 → Int32 → Int32 → Int32 → Mem → Option (Int32 × Mem)} (hK19 : ∀ (x1 : Int32) (x2 : Int32) (x3 : Int32) (x4 : Int32) (x5 : Int32) (μ : Mem) (H : Heap) (locs : List Loc) (ls : Array Slot), Wk G s μ H locs → lv_has ls 8 [(0, .ref (G.2.1 7)), (1, .int x1), (2, .int x2), (3, .int x3), (4, .int x4), (5, .int x5)] → K19 x1 x2 x3 x4 x5 μ = some (r, μ') → WA G rm_Mo_findWhole p l e s m args below meth c (some (.int r)) μ' H locs 19 ls []) : ∀ (x1 : Int32) (x2 : Int32) (x3 : Int32) (x5 : Int32) (y0 : Int32) (y1 : Int32) (μ : Mem) (H : Heap) (locs : List Loc) (ls : Array Slot), Wk G s μ H locs → lv_has ls 8 [(0, .ref (G.2.1 7)), (1, .int x1), (2, .int x2), (3, .int x3), (5, .int x5)] → M_Mo_findWhole_72 N K4 K19 x1 x2 x3 x5 y0 y1 μ = some (r, μ') → WA G rm_Mo_findWhole p l e s m args below meth c (some (.int r)) μ' H locs 72 ls [.int y1, .int y0] := by
  obtain ⟨hx, hb, hr, hml, hown, hts, hlk, hK, hSt⟩ := id C
  intro x1 x2 x3 x5 y0 y1 μ H locs ls hw hl h
  unfold M_Mo_findWhole_72 at h
  refine lv_icmp_gt (tgt := 79) hx hb d_Mo_findWhole_72 (by decide) (fun c72 => ?_) (fun c72 => ?_)
  · have h := ifp c72 h
    exact w_Mo_findWhole_79 C hK4 hK19 x1 x2 x3 x5 μ _ _ _ hw hl h
  · have h := ifn c72 h
    refine lv_iconst (v := 1) hx hb d_Mo_findWhole_75 (by decide) ?_
    refine lv_goto (tgt := 80) hx hb d_Mo_findWhole_76 (by decide) ?_
    exact w_Mo_findWhole_80 C hK4 hK19 x1 x2 x3 x5 (1 : Int32) μ _ _ _ hw hl h
set_option maxRecDepth 100000 in
set_option maxHeartbeats 4000000 in
theorem w_Mo_findWhole_19 {r : Int32} {μ' : Mem} {N : Nat} (C : CxA G p s m args meth c prog_9_method_16_code 8 (some .boolean) "RecipePlansModel" ws_Mo_findWhole) {K4 : Int32 → Int32 → Mem → Option (Int32 × Mem)} (hK4 : ∀ (x1 : Int32) (x2 : Int32) (μ : Mem) (H : Heap) (locs : List Loc) (ls : Array Slot), Wk G s μ H locs → lv_has ls 8 [(0, .ref (G.2.1 7)), (1, .int x1), (2, .int x2)] → K4 x1 x2 μ = some (r, μ') → WA G rm_Mo_findWhole p l e s m args below meth c (some (.int r)) μ' H locs 4 ls []) : ∀ (n : Nat) (x1 : Int32) (x2 : Int32) (x3 : Int32) (x4 : Int32) (x5 : Int32) (μ : Mem) (H : Heap) (locs : List Loc) (ls : Array Slot), Wk G s μ H locs → lv_has ls 8 [(0, .ref (G.2.1 7)), (1, .int x1), (2, .int x2), (3, .int x3), (4, .int x4), (5, .int x5)] → M_Mo_findWhole_19 N K4 n x1 x2 x3 x4 x5 μ = some (r, μ') → WA G rm_Mo_findWhole p l e s m args below meth c (some (.int r)) μ' H locs 19 ls [] := by
  obtain ⟨hx, hb, hr, hml, hown, hts, hlk, hK, hSt⟩ := id C
  intro n
  induction n with
  | zero =>
    intro x1 x2 x3 x4 x5 μ H locs ls hw hl h
    rw [M_Mo_findWhole_19] at h
    cases h
  | succ n ih =>
    intro x1 x2 x3 x4 x5 μ H locs ls hw hl h
    rw [M_Mo_findWhole_19] at h
    refine lv_iload hx hb d_Mo_findWhole_19 (lv_at hl 5 rfl) ?_
    refine lv_if_lt (tgt := 88) hx hb d_Mo_findWhole_21 (by decide) (fun c21 => ?_) (fun c21 => ?_)
    · have h := ifp c21 h
      refine lv_iload hx hb d_Mo_findWhole_88 (lv_at hl 4 rfl) ?_
      refine lv_if_eq (tgt := 193) hx hb d_Mo_findWhole_90 (by decide) (fun c90 => ?_) (fun c90 => ?_)
      · have h := ifp c90 h
        refine lv_iinc (v := x2 + 1) (lv' := [(2, .int (x2 + 1)), (0, .ref (G.2.1 7)), (1, .int x1), (3, .int x3), (4, .int x4), (5, .int x5)]) hx hb d_Mo_findWhole_193 hl (k := 2) rfl rfl (by decide) rfl (fun ls hl => ?_)
        refine lv_goto (tgt := 4) hx hb d_Mo_findWhole_196 (by decide) ?_
        exact hK4 x1 (x2 + 1) μ _ _ _ hw (lv_sub hl [1, 2, 0] rfl) h
      · have h := ifn c90 h
        refine lv_aload_n hx hb d_Mo_findWhole_93 rfl (lv_at hl 0 rfl) ?_
        obtain ⟨r94, μ94, hq, h⟩ := bd2 h
        refine m_call (r := some (.int r94)) (μ1 := μ94) (va_runV (C := "RecipePlansModel") (As := []) (rest := []) ⟨hx, hb, hml, hown, hts⟩ (c_Mo_firstBroken l G N μ hq _) (cwV 0 hts (gdV tw_546 tw_547 tw_17 tw_41 tw_548) rfl rfl rfl (by decide +kernel) ⟨Nat.le_of_ble_eq_true rfl, Nat.le_of_ble_eq_true rfl⟩) (m_preV (k := 7) (by decide) rfl hK hSt hw) rfl rfl hl.1 rfl (lv_room (Nat.le_of_ble_eq_true rfl)) d_Mo_findWhole_94 ⟨Nat.zero_le _, Nat.zero_le _⟩) hw (fun H locs hw => ?_)
        refine lv_bipush (v := 8) hx hb d_Mo_findWhole_97 (by decide) ?_
        refine lv_icmp_ne (tgt := 193) hx hb d_Mo_findWhole_99 (by decide) (fun c99 => ?_) (fun c99 => ?_)
        · have h := ifn c99 h
          refine lv_iinc (v := x2 + 1) (lv' := [(2, .int (x2 + 1)), (0, .ref (G.2.1 7)), (1, .int x1), (3, .int x3), (4, .int x4), (5, .int x5)]) hx hb d_Mo_findWhole_193 hl (k := 2) rfl rfl (by decide) rfl (fun ls hl => ?_)
          refine lv_goto (tgt := 4) hx hb d_Mo_findWhole_196 (by decide) ?_
          exact hK4 x1 (x2 + 1) μ94 _ _ _ hw (lv_sub hl [1, 2, 0] rfl) h
        · have h := ifp c99 h
          refine lv_lconst (v := 0) hx hb d_Mo_findWhole_102 (by decide) ?_
          refine lv_lstore (lv' := [(5, .long (0 : Int64)), (0, .ref (G.2.1 7)), (1, .int x1), (2, .int x2), (3, .int x3), (4, .int x4)]) hx hb d_Mo_findWhole_103 hl (by decide) rfl (fun ls hl => ?_)
          refine lv_iconst (v := 0) hx hb d_Mo_findWhole_105 (by decide) ?_
          refine lv_istore (lv' := [(7, .int (0 : Int32)), (5, .long (0 : Int64)), (0, .ref (G.2.1 7)), (1, .int x1), (2, .int x2), (3, .int x3), (4, .int x4)]) hx hb d_Mo_findWhole_106 hl (by decide) rfl (fun ls hl => ?_)
          exact w_Mo_findWhole_108 C hK4 N x1 x2 (0 : Int64) (0 : Int32) μ94 _ _ _ hw (lv_sub hl [2, 3, 4, 1, 0] rfl) h
    · have h := ifn c21 h
      refine lv_aload_n hx hb d_Mo_findWhole_24 rfl (lv_at hl 0 rfl) ?_
      refine va_get (D := G.1) (ci := 7) (v := .ref (G.2.1 37)) (C := "RecipePlansModel") (T := T_Mo) (N := 24) hx hb hts (fun _ h9 => List.mem_cons_of_mem _ (inT_Mo _ h9)) hown hK hw.1 7 (WL_get (by decide)) rfl 17 (by decide) (hts _ (List.mem_cons_of_mem _ tw_470)) (fun _ h9 => h9) rfl d_Mo_findWhole_25 ?_
      refine lv_iload hx hb d_Mo_findWhole_28 (lv_at hl 5 rfl) ?_
      refine lv_iload_n hx hb d_Mo_findWhole_30 rfl (lv_at hl 3 rfl) ?_
      refine lv_bipush (v := 10) hx hb d_Mo_findWhole_31 (by decide) ?_
      obtain ⟨v33, hv, h⟩ := bd h
      refine m_irem hx hb hv d_Mo_findWhole_33 ?_
      obtain ⟨μ34, hm, h⟩ := bd h
      refine m_iastore hx hb hK hw hm d_Mo_findWhole_34 (fun H locs hw => ?_)
      refine lv_iload_n hx hb d_Mo_findWhole_35 rfl (lv_at hl 3 rfl) ?_
      refine lv_bipush (v := 10) hx hb d_Mo_findWhole_36 (by decide) ?_
      obtain ⟨v38, hv, h⟩ := bd h
      refine m_idiv hx hb hv d_Mo_findWhole_38 ?_
      refine lv_istore_n (lv' := [(3, .int v38), (0, .ref (G.2.1 7)), (1, .int x1), (2, .int x2), (4, .int x4), (5, .int x5)]) hx hb d_Mo_findWhole_39 rfl hl (by decide) rfl (fun ls hl => ?_)
      refine lv_iload hx hb d_Mo_findWhole_40 (lv_at hl 4 rfl) ?_
      refine lv_if_eq (tgt := 79) hx hb d_Mo_findWhole_42 (by decide) (fun c42 => ?_) (fun c42 => ?_)
      · have h := ifp c42 h
        exact w_Mo_findWhole_79 C hK4 ih x1 x2 v38 x5 μ34 _ _ _ hw (lv_sub hl [1, 2, 3, 0, 5] rfl) h
      · have h := ifn c42 h
        refine lv_aload_n hx hb d_Mo_findWhole_45 rfl (lv_at hl 1 rfl) ?_
        refine va_get (D := G.1) (ci := 7) (v := .ref (G.2.1 37)) (C := "RecipePlansModel") (T := T_Mo) (N := 24) hx hb hts (fun _ h9 => List.mem_cons_of_mem _ (inT_Mo _ h9)) hown hK hw.1 7 (WL_get (by decide)) rfl 17 (by decide) (hts _ (List.mem_cons_of_mem _ tw_470)) (fun _ h9 => h9) rfl d_Mo_findWhole_46 ?_
        refine lv_iload hx hb d_Mo_findWhole_49 (lv_at hl 5 rfl) ?_
        obtain ⟨v51, hv, h⟩ := bd h
        refine m_iaload hx hb hK hw hv d_Mo_findWhole_51 ?_
        refine lv_iload hx hb d_Mo_findWhole_52 (lv_at hl 5 rfl) ?_
        refine lv_aload_n hx hb d_Mo_findWhole_54 rfl (lv_at hl 1 rfl) ?_
        refine va_get (D := G.1) (ci := 7) (v := .int (μ34.1 7 0)) (C := "RecipePlansModel") (T := T_Mo) (N := 24) hx hb hts (fun _ h9 => List.mem_cons_of_mem _ (inT_Mo _ h9)) hown hK hw.1 7 (WL_get (by decide)) rfl 0 (by decide) (hts _ (List.mem_cons_of_mem _ tw_453)) (fun _ h9 => h9) rfl d_Mo_findWhole_55 ?_
        refine lv_icmp_ge (tgt := 71) hx hb d_Mo_findWhole_58 (by decide) (fun c58 => ?_) (fun c58 => ?_)
        · have h := ifp c58 h
          refine lv_iconst (v := 0) hx hb d_Mo_findWhole_71 (by decide) ?_
          exact w_Mo_findWhole_72 C hK4 ih x1 x2 v38 x5 v51 (0 : Int32) μ34 _ _ _ hw (lv_sub hl [1, 2, 3, 0, 5] rfl) h
        · have h := ifn c58 h
          refine lv_aload_n hx hb d_Mo_findWhole_61 rfl (lv_at hl 1 rfl) ?_
          refine va_get (D := G.1) (ci := 7) (v := .ref (G.2.1 28)) (C := "RecipePlansModel") (T := T_Mo) (N := 24) hx hb hts (fun _ h9 => List.mem_cons_of_mem _ (inT_Mo _ h9)) hown hK hw.1 7 (WL_get (by decide)) rfl 1 (by decide) (hts _ (List.mem_cons_of_mem _ tw_454)) (fun _ h9 => h9) rfl d_Mo_findWhole_62 ?_
          refine lv_iload hx hb d_Mo_findWhole_65 (lv_at hl 5 rfl) ?_
          obtain ⟨v67, hv, h⟩ := bd h
          refine m_iaload hx hb hK hw hv d_Mo_findWhole_67 ?_
          refine lv_goto (tgt := 72) hx hb d_Mo_findWhole_68 (by decide) ?_
          exact w_Mo_findWhole_72 C hK4 ih x1 x2 v38 x5 v51 v67 μ34 _ _ _ hw (lv_sub hl [1, 2, 3, 0, 5] rfl) h
set_option maxRecDepth 100000 in
set_option maxHeartbeats 4000000 in
theorem w_Mo_findWhole_4 {r : Int32} {μ' : Mem} {N : Nat} (C : CxA G p s m args meth c prog_9_method_16_code 8 (some .boolean) "RecipePlansModel" ws_Mo_findWhole) : ∀ (n : Nat) (x1 : Int32) (x2 : Int32) (μ : Mem) (H : Heap) (locs : List Loc) (ls : Array Slot), Wk G s μ H locs → lv_has ls 8 [(0, .ref (G.2.1 7)), (1, .int x1), (2, .int x2)] → M_Mo_findWhole_4 N n x1 x2 μ = some (r, μ') → WA G rm_Mo_findWhole p l e s m args below meth c (some (.int r)) μ' H locs 4 ls [] := by
  obtain ⟨hx, hb, hr, hml, hown, hts, hlk, hK, hSt⟩ := id C
  intro n
  induction n with
  | zero =>
    intro x1 x2 μ H locs ls hw hl h
    rw [M_Mo_findWhole_4] at h
    cases h
  | succ n ih =>
    intro x1 x2 μ H locs ls hw hl h
    rw [M_Mo_findWhole_4] at h
    refine lv_iload_n hx hb d_Mo_findWhole_4 rfl (lv_at hl 2 rfl) ?_
    refine lv_sipush (v := 10000) hx hb d_Mo_findWhole_5 (by decide) ?_
    refine lv_icmp_ge (tgt := 199) hx hb d_Mo_findWhole_8 (by decide) (fun c8 => ?_) (fun c8 => ?_)
    · have h := ifp c8 h
      refine lv_iload_n hx hb d_Mo_findWhole_199 rfl (lv_at hl 1 rfl) ?_
      exact m_zret hx hb hr hlk hw h d_Mo_findWhole_200
    · have h := ifn c8 h
      refine lv_iload_n hx hb d_Mo_findWhole_11 rfl (lv_at hl 2 rfl) ?_
      refine lv_istore_n (lv' := [(3, .int x2), (0, .ref (G.2.1 7)), (1, .int x1), (2, .int x2)]) hx hb d_Mo_findWhole_12 rfl hl (by decide) rfl (fun ls hl => ?_)
      refine lv_iconst (v := 1) hx hb d_Mo_findWhole_13 (by decide) ?_
      refine lv_istore (lv' := [(4, .int (1 : Int32)), (3, .int x2), (0, .ref (G.2.1 7)), (1, .int x1), (2, .int x2)]) hx hb d_Mo_findWhole_14 hl (by decide) rfl (fun ls hl => ?_)
      refine lv_iconst (v := 3) hx hb d_Mo_findWhole_16 (by decide) ?_
      refine lv_istore (lv' := [(5, .int (3 : Int32)), (4, .int (1 : Int32)), (3, .int x2), (0, .ref (G.2.1 7)), (1, .int x1), (2, .int x2)]) hx hb d_Mo_findWhole_17 hl (by decide) rfl (fun ls hl => ?_)
      exact w_Mo_findWhole_19 C ih N x1 x2 x2 (1 : Int32) (3 : Int32) μ _ _ _ hw (lv_sub hl [3, 4, 5, 2, 1, 0] rfl) h
set_option maxRecDepth 100000 in
set_option maxHeartbeats 4000000 in
theorem c_Mo_findWhole (l : Launch) (G : Gw) (N : Nat) (μ : Mem) {r : Int32} {μ' : Mem} (h : M_Mo_findWhole N μ = some (r, μ')) : CT l y_Mo_findWhole ws_Mo_findWhole rm_Mo_findWhole [.ref (G.2.1 7)] G μ (some (.int r)) μ' := by
  refine m_met (cc := prog_9_method_16_code) (maxL := 8) (ret := (some .boolean)) (by decide) rfl (Nat.le_of_ble_eq_true rfl) ?_
  intro p e s m args below meth c ls C hw hl
  obtain ⟨hx, hb, hr, hml, hown, hts, hlk, hK, hSt⟩ := id C
  have hl : lv_has ls 8 [(0, .ref (G.2.1 7))] := hl
  unfold M_Mo_findWhole at h
  refine lv_iconst (v := 0) hx hb d_Mo_findWhole_0 (by decide) ?_
  refine lv_istore_n (lv' := [(1, .int (0 : Int32)), (0, .ref (G.2.1 7))]) hx hb d_Mo_findWhole_1 rfl hl (by decide) rfl (fun ls hl => ?_)
  refine lv_iconst (v := 0) hx hb d_Mo_findWhole_2 (by decide) ?_
  refine lv_istore_n (lv' := [(2, .int (0 : Int32)), (1, .int (0 : Int32)), (0, .ref (G.2.1 7))]) hx hb d_Mo_findWhole_3 rfl hl (by decide) rfl (fun ls hl => ?_)
  exact w_Mo_findWhole_4 C N (0 : Int32) (0 : Int32) μ _ _ _ hw (lv_sub hl [2, 1, 0] rfl) h
set_option maxRecDepth 100000 in
set_option maxHeartbeats 4000000 in
theorem w_Mo_setLimit_190 {μ' : Mem} {N : Nat} (C : CxA G p s m args meth c prog_9_method_17_code 8 none "RecipePlansModel" ws_Mo_setLimit) : ∀ (x4 : Int32) (x5 : Int32) (y1 : Int32) (μ : Mem) (H : Heap) (locs : List Loc) (ls : Array Slot), Wk G s μ H locs → lv_has ls 8 [(4, .int x4), (5, .int x5)] → M_Mo_setLimit_190 N x4 x5 y1 μ = some μ' → WA G rm_Mo_setLimit p l e s m args below meth c none μ' H locs 190 ls [.int y1, .ref (G.2.1 38)] := by
  obtain ⟨hx, hb, hr, hml, hown, hts, hlk, hK, hSt⟩ := id C
  intro x4 x5 y1 μ H locs ls hw hl h
  unfold M_Mo_setLimit_190 at h
  refine lv_iload hx hb d_Mo_setLimit_190 (lv_at hl 0 rfl) ?_
  refine lv_iload hx hb d_Mo_setLimit_192 (lv_at hl 1 rfl) ?_
  refine lv_imul hx hb d_Mo_setLimit_194 ?_
  obtain ⟨μ195, hm, h⟩ := bd h
  refine m_iastore hx hb hK hw hm d_Mo_setLimit_195 (fun H locs hw => ?_)
  exact m_vret hx hb hr hlk hw h d_Mo_setLimit_196
set_option maxRecDepth 100000 in
set_option maxHeartbeats 4000000 in
theorem w_Mo_setLimit_159 {μ' : Mem} {N : Nat} (C : CxA G p s m args meth c prog_9_method_17_code 8 none "RecipePlansModel" ws_Mo_setLimit) {K47 : Int32 → Int32 → Int32 → Int32 → Int32 → Mem → Option Mem} (hK47 : ∀ (x1 : Int32) (x2 : Int32) (x4 : Int32) (x5 : Int32) (x6 : Int32) (μ : Mem) (H : Heap) (locs : List Loc) (ls : Array Slot), Wk G s μ H locs → lv_has ls 8 [(0, .ref (G.2.1 7)), (1, .int x1), (2, .int x2), (4, .int x4), (5, .int x5), (6, .int x6)] → K47 x1 x2 x4 x5 x6 μ = some μ' → WA G rm_Mo_setLimit p l e s m args below meth c none μ' H locs 47 ls []) : ∀ (x1 : Int32) (x2 : Int32) (x4 : Int32) (x5 : Int32) (x6 : Int32) (y1 : Int32) (y2 : Int32) (μ : Mem) (H : Heap) (locs : List Loc) (ls : Array Slot), Wk G s μ H locs → lv_has ls 8 [(0, .ref (G.2.1 7)), (1, .int x1), (2, .int x2), (4, .int x4), (5, .int x5), (6, .int x6)] → M_Mo_setLimit_159 N K47 x1 x2 x4 x5 x6 y1 y2 μ = some μ' → WA G rm_Mo_setLimit p l e s m args below meth c none μ' H locs 159 ls [.int y2, .int y1, .ref (G.2.1 38)] := by
  obtain ⟨hx, hb, hr, hml, hown, hts, hlk, hK, hSt⟩ := id C
  intro x1 x2 x4 x5 x6 y1 y2 μ H locs ls hw hl h
  unfold M_Mo_setLimit_159 at h
  obtain ⟨μ159, hm, h⟩ := bd h
  refine m_iastore hx hb hK hw hm d_Mo_setLimit_159 (fun H locs hw => ?_)
  refine lv_iinc (v := x6 + 1) (lv' := [(6, .int (x6 + 1)), (0, .ref (G.2.1 7)), (1, .int x1), (2, .int x2), (4, .int x4), (5, .int x5)]) hx hb d_Mo_setLimit_160 hl (k := 5) rfl rfl (by decide) rfl (fun ls hl => ?_)
  refine lv_goto (tgt := 47) hx hb d_Mo_setLimit_163 (by decide) ?_
  exact hK47 x1 x2 x4 x5 (x6 + 1) μ159 _ _ _ hw (lv_sub hl [1, 2, 3, 4, 5, 0] rfl) h
set_option maxRecDepth 100000 in
set_option maxHeartbeats 4000000 in
theorem w_Mo_setLimit_131 {μ' : Mem} {N : Nat} (C : CxA G p s m args meth c prog_9_method_17_code 8 none "RecipePlansModel" ws_Mo_setLimit) {K47 : Int32 → Int32 → Int32 → Int32 → Int32 → Mem → Option Mem} (hK47 : ∀ (x1 : Int32) (x2 : Int32) (x4 : Int32) (x5 : Int32) (x6 : Int32) (μ : Mem) (H : Heap) (locs : List Loc) (ls : Array Slot), Wk G s μ H locs → lv_has ls 8 [(0, .ref (G.2.1 7)), (1, .int x1), (2, .int x2), (4, .int x4), (5, .int x5), (6, .int x6)] → K47 x1 x2 x4 x5 x6 μ = some μ' → WA G rm_Mo_setLimit p l e s m args below meth c none μ' H locs 47 ls []) : ∀ (x1 : Int32) (x2 : Int32) (x4 : Int32) (x5 : Int32) (x6 : Int32) (x7 : Int32) (μ : Mem) (H : Heap) (locs : List Loc) (ls : Array Slot), Wk G s μ H locs → lv_has ls 8 [(0, .ref (G.2.1 7)), (1, .int x1), (2, .int x2), (4, .int x4), (5, .int x5), (6, .int x6), (7, .int x7)] → M_Mo_setLimit_131 N K47 x1 x2 x4 x5 x6 x7 μ = some μ' → WA G rm_Mo_setLimit p l e s m args below meth c none μ' H locs 131 ls [] := by
  obtain ⟨hx, hb, hr, hml, hown, hts, hlk, hK, hSt⟩ := id C
  intro x1 x2 x4 x5 x6 x7 μ H locs ls hw hl h
  unfold M_Mo_setLimit_131 at h
  refine lv_aload_n hx hb d_Mo_setLimit_131 rfl (lv_at hl 0 rfl) ?_
  refine va_get (D := G.1) (ci := 7) (v := .ref (G.2.1 38)) (C := "RecipePlansModel") (T := T_Mo) (N := 24) hx hb hts (fun _ h9 => List.mem_cons_of_mem _ (inT_Mo _ h9)) hown hK hw.1 7 (WL_get (by decide)) rfl 18 (by decide) (hts _ (List.mem_cons_of_mem _ tw_471)) (fun _ h9 => h9) rfl d_Mo_setLimit_132 ?_
  refine lv_iconst (v := 5) hx hb d_Mo_setLimit_135 (by decide) ?_
  refine lv_iload_n hx hb d_Mo_setLimit_136 rfl (lv_at hl 1 rfl) ?_
  refine lv_imul hx hb d_Mo_setLimit_137 ?_
  refine lv_iload hx hb d_Mo_setLimit_138 (lv_at hl 5 rfl) ?_
  refine lv_iadd hx hb d_Mo_setLimit_140 ?_
  refine lv_iload hx hb d_Mo_setLimit_141 (lv_at hl 5 rfl) ?_
  refine lv_aload_n hx hb d_Mo_setLimit_143 rfl (lv_at hl 0 rfl) ?_
  refine va_get (D := G.1) (ci := 7) (v := .int (μ.1 7 0)) (C := "RecipePlansModel") (T := T_Mo) (N := 24) hx hb hts (fun _ h9 => List.mem_cons_of_mem _ (inT_Mo _ h9)) hown hK hw.1 7 (WL_get (by decide)) rfl 0 (by decide) (hts _ (List.mem_cons_of_mem _ tw_453)) (fun _ h9 => h9) rfl d_Mo_setLimit_144 ?_
  refine lv_icmp_ge (tgt := 158) hx hb d_Mo_setLimit_147 (by decide) (fun c147 => ?_) (fun c147 => ?_)
  · have h := ifp c147 h
    refine lv_iconst (v := 0) hx hb d_Mo_setLimit_158 (by decide) ?_
    exact w_Mo_setLimit_159 C hK47 x1 x2 x4 x5 x6 (((5 : Int32) * x1) + x6) (0 : Int32) μ _ _ _ hw (lv_sub hl [0, 1, 2, 3, 4, 5] rfl) h
  · have h := ifn c147 h
    refine lv_iload hx hb d_Mo_setLimit_150 (lv_at hl 3 rfl) ?_
    refine lv_iload hx hb d_Mo_setLimit_152 (lv_at hl 6 rfl) ?_
    refine lv_imul hx hb d_Mo_setLimit_154 ?_
    refine lv_goto (tgt := 159) hx hb d_Mo_setLimit_155 (by decide) ?_
    exact w_Mo_setLimit_159 C hK47 x1 x2 x4 x5 x6 (((5 : Int32) * x1) + x6) (x4 * x7) μ _ _ _ hw (lv_sub hl [0, 1, 2, 3, 4, 5] rfl) h
set_option maxRecDepth 100000 in
set_option maxHeartbeats 4000000 in
theorem w_Mo_setLimit_47 {μ' : Mem} {N : Nat} (C : CxA G p s m args meth c prog_9_method_17_code 8 none "RecipePlansModel" ws_Mo_setLimit) : ∀ (n : Nat) (x1 : Int32) (x2 : Int32) (x4 : Int32) (x5 : Int32) (x6 : Int32) (μ : Mem) (H : Heap) (locs : List Loc) (ls : Array Slot), Wk G s μ H locs → lv_has ls 8 [(0, .ref (G.2.1 7)), (1, .int x1), (2, .int x2), (4, .int x4), (5, .int x5), (6, .int x6)] → M_Mo_setLimit_47 N n x1 x2 x4 x5 x6 μ = some μ' → WA G rm_Mo_setLimit p l e s m args below meth c none μ' H locs 47 ls [] := by
  obtain ⟨hx, hb, hr, hml, hown, hts, hlk, hK, hSt⟩ := id C
  intro n
  induction n with
  | zero =>
    intro x1 x2 x4 x5 x6 μ H locs ls hw hl h
    rw [M_Mo_setLimit_47] at h
    cases h
  | succ n ih =>
    intro x1 x2 x4 x5 x6 μ H locs ls hw hl h
    rw [M_Mo_setLimit_47] at h
    refine lv_iload hx hb d_Mo_setLimit_47 (lv_at hl 5 rfl) ?_
    refine lv_iconst (v := 4) hx hb d_Mo_setLimit_49 (by decide) ?_
    refine lv_icmp_ge (tgt := 166) hx hb d_Mo_setLimit_50 (by decide) (fun c50 => ?_) (fun c50 => ?_)
    · have h := ifp c50 h
      refine lv_aload_n hx hb d_Mo_setLimit_166 rfl (lv_at hl 0 rfl) ?_
      refine va_get (D := G.1) (ci := 7) (v := .ref (G.2.1 38)) (C := "RecipePlansModel") (T := T_Mo) (N := 24) hx hb hts (fun _ h9 => List.mem_cons_of_mem _ (inT_Mo _ h9)) hown hK hw.1 7 (WL_get (by decide)) rfl 18 (by decide) (hts _ (List.mem_cons_of_mem _ tw_471)) (fun _ h9 => h9) rfl d_Mo_setLimit_167 ?_
      refine lv_iconst (v := 5) hx hb d_Mo_setLimit_170 (by decide) ?_
      refine lv_iload_n hx hb d_Mo_setLimit_171 rfl (lv_at hl 1 rfl) ?_
      refine lv_imul hx hb d_Mo_setLimit_172 ?_
      refine lv_iconst (v := 4) hx hb d_Mo_setLimit_173 (by decide) ?_
      refine lv_iadd hx hb d_Mo_setLimit_174 ?_
      refine lv_iload_n hx hb d_Mo_setLimit_175 rfl (lv_at hl 2 rfl) ?_
      refine lv_iconst (v := 5) hx hb d_Mo_setLimit_176 (by decide) ?_
      refine lv_icmp_lt (tgt := 190) hx hb d_Mo_setLimit_177 (by decide) (fun c177 => ?_) (fun c177 => ?_)
      · have h := ifp c177 h
        exact w_Mo_setLimit_190 C x4 x5 (((5 : Int32) * x1) + (4 : Int32)) μ _ _ _ hw (lv_sub hl [3, 4] rfl) h
      · have h := ifn c177 h
        refine lv_iload_n hx hb d_Mo_setLimit_180 rfl (lv_at hl 2 rfl) ?_
        refine lv_bipush (v := 7) hx hb d_Mo_setLimit_181 (by decide) ?_
        refine lv_icmp_ge (tgt := 190) hx hb d_Mo_setLimit_183 (by decide) (fun c183 => ?_) (fun c183 => ?_)
        · have h := ifp c183 h
          exact w_Mo_setLimit_190 C x4 x5 (((5 : Int32) * x1) + (4 : Int32)) μ _ _ _ hw (lv_sub hl [3, 4] rfl) h
        · have h := ifn c183 h
          refine lv_iconst (v := 0) hx hb d_Mo_setLimit_186 (by decide) ?_
          refine lv_goto (tgt := 195) hx hb d_Mo_setLimit_187 (by decide) ?_
          obtain ⟨μ195, hm, h⟩ := bd h
          refine m_iastore hx hb hK hw hm d_Mo_setLimit_195 (fun H locs hw => ?_)
          exact m_vret hx hb hr hlk hw h d_Mo_setLimit_196
    · have h := ifn c50 h
      refine lv_iload_n hx hb d_Mo_setLimit_53 rfl (lv_at hl 2 rfl) ?_
      refine lv_iconst (v := 5) hx hb d_Mo_setLimit_54 (by decide) ?_
      refine lv_icmp_ge (tgt := 74) hx hb d_Mo_setLimit_55 (by decide) (fun c55 => ?_) (fun c55 => ?_)
      · have h := ifp c55 h
        refine lv_iload_n hx hb d_Mo_setLimit_74 rfl (lv_at hl 2 rfl) ?_
        refine lv_bipush (v := 7) hx hb d_Mo_setLimit_75 (by decide) ?_
        refine lv_icmp_ge (tgt := 128) hx hb d_Mo_setLimit_77 (by decide) (fun c77 => ?_) (fun c77 => ?_)
        · have h := ifp c77 h
          refine lv_iconst (v := 1) hx hb d_Mo_setLimit_128 (by decide) ?_
          refine lv_istore (lv' := [(7, .int (1 : Int32)), (0, .ref (G.2.1 7)), (1, .int x1), (2, .int x2), (4, .int x4), (5, .int x5), (6, .int x6)]) hx hb d_Mo_setLimit_129 hl (by decide) rfl (fun ls hl => ?_)
          exact w_Mo_setLimit_131 C ih x1 x2 x4 x5 x6 (1 : Int32) μ _ _ _ hw (lv_sub hl [1, 2, 3, 4, 5, 6, 0] rfl) h
        · have h := ifn c77 h
          refine lv_aload_n hx hb d_Mo_setLimit_80 rfl (lv_at hl 0 rfl) ?_
          refine va_get (D := G.1) (ci := 7) (v := .ref (G.2.1 33)) (C := "RecipePlansModel") (T := T_Mo) (N := 24) hx hb hts (fun _ h9 => List.mem_cons_of_mem _ (inT_Mo _ h9)) hown hK hw.1 7 (WL_get (by decide)) rfl 7 (by decide) (hts _ (List.mem_cons_of_mem _ tw_460)) (fun _ h9 => h9) rfl d_Mo_setLimit_81 ?_
          refine lv_iload_n hx hb d_Mo_setLimit_84 rfl (lv_at hl 2 rfl) ?_
          obtain ⟨v85, hv, h⟩ := bd h
          refine m_iaload hx hb hK hw hv d_Mo_setLimit_85 ?_
          refine lv_aload_n hx hb d_Mo_setLimit_86 rfl (lv_at hl 0 rfl) ?_
          refine va_get (D := G.1) (ci := 7) (v := .ref (G.2.1 30)) (C := "RecipePlansModel") (T := T_Mo) (N := 24) hx hb hts (fun _ h9 => List.mem_cons_of_mem _ (inT_Mo _ h9)) hown hK hw.1 7 (WL_get (by decide)) rfl 3 (by decide) (hts _ (List.mem_cons_of_mem _ tw_456)) (fun _ h9 => h9) rfl d_Mo_setLimit_87 ?_
          refine lv_iconst (v := 5) hx hb d_Mo_setLimit_90 (by decide) ?_
          refine lv_iload hx hb d_Mo_setLimit_91 (lv_at hl 5 rfl) ?_
          refine lv_imul hx hb d_Mo_setLimit_93 ?_
          refine lv_aload_n hx hb d_Mo_setLimit_94 rfl (lv_at hl 0 rfl) ?_
          refine va_get (D := G.1) (ci := 7) (v := .ref (G.2.1 34)) (C := "RecipePlansModel") (T := T_Mo) (N := 24) hx hb hts (fun _ h9 => List.mem_cons_of_mem _ (inT_Mo _ h9)) hown hK hw.1 7 (WL_get (by decide)) rfl 8 (by decide) (hts _ (List.mem_cons_of_mem _ tw_461)) (fun _ h9 => h9) rfl d_Mo_setLimit_95 ?_
          refine lv_iload_n hx hb d_Mo_setLimit_98 rfl (lv_at hl 2 rfl) ?_
          obtain ⟨v99, hv, h⟩ := bd h
          refine m_iaload hx hb hK hw hv d_Mo_setLimit_99 ?_
          refine lv_iadd hx hb d_Mo_setLimit_100 ?_
          obtain ⟨v101, hv, h⟩ := bd h
          refine m_iaload hx hb hK hw hv d_Mo_setLimit_101 ?_
          refine lv_imul hx hb d_Mo_setLimit_102 ?_
          refine lv_iload hx hb d_Mo_setLimit_103 (lv_at hl 4 rfl) ?_
          refine lv_aload_n hx hb d_Mo_setLimit_105 rfl (lv_at hl 0 rfl) ?_
          refine va_get (D := G.1) (ci := 7) (v := .ref (G.2.1 30)) (C := "RecipePlansModel") (T := T_Mo) (N := 24) hx hb hts (fun _ h9 => List.mem_cons_of_mem _ (inT_Mo _ h9)) hown hK hw.1 7 (WL_get (by decide)) rfl 3 (by decide) (hts _ (List.mem_cons_of_mem _ tw_456)) (fun _ h9 => h9) rfl d_Mo_setLimit_106 ?_
          refine lv_iconst (v := 5) hx hb d_Mo_setLimit_109 (by decide) ?_
          refine lv_iload hx hb d_Mo_setLimit_110 (lv_at hl 5 rfl) ?_
          refine lv_imul hx hb d_Mo_setLimit_112 ?_
          refine lv_aload_n hx hb d_Mo_setLimit_113 rfl (lv_at hl 0 rfl) ?_
          refine va_get (D := G.1) (ci := 7) (v := .ref (G.2.1 35)) (C := "RecipePlansModel") (T := T_Mo) (N := 24) hx hb hts (fun _ h9 => List.mem_cons_of_mem _ (inT_Mo _ h9)) hown hK hw.1 7 (WL_get (by decide)) rfl 9 (by decide) (hts _ (List.mem_cons_of_mem _ tw_462)) (fun _ h9 => h9) rfl d_Mo_setLimit_114 ?_
          refine lv_iload_n hx hb d_Mo_setLimit_117 rfl (lv_at hl 2 rfl) ?_
          obtain ⟨v118, hv, h⟩ := bd h
          refine m_iaload hx hb hK hw hv d_Mo_setLimit_118 ?_
          refine lv_iadd hx hb d_Mo_setLimit_119 ?_
          obtain ⟨v120, hv, h⟩ := bd h
          refine m_iaload hx hb hK hw hv d_Mo_setLimit_120 ?_
          refine lv_imul hx hb d_Mo_setLimit_121 ?_
          refine lv_isub hx hb d_Mo_setLimit_122 ?_
          obtain ⟨x7_123, ex7_123, h⟩ := nmx h
          refine m_eqi ex7_123 ?_
          refine lv_istore (lv' := [(7, .int x7_123), (0, .ref (G.2.1 7)), (1, .int x1), (2, .int x2), (4, .int x4), (5, .int x5), (6, .int x6)]) hx hb d_Mo_setLimit_123 hl (by decide) rfl (fun ls hl => ?_)
          refine lv_goto (tgt := 131) hx hb d_Mo_setLimit_125 (by decide) ?_
          exact w_Mo_setLimit_131 C ih x1 x2 x4 x5 x6 x7_123 μ _ _ _ hw (lv_sub hl [1, 2, 3, 4, 5, 6, 0] rfl) h
      · have h := ifn c55 h
        refine lv_aload_n hx hb d_Mo_setLimit_58 rfl (lv_at hl 0 rfl) ?_
        refine va_get (D := G.1) (ci := 7) (v := .ref (G.2.1 30)) (C := "RecipePlansModel") (T := T_Mo) (N := 24) hx hb hts (fun _ h9 => List.mem_cons_of_mem _ (inT_Mo _ h9)) hown hK hw.1 7 (WL_get (by decide)) rfl 3 (by decide) (hts _ (List.mem_cons_of_mem _ tw_456)) (fun _ h9 => h9) rfl d_Mo_setLimit_59 ?_
        refine lv_iconst (v := 5) hx hb d_Mo_setLimit_62 (by decide) ?_
        refine lv_iload hx hb d_Mo_setLimit_63 (lv_at hl 5 rfl) ?_
        refine lv_imul hx hb d_Mo_setLimit_65 ?_
        refine lv_iload_n hx hb d_Mo_setLimit_66 rfl (lv_at hl 2 rfl) ?_
        refine lv_iadd hx hb d_Mo_setLimit_67 ?_
        obtain ⟨v68, hv, h⟩ := bd h
        refine m_iaload hx hb hK hw hv d_Mo_setLimit_68 ?_
        refine lv_istore (lv' := [(7, .int v68), (0, .ref (G.2.1 7)), (1, .int x1), (2, .int x2), (4, .int x4), (5, .int x5), (6, .int x6)]) hx hb d_Mo_setLimit_69 hl (by decide) rfl (fun ls hl => ?_)
        refine lv_goto (tgt := 131) hx hb d_Mo_setLimit_71 (by decide) ?_
        exact w_Mo_setLimit_131 C ih x1 x2 x4 x5 x6 v68 μ _ _ _ hw (lv_sub hl [1, 2, 3, 4, 5, 6, 0] rfl) h
set_option maxRecDepth 100000 in
set_option maxHeartbeats 4000000 in
theorem w_Mo_setLimit_30 {μ' : Mem} {N : Nat} (C : CxA G p s m args meth c prog_9_method_17_code 8 none "RecipePlansModel" ws_Mo_setLimit) : ∀ (x1 : Int32) (x2 : Int32) (x4 : Int32) (y0 : Int32) (μ : Mem) (H : Heap) (locs : List Loc) (ls : Array Slot), Wk G s μ H locs → lv_has ls 8 [(0, .ref (G.2.1 7)), (1, .int x1), (2, .int x2), (4, .int x4)] → M_Mo_setLimit_30 N x1 x2 x4 y0 μ = some μ' → WA G rm_Mo_setLimit p l e s m args below meth c none μ' H locs 30 ls [.int y0] := by
  obtain ⟨hx, hb, hr, hml, hown, hts, hlk, hK, hSt⟩ := id C
  intro x1 x2 x4 y0 μ H locs ls hw hl h
  unfold M_Mo_setLimit_30 at h
  refine lv_istore (lv' := [(5, .int y0), (0, .ref (G.2.1 7)), (1, .int x1), (2, .int x2), (4, .int x4)]) hx hb d_Mo_setLimit_30 hl (by decide) rfl (fun ls hl => ?_)
  refine lv_aload_n hx hb d_Mo_setLimit_32 rfl (lv_at hl 1 rfl) ?_
  refine va_get (D := G.1) (ci := 7) (v := .ref (G.2.1 15)) (C := "RecipePlansModel") (T := T_Mo) (N := 24) hx hb hts (fun _ h9 => List.mem_cons_of_mem _ (inT_Mo _ h9)) hown hK hw.1 7 (WL_get (by decide)) rfl 19 (by decide) (hts _ (List.mem_cons_of_mem _ tw_472)) (fun _ h9 => h9) rfl d_Mo_setLimit_33 ?_
  refine lv_iload_n hx hb d_Mo_setLimit_36 rfl (lv_at hl 2 rfl) ?_
  refine lv_aload_n hx hb d_Mo_setLimit_37 rfl (lv_at hl 1 rfl) ?_
  refine va_get (D := G.1) (ci := 7) (v := .ref (G.2.1 14)) (C := "RecipePlansModel") (T := T_Mo) (N := 24) hx hb hts (fun _ h9 => List.mem_cons_of_mem _ (inT_Mo _ h9)) hown hK hw.1 7 (WL_get (by decide)) rfl 4 (by decide) (hts _ (List.mem_cons_of_mem _ tw_457)) (fun _ h9 => h9) rfl d_Mo_setLimit_38 ?_
  refine lv_iload_n hx hb d_Mo_setLimit_41 rfl (lv_at hl 3 rfl) ?_
  obtain ⟨v42, hv, h⟩ := bd h
  refine m_baload hx hb hK hw hv d_Mo_setLimit_42 ?_
  obtain ⟨μ43, hm, h⟩ := bd h
  refine m_bastore hx hb hK hw hm d_Mo_setLimit_43 (fun H locs hw => ?_)
  refine lv_iconst (v := 0) hx hb d_Mo_setLimit_44 (by decide) ?_
  refine lv_istore (lv' := [(6, .int (0 : Int32)), (5, .int y0), (0, .ref (G.2.1 7)), (1, .int x1), (2, .int x2), (4, .int x4)]) hx hb d_Mo_setLimit_45 hl (by decide) rfl (fun ls hl => ?_)
  exact w_Mo_setLimit_47 C N x1 x2 x4 y0 (0 : Int32) μ43 _ _ _ hw (lv_sub hl [2, 3, 4, 5, 1, 0] rfl) h
set_option maxRecDepth 100000 in
set_option maxHeartbeats 4000000 in
theorem w_Mo_setLimit_9 {μ' : Mem} {N : Nat} (C : CxA G p s m args meth c prog_9_method_17_code 8 none "RecipePlansModel" ws_Mo_setLimit) : ∀ (x1 : Int32) (x2 : Int32) (x3 : Int32) (y0 : Int32) (μ : Mem) (H : Heap) (locs : List Loc) (ls : Array Slot), Wk G s μ H locs → lv_has ls 8 [(0, .ref (G.2.1 7)), (1, .int x1), (2, .int x2), (3, .int x3)] → M_Mo_setLimit_9 N x1 x2 x3 y0 μ = some μ' → WA G rm_Mo_setLimit p l e s m args below meth c none μ' H locs 9 ls [.int y0] := by
  obtain ⟨hx, hb, hr, hml, hown, hts, hlk, hK, hSt⟩ := id C
  intro x1 x2 x3 y0 μ H locs ls hw hl h
  unfold M_Mo_setLimit_9 at h
  refine lv_istore (lv' := [(4, .int y0), (0, .ref (G.2.1 7)), (1, .int x1), (2, .int x2), (3, .int x3)]) hx hb d_Mo_setLimit_9 hl (by decide) rfl (fun ls hl => ?_)
  refine lv_iload_n hx hb d_Mo_setLimit_11 rfl (lv_at hl 4 rfl) ?_
  refine lv_if_eq (tgt := 24) hx hb d_Mo_setLimit_12 (by decide) (fun c12 => ?_) (fun c12 => ?_)
  · have h := ifp c12 h
    refine lv_aload_n hx hb d_Mo_setLimit_24 rfl (lv_at hl 1 rfl) ?_
    refine va_get (D := G.1) (ci := 7) (v := .ref (G.2.1 31)) (C := "RecipePlansModel") (T := T_Mo) (N := 24) hx hb hts (fun _ h9 => List.mem_cons_of_mem _ (inT_Mo _ h9)) hown hK hw.1 7 (WL_get (by decide)) rfl 5 (by decide) (hts _ (List.mem_cons_of_mem _ tw_458)) (fun _ h9 => h9) rfl d_Mo_setLimit_25 ?_
    refine lv_iload_n hx hb d_Mo_setLimit_28 rfl (lv_at hl 3 rfl) ?_
    obtain ⟨v29, hv, h⟩ := bd h
    refine m_iaload hx hb hK hw hv d_Mo_setLimit_29 ?_
    exact w_Mo_setLimit_30 C x1 x2 y0 v29 μ _ _ _ hw (lv_sub hl [1, 2, 3, 0] rfl) h
  · have h := ifn c12 h
    refine lv_aload_n hx hb d_Mo_setLimit_15 rfl (lv_at hl 1 rfl) ?_
    refine va_get (D := G.1) (ci := 7) (v := .ref (G.2.1 32)) (C := "RecipePlansModel") (T := T_Mo) (N := 24) hx hb hts (fun _ h9 => List.mem_cons_of_mem _ (inT_Mo _ h9)) hown hK hw.1 7 (WL_get (by decide)) rfl 6 (by decide) (hts _ (List.mem_cons_of_mem _ tw_459)) (fun _ h9 => h9) rfl d_Mo_setLimit_16 ?_
    refine lv_iload_n hx hb d_Mo_setLimit_19 rfl (lv_at hl 3 rfl) ?_
    obtain ⟨v20, hv, h⟩ := bd h
    refine m_iaload hx hb hK hw hv d_Mo_setLimit_20 ?_
    refine lv_goto (tgt := 30) hx hb d_Mo_setLimit_21 (by decide) ?_
    exact w_Mo_setLimit_30 C x1 x2 y0 v20 μ _ _ _ hw (lv_sub hl [1, 2, 3, 0] rfl) h
set_option maxRecDepth 100000 in
set_option maxHeartbeats 4000000 in
theorem c_Mo_setLimit (l : Launch) (G : Gw) (N : Nat) (x1 : Int32) (x2 : Int32) (x3 : Int32) (μ : Mem) {μ' : Mem} (h : M_Mo_setLimit N x1 x2 x3 μ = some μ') : CT l y_Mo_setLimit ws_Mo_setLimit rm_Mo_setLimit [.ref (G.2.1 7), .int x1, .int x2, .int x3] G μ none μ' := by
  refine m_met (cc := prog_9_method_17_code) (maxL := 8) (ret := none) (by decide) rfl (Nat.le_of_ble_eq_true rfl) ?_
  intro p e s m args below meth c ls C hw hl
  obtain ⟨hx, hb, hr, hml, hown, hts, hlk, hK, hSt⟩ := id C
  have hl : lv_has ls 8 [(0, .ref (G.2.1 7)), (1, .int x1), (2, .int x2), (3, .int x3)] := hl
  unfold M_Mo_setLimit at h
  refine lv_iload_n hx hb d_Mo_setLimit_0 rfl (lv_at hl 3 rfl) ?_
  refine lv_if_eq (tgt := 8) hx hb d_Mo_setLimit_1 (by decide) (fun c1 => ?_) (fun c1 => ?_)
  · have h := ifp c1 h
    refine lv_iconst (v := 1) hx hb d_Mo_setLimit_8 (by decide) ?_
    exact w_Mo_setLimit_9 C x1 x2 x3 (1 : Int32) μ _ _ _ hw hl h
  · have h := ifn c1 h
    refine lv_iconst (v := -1) hx hb d_Mo_setLimit_4 (by decide) ?_
    refine lv_goto (tgt := 9) hx hb d_Mo_setLimit_5 (by decide) ?_
    exact w_Mo_setLimit_9 C x1 x2 x3 (-1 : Int32) μ _ _ _ hw hl h
set_option maxRecDepth 100000 in
set_option maxHeartbeats 4000000 in
theorem w_Mo_setLimits_153 {μ' : Mem} {N : Nat} (C : CxA G p s m args meth c prog_9_method_18_code 5 none "RecipePlansModel" ws_Mo_setLimits) {K36 : Int32 → Mem → Option Mem} (hK36 : ∀ (x1 : Int32) (μ : Mem) (H : Heap) (locs : List Loc) (ls : Array Slot), Wk G s μ H locs → lv_has ls 5 [(0, .ref (G.2.1 7)), (1, .int x1)] → K36 x1 μ = some μ' → WA G rm_Mo_setLimits p l e s m args below meth c none μ' H locs 36 ls []) {K43 : Int32 → Int32 → Mem → Option Mem} (hK43 : ∀ (x1 : Int32) (x2 : Int32) (μ : Mem) (H : Heap) (locs : List Loc) (ls : Array Slot), Wk G s μ H locs → lv_has ls 5 [(0, .ref (G.2.1 7)), (1, .int x1), (2, .int x2)] → K43 x1 x2 μ = some μ' → WA G rm_Mo_setLimits p l e s m args below meth c none μ' H locs 43 ls []) : ∀ (x1 : Int32) (x2 : Int32) (y1 : Int32) (y2 : Int32) (μ : Mem) (H : Heap) (locs : List Loc) (ls : Array Slot), Wk G s μ H locs → lv_has ls 5 [(0, .ref (G.2.1 7)), (1, .int x1), (2, .int x2)] → M_Mo_setLimits_153 N K36 K43 x1 x2 y1 y2 μ = some μ' → WA G rm_Mo_setLimits p l e s m args below meth c none μ' H locs 153 ls [.int y2, .int y1, .ref (G.2.1 38)] := by
  obtain ⟨hx, hb, hr, hml, hown, hts, hlk, hK, hSt⟩ := id C
  intro x1 x2 y1 y2 μ H locs ls hw hl h
  unfold M_Mo_setLimits_153 at h
  obtain ⟨μ153, hm, h⟩ := bd h
  refine m_iastore hx hb hK hw hm d_Mo_setLimits_153 (fun H locs hw => ?_)
  refine lv_iinc (v := x2 + 1) (lv' := [(2, .int (x2 + 1)), (0, .ref (G.2.1 7)), (1, .int x1)]) hx hb d_Mo_setLimits_154 hl (k := 2) rfl rfl (by decide) rfl (fun ls hl => ?_)
  refine lv_goto (tgt := 43) hx hb d_Mo_setLimits_157 (by decide) ?_
  exact hK43 x1 (x2 + 1) μ153 _ _ _ hw (lv_sub hl [1, 2, 0] rfl) h
set_option maxRecDepth 100000 in
set_option maxHeartbeats 4000000 in
theorem w_Mo_setLimits_142 {μ' : Mem} {N : Nat} (C : CxA G p s m args meth c prog_9_method_18_code 5 none "RecipePlansModel" ws_Mo_setLimits) {K36 : Int32 → Mem → Option Mem} (hK36 : ∀ (x1 : Int32) (μ : Mem) (H : Heap) (locs : List Loc) (ls : Array Slot), Wk G s μ H locs → lv_has ls 5 [(0, .ref (G.2.1 7)), (1, .int x1)] → K36 x1 μ = some μ' → WA G rm_Mo_setLimits p l e s m args below meth c none μ' H locs 36 ls []) {K43 : Int32 → Int32 → Mem → Option Mem} (hK43 : ∀ (x1 : Int32) (x2 : Int32) (μ : Mem) (H : Heap) (locs : List Loc) (ls : Array Slot), Wk G s μ H locs → lv_has ls 5 [(0, .ref (G.2.1 7)), (1, .int x1), (2, .int x2)] → K43 x1 x2 μ = some μ' → WA G rm_Mo_setLimits p l e s m args below meth c none μ' H locs 43 ls []) : ∀ (x1 : Int32) (x2 : Int32) (y1 : Int32) (μ : Mem) (H : Heap) (locs : List Loc) (ls : Array Slot), Wk G s μ H locs → lv_has ls 5 [(0, .ref (G.2.1 7)), (1, .int x1), (2, .int x2)] → M_Mo_setLimits_142 N K36 K43 x1 x2 y1 μ = some μ' → WA G rm_Mo_setLimits p l e s m args below meth c none μ' H locs 142 ls [.int y1, .ref (G.2.1 38)] := by
  obtain ⟨hx, hb, hr, hml, hown, hts, hlk, hK, hSt⟩ := id C
  intro x1 x2 y1 μ H locs ls hw hl h
  unfold M_Mo_setLimits_142 at h
  refine lv_iconst (v := 0) hx hb d_Mo_setLimits_142 (by decide) ?_
  refine lv_goto (tgt := 153) hx hb d_Mo_setLimits_143 (by decide) ?_
  exact w_Mo_setLimits_153 C hK36 hK43 x1 x2 y1 (0 : Int32) μ _ _ _ hw hl h
set_option maxRecDepth 100000 in
set_option maxHeartbeats 4000000 in
theorem w_Mo_setLimits_114 {μ' : Mem} {N : Nat} (C : CxA G p s m args meth c prog_9_method_18_code 5 none "RecipePlansModel" ws_Mo_setLimits) {K36 : Int32 → Mem → Option Mem} (hK36 : ∀ (x1 : Int32) (μ : Mem) (H : Heap) (locs : List Loc) (ls : Array Slot), Wk G s μ H locs → lv_has ls 5 [(0, .ref (G.2.1 7)), (1, .int x1)] → K36 x1 μ = some μ' → WA G rm_Mo_setLimits p l e s m args below meth c none μ' H locs 36 ls []) {K43 : Int32 → Int32 → Mem → Option Mem} (hK43 : ∀ (x1 : Int32) (x2 : Int32) (μ : Mem) (H : Heap) (locs : List Loc) (ls : Array Slot), Wk G s μ H locs → lv_has ls 5 [(0, .ref (G.2.1 7)), (1, .int x1), (2, .int x2)] → K43 x1 x2 μ = some μ' → WA G rm_Mo_setLimits p l e s m args below meth c none μ' H locs 43 ls []) {K83 : Int32 → Int32 → Int32 → Int32 → Mem → Option Mem} (hK83 : ∀ (x1 : Int32) (x2 : Int32) (x3 : Int32) (x4 : Int32) (μ : Mem) (H : Heap) (locs : List Loc) (ls : Array Slot), Wk G s μ H locs → lv_has ls 5 [(0, .ref (G.2.1 7)), (1, .int x1), (2, .int x2), (3, .int x3), (4, .int x4)] → K83 x1 x2 x3 x4 μ = some μ' → WA G rm_Mo_setLimits p l e s m args below meth c none μ' H locs 83 ls []) : ∀ (x1 : Int32) (x2 : Int32) (x3 : Int32) (x4 : Int32) (y1 : Int32) (y2 : Int32) (μ : Mem) (H : Heap) (locs : List Loc) (ls : Array Slot), Wk G s μ H locs → lv_has ls 5 [(0, .ref (G.2.1 7)), (1, .int x1), (2, .int x2), (3, .int x3), (4, .int x4)] → M_Mo_setLimits_114 N K36 K43 K83 x1 x2 x3 x4 y1 y2 μ = some μ' → WA G rm_Mo_setLimits p l e s m args below meth c none μ' H locs 114 ls [.int y2, .int y1, .ref (G.2.1 38)] := by
  obtain ⟨hx, hb, hr, hml, hown, hts, hlk, hK, hSt⟩ := id C
  intro x1 x2 x3 x4 y1 y2 μ H locs ls hw hl h
  unfold M_Mo_setLimits_114 at h
  obtain ⟨μ114, hm, h⟩ := bd h
  refine m_iastore hx hb hK hw hm d_Mo_setLimits_114 (fun H locs hw => ?_)
  refine lv_iinc (v := x4 + 1) (lv' := [(4, .int (x4 + 1)), (0, .ref (G.2.1 7)), (1, .int x1), (2, .int x2), (3, .int x3)]) hx hb d_Mo_setLimits_115 hl (k := 4) rfl rfl (by decide) rfl (fun ls hl => ?_)
  refine lv_goto (tgt := 83) hx hb d_Mo_setLimits_118 (by decide) ?_
  exact hK83 x1 x2 x3 (x4 + 1) μ114 _ _ _ hw (lv_sub hl [1, 2, 3, 4, 0] rfl) h
set_option maxRecDepth 100000 in
set_option maxHeartbeats 4000000 in
theorem w_Mo_setLimits_83 {μ' : Mem} {N : Nat} (C : CxA G p s m args meth c prog_9_method_18_code 5 none "RecipePlansModel" ws_Mo_setLimits) {K36 : Int32 → Mem → Option Mem} (hK36 : ∀ (x1 : Int32) (μ : Mem) (H : Heap) (locs : List Loc) (ls : Array Slot), Wk G s μ H locs → lv_has ls 5 [(0, .ref (G.2.1 7)), (1, .int x1)] → K36 x1 μ = some μ' → WA G rm_Mo_setLimits p l e s m args below meth c none μ' H locs 36 ls []) {K43 : Int32 → Int32 → Mem → Option Mem} (hK43 : ∀ (x1 : Int32) (x2 : Int32) (μ : Mem) (H : Heap) (locs : List Loc) (ls : Array Slot), Wk G s μ H locs → lv_has ls 5 [(0, .ref (G.2.1 7)), (1, .int x1), (2, .int x2)] → K43 x1 x2 μ = some μ' → WA G rm_Mo_setLimits p l e s m args below meth c none μ' H locs 43 ls []) : ∀ (n : Nat) (x1 : Int32) (x2 : Int32) (x3 : Int32) (x4 : Int32) (μ : Mem) (H : Heap) (locs : List Loc) (ls : Array Slot), Wk G s μ H locs → lv_has ls 5 [(0, .ref (G.2.1 7)), (1, .int x1), (2, .int x2), (3, .int x3), (4, .int x4)] → M_Mo_setLimits_83 N K36 K43 n x1 x2 x3 x4 μ = some μ' → WA G rm_Mo_setLimits p l e s m args below meth c none μ' H locs 83 ls [] := by
  obtain ⟨hx, hb, hr, hml, hown, hts, hlk, hK, hSt⟩ := id C
  intro n
  induction n with
  | zero =>
    intro x1 x2 x3 x4 μ H locs ls hw hl h
    rw [M_Mo_setLimits_83] at h
    cases h
  | succ n ih =>
    intro x1 x2 x3 x4 μ H locs ls hw hl h
    rw [M_Mo_setLimits_83] at h
    refine lv_iload hx hb d_Mo_setLimits_83 (lv_at hl 4 rfl) ?_
    refine lv_iconst (v := 4) hx hb d_Mo_setLimits_85 (by decide) ?_
    refine lv_icmp_ge (tgt := 121) hx hb d_Mo_setLimits_86 (by decide) (fun c86 => ?_) (fun c86 => ?_)
    · have h := ifp c86 h
      refine lv_aload_n hx hb d_Mo_setLimits_121 rfl (lv_at hl 0 rfl) ?_
      refine va_get (D := G.1) (ci := 7) (v := .ref (G.2.1 38)) (C := "RecipePlansModel") (T := T_Mo) (N := 24) hx hb hts (fun _ h9 => List.mem_cons_of_mem _ (inT_Mo _ h9)) hown hK hw.1 7 (WL_get (by decide)) rfl 18 (by decide) (hts _ (List.mem_cons_of_mem _ tw_471)) (fun _ h9 => h9) rfl d_Mo_setLimits_122 ?_
      refine lv_iconst (v := 5) hx hb d_Mo_setLimits_125 (by decide) ?_
      refine lv_iload_n hx hb d_Mo_setLimits_126 rfl (lv_at hl 3 rfl) ?_
      refine lv_imul hx hb d_Mo_setLimits_127 ?_
      refine lv_iconst (v := 4) hx hb d_Mo_setLimits_128 (by decide) ?_
      refine lv_iadd hx hb d_Mo_setLimits_129 ?_
      refine lv_iload_n hx hb d_Mo_setLimits_130 rfl (lv_at hl 2 rfl) ?_
      refine lv_if_eq (tgt := 142) hx hb d_Mo_setLimits_131 (by decide) (fun c131 => ?_) (fun c131 => ?_)
      · have h := ifp c131 h
        exact w_Mo_setLimits_142 C hK36 hK43 x1 x2 (((5 : Int32) * x3) + (4 : Int32)) μ _ _ _ hw (lv_sub hl [0, 1, 2] rfl) h
      · have h := ifn c131 h
        refine lv_iload_n hx hb d_Mo_setLimits_134 rfl (lv_at hl 1 rfl) ?_
        refine lv_aload_n hx hb d_Mo_setLimits_135 rfl (lv_at hl 0 rfl) ?_
        refine va_get (D := G.1) (ci := 7) (v := .int (μ.1 7 0)) (C := "RecipePlansModel") (T := T_Mo) (N := 24) hx hb hts (fun _ h9 => List.mem_cons_of_mem _ (inT_Mo _ h9)) hown hK hw.1 7 (WL_get (by decide)) rfl 0 (by decide) (hts _ (List.mem_cons_of_mem _ tw_453)) (fun _ h9 => h9) rfl d_Mo_setLimits_136 ?_
        refine lv_icmp_lt (tgt := 146) hx hb d_Mo_setLimits_139 (by decide) (fun c139 => ?_) (fun c139 => ?_)
        · have h := ifp c139 h
          refine lv_aload_n hx hb d_Mo_setLimits_146 rfl (lv_at hl 0 rfl) ?_
          refine va_get (D := G.1) (ci := 7) (v := .ref (G.2.1 28)) (C := "RecipePlansModel") (T := T_Mo) (N := 24) hx hb hts (fun _ h9 => List.mem_cons_of_mem _ (inT_Mo _ h9)) hown hK hw.1 7 (WL_get (by decide)) rfl 1 (by decide) (hts _ (List.mem_cons_of_mem _ tw_454)) (fun _ h9 => h9) rfl d_Mo_setLimits_147 ?_
          refine lv_iload_n hx hb d_Mo_setLimits_150 rfl (lv_at hl 1 rfl) ?_
          obtain ⟨v151, hv, h⟩ := bd h
          refine m_iaload hx hb hK hw hv d_Mo_setLimits_151 ?_
          refine lv_ineg hx hb d_Mo_setLimits_152 ?_
          exact w_Mo_setLimits_153 C hK36 hK43 x1 x2 (((5 : Int32) * x3) + (4 : Int32)) (-v151) μ _ _ _ hw (lv_sub hl [0, 1, 2] rfl) h
        · have h := ifn c139 h
          exact w_Mo_setLimits_142 C hK36 hK43 x1 x2 (((5 : Int32) * x3) + (4 : Int32)) μ _ _ _ hw (lv_sub hl [0, 1, 2] rfl) h
    · have h := ifn c86 h
      refine lv_aload_n hx hb d_Mo_setLimits_89 rfl (lv_at hl 0 rfl) ?_
      refine va_get (D := G.1) (ci := 7) (v := .ref (G.2.1 38)) (C := "RecipePlansModel") (T := T_Mo) (N := 24) hx hb hts (fun _ h9 => List.mem_cons_of_mem _ (inT_Mo _ h9)) hown hK hw.1 7 (WL_get (by decide)) rfl 18 (by decide) (hts _ (List.mem_cons_of_mem _ tw_471)) (fun _ h9 => h9) rfl d_Mo_setLimits_90 ?_
      refine lv_iconst (v := 5) hx hb d_Mo_setLimits_93 (by decide) ?_
      refine lv_iload_n hx hb d_Mo_setLimits_94 rfl (lv_at hl 3 rfl) ?_
      refine lv_imul hx hb d_Mo_setLimits_95 ?_
      refine lv_iload hx hb d_Mo_setLimits_96 (lv_at hl 4 rfl) ?_
      refine lv_iadd hx hb d_Mo_setLimits_98 ?_
      refine lv_iload hx hb d_Mo_setLimits_99 (lv_at hl 4 rfl) ?_
      refine lv_iload_n hx hb d_Mo_setLimits_101 rfl (lv_at hl 1 rfl) ?_
      refine lv_icmp_ne (tgt := 113) hx hb d_Mo_setLimits_102 (by decide) (fun c102 => ?_) (fun c102 => ?_)
      · have h := ifn c102 h
        refine lv_iconst (v := 0) hx hb d_Mo_setLimits_113 (by decide) ?_
        exact w_Mo_setLimits_114 C hK36 hK43 ih x1 x2 x3 x4 (((5 : Int32) * x3) + x4) (0 : Int32) μ _ _ _ hw hl h
      · have h := ifp c102 h
        refine lv_iconst (v := 1) hx hb d_Mo_setLimits_105 (by decide) ?_
        refine lv_iconst (v := 2) hx hb d_Mo_setLimits_106 (by decide) ?_
        refine lv_iload_n hx hb d_Mo_setLimits_107 rfl (lv_at hl 2 rfl) ?_
        refine lv_imul hx hb d_Mo_setLimits_108 ?_
        refine lv_isub hx hb d_Mo_setLimits_109 ?_
        refine lv_goto (tgt := 114) hx hb d_Mo_setLimits_110 (by decide) ?_
        exact w_Mo_setLimits_114 C hK36 hK43 ih x1 x2 x3 x4 (((5 : Int32) * x3) + x4) ((1 : Int32) - ((2 : Int32) * x2)) μ _ _ _ hw hl h
set_option maxRecDepth 100000 in
set_option maxHeartbeats 4000000 in
theorem w_Mo_setLimits_79 {μ' : Mem} {N : Nat} (C : CxA G p s m args meth c prog_9_method_18_code 5 none "RecipePlansModel" ws_Mo_setLimits) {K36 : Int32 → Mem → Option Mem} (hK36 : ∀ (x1 : Int32) (μ : Mem) (H : Heap) (locs : List Loc) (ls : Array Slot), Wk G s μ H locs → lv_has ls 5 [(0, .ref (G.2.1 7)), (1, .int x1)] → K36 x1 μ = some μ' → WA G rm_Mo_setLimits p l e s m args below meth c none μ' H locs 36 ls []) {K43 : Int32 → Int32 → Mem → Option Mem} (hK43 : ∀ (x1 : Int32) (x2 : Int32) (μ : Mem) (H : Heap) (locs : List Loc) (ls : Array Slot), Wk G s μ H locs → lv_has ls 5 [(0, .ref (G.2.1 7)), (1, .int x1), (2, .int x2)] → K43 x1 x2 μ = some μ' → WA G rm_Mo_setLimits p l e s m args below meth c none μ' H locs 43 ls []) : ∀ (x1 : Int32) (x2 : Int32) (x3 : Int32) (y1 : Int32) (y2 : Int32) (μ : Mem) (H : Heap) (locs : List Loc) (ls : Array Slot), Wk G s μ H locs → lv_has ls 5 [(0, .ref (G.2.1 7)), (1, .int x1), (2, .int x2), (3, .int x3)] → M_Mo_setLimits_79 N K36 K43 x1 x2 x3 y1 y2 μ = some μ' → WA G rm_Mo_setLimits p l e s m args below meth c none μ' H locs 79 ls [.int y2, .int y1, .ref (G.2.1 15)] := by
  obtain ⟨hx, hb, hr, hml, hown, hts, hlk, hK, hSt⟩ := id C
  intro x1 x2 x3 y1 y2 μ H locs ls hw hl h
  unfold M_Mo_setLimits_79 at h
  obtain ⟨μ79, hm, h⟩ := bd h
  refine m_bastore hx hb hK hw hm d_Mo_setLimits_79 (fun H locs hw => ?_)
  refine lv_iconst (v := 0) hx hb d_Mo_setLimits_80 (by decide) ?_
  refine lv_istore (lv' := [(4, .int (0 : Int32)), (0, .ref (G.2.1 7)), (1, .int x1), (2, .int x2), (3, .int x3)]) hx hb d_Mo_setLimits_81 hl (by decide) rfl (fun ls hl => ?_)
  exact w_Mo_setLimits_83 C hK36 hK43 N x1 x2 x3 (0 : Int32) μ79 _ _ _ hw (lv_sub hl [1, 2, 3, 4, 0] rfl) h
set_option maxRecDepth 100000 in
set_option maxHeartbeats 4000000 in
theorem w_Mo_setLimits_74 {μ' : Mem} {N : Nat} (C : CxA G p s m args meth c prog_9_method_18_code 5 none "RecipePlansModel" ws_Mo_setLimits) {K36 : Int32 → Mem → Option Mem} (hK36 : ∀ (x1 : Int32) (μ : Mem) (H : Heap) (locs : List Loc) (ls : Array Slot), Wk G s μ H locs → lv_has ls 5 [(0, .ref (G.2.1 7)), (1, .int x1)] → K36 x1 μ = some μ' → WA G rm_Mo_setLimits p l e s m args below meth c none μ' H locs 36 ls []) {K43 : Int32 → Int32 → Mem → Option Mem} (hK43 : ∀ (x1 : Int32) (x2 : Int32) (μ : Mem) (H : Heap) (locs : List Loc) (ls : Array Slot), Wk G s μ H locs → lv_has ls 5 [(0, .ref (G.2.1 7)), (1, .int x1), (2, .int x2)] → K43 x1 x2 μ = some μ' → WA G rm_Mo_setLimits p l e s m args below meth c none μ' H locs 43 ls []) : ∀ (x1 : Int32) (x2 : Int32) (x3 : Int32) (y1 : Int32) (μ : Mem) (H : Heap) (locs : List Loc) (ls : Array Slot), Wk G s μ H locs → lv_has ls 5 [(0, .ref (G.2.1 7)), (1, .int x1), (2, .int x2), (3, .int x3)] → M_Mo_setLimits_74 N K36 K43 x1 x2 x3 y1 μ = some μ' → WA G rm_Mo_setLimits p l e s m args below meth c none μ' H locs 74 ls [.int y1, .ref (G.2.1 15)] := by
  obtain ⟨hx, hb, hr, hml, hown, hts, hlk, hK, hSt⟩ := id C
  intro x1 x2 x3 y1 μ H locs ls hw hl h
  unfold M_Mo_setLimits_74 at h
  refine lv_iconst (v := 1) hx hb d_Mo_setLimits_74 (by decide) ?_
  refine lv_goto (tgt := 79) hx hb d_Mo_setLimits_75 (by decide) ?_
  exact w_Mo_setLimits_79 C hK36 hK43 x1 x2 x3 y1 (1 : Int32) μ _ _ _ hw hl h
set_option maxRecDepth 100000 in
set_option maxHeartbeats 4000000 in
theorem w_Mo_setLimits_43 {μ' : Mem} {N : Nat} (C : CxA G p s m args meth c prog_9_method_18_code 5 none "RecipePlansModel" ws_Mo_setLimits) {K36 : Int32 → Mem → Option Mem} (hK36 : ∀ (x1 : Int32) (μ : Mem) (H : Heap) (locs : List Loc) (ls : Array Slot), Wk G s μ H locs → lv_has ls 5 [(0, .ref (G.2.1 7)), (1, .int x1)] → K36 x1 μ = some μ' → WA G rm_Mo_setLimits p l e s m args below meth c none μ' H locs 36 ls []) : ∀ (n : Nat) (x1 : Int32) (x2 : Int32) (μ : Mem) (H : Heap) (locs : List Loc) (ls : Array Slot), Wk G s μ H locs → lv_has ls 5 [(0, .ref (G.2.1 7)), (1, .int x1), (2, .int x2)] → M_Mo_setLimits_43 N K36 n x1 x2 μ = some μ' → WA G rm_Mo_setLimits p l e s m args below meth c none μ' H locs 43 ls [] := by
  obtain ⟨hx, hb, hr, hml, hown, hts, hlk, hK, hSt⟩ := id C
  intro n
  induction n with
  | zero =>
    intro x1 x2 μ H locs ls hw hl h
    rw [M_Mo_setLimits_43] at h
    cases h
  | succ n ih =>
    intro x1 x2 μ H locs ls hw hl h
    rw [M_Mo_setLimits_43] at h
    refine lv_iload_n hx hb d_Mo_setLimits_43 rfl (lv_at hl 2 rfl) ?_
    refine lv_iconst (v := 2) hx hb d_Mo_setLimits_44 (by decide) ?_
    refine lv_icmp_ge (tgt := 160) hx hb d_Mo_setLimits_45 (by decide) (fun c45 => ?_) (fun c45 => ?_)
    · have h := ifp c45 h
      refine lv_iinc (v := x1 + 1) (lv' := [(1, .int (x1 + 1)), (0, .ref (G.2.1 7)), (2, .int x2)]) hx hb d_Mo_setLimits_160 hl (k := 1) rfl rfl (by decide) rfl (fun ls hl => ?_)
      refine lv_goto (tgt := 36) hx hb d_Mo_setLimits_163 (by decide) ?_
      exact hK36 (x1 + 1) μ _ _ _ hw (lv_sub hl [1, 0] rfl) h
    · have h := ifn c45 h
      refine lv_bipush (v := 16) hx hb d_Mo_setLimits_48 (by decide) ?_
      refine lv_iconst (v := 2) hx hb d_Mo_setLimits_50 (by decide) ?_
      refine lv_iload_n hx hb d_Mo_setLimits_51 rfl (lv_at hl 1 rfl) ?_
      refine lv_imul hx hb d_Mo_setLimits_52 ?_
      refine lv_iadd hx hb d_Mo_setLimits_53 ?_
      refine lv_iload_n hx hb d_Mo_setLimits_54 rfl (lv_at hl 2 rfl) ?_
      refine lv_iadd hx hb d_Mo_setLimits_55 ?_
      obtain ⟨x3_56, ex3_56, h⟩ := nmx h
      refine m_eqi ex3_56 ?_
      refine lv_istore_n (lv' := [(3, .int x3_56), (0, .ref (G.2.1 7)), (1, .int x1), (2, .int x2)]) hx hb d_Mo_setLimits_56 rfl hl (by decide) rfl (fun ls hl => ?_)
      refine lv_aload_n hx hb d_Mo_setLimits_57 rfl (lv_at hl 1 rfl) ?_
      refine va_get (D := G.1) (ci := 7) (v := .ref (G.2.1 15)) (C := "RecipePlansModel") (T := T_Mo) (N := 24) hx hb hts (fun _ h9 => List.mem_cons_of_mem _ (inT_Mo _ h9)) hown hK hw.1 7 (WL_get (by decide)) rfl 19 (by decide) (hts _ (List.mem_cons_of_mem _ tw_472)) (fun _ h9 => h9) rfl d_Mo_setLimits_58 ?_
      refine lv_iload_n hx hb d_Mo_setLimits_61 rfl (lv_at hl 0 rfl) ?_
      refine lv_iload_n hx hb d_Mo_setLimits_62 rfl (lv_at hl 2 rfl) ?_
      refine lv_aload_n hx hb d_Mo_setLimits_63 rfl (lv_at hl 1 rfl) ?_
      refine va_get (D := G.1) (ci := 7) (v := .int (μ.1 7 0)) (C := "RecipePlansModel") (T := T_Mo) (N := 24) hx hb hts (fun _ h9 => List.mem_cons_of_mem _ (inT_Mo _ h9)) hown hK hw.1 7 (WL_get (by decide)) rfl 0 (by decide) (hts _ (List.mem_cons_of_mem _ tw_453)) (fun _ h9 => h9) rfl d_Mo_setLimits_64 ?_
      refine lv_icmp_lt (tgt := 74) hx hb d_Mo_setLimits_67 (by decide) (fun c67 => ?_) (fun c67 => ?_)
      · have h := ifp c67 h
        exact w_Mo_setLimits_74 C hK36 ih x1 x2 x3_56 x3_56 μ _ _ _ hw (lv_sub hl [1, 2, 3, 0] rfl) h
      · have h := ifn c67 h
        refine lv_iload_n hx hb d_Mo_setLimits_70 rfl (lv_at hl 3 rfl) ?_
        refine lv_if_ne (tgt := 78) hx hb d_Mo_setLimits_71 (by decide) (fun c71 => ?_) (fun c71 => ?_)
        · have h := ifn c71 h
          refine lv_iconst (v := 0) hx hb d_Mo_setLimits_78 (by decide) ?_
          exact w_Mo_setLimits_79 C hK36 ih x1 x2 x3_56 x3_56 (0 : Int32) μ _ _ _ hw (lv_sub hl [1, 2, 3, 0] rfl) h
        · have h := ifp c71 h
          exact w_Mo_setLimits_74 C hK36 ih x1 x2 x3_56 x3_56 μ _ _ _ hw (lv_sub hl [1, 2, 3, 0] rfl) h
set_option maxRecDepth 100000 in
set_option maxHeartbeats 4000000 in
theorem w_Mo_setLimits_36 {μ' : Mem} {N : Nat} (C : CxA G p s m args meth c prog_9_method_18_code 5 none "RecipePlansModel" ws_Mo_setLimits) : ∀ (n : Nat) (x1 : Int32) (μ : Mem) (H : Heap) (locs : List Loc) (ls : Array Slot), Wk G s μ H locs → lv_has ls 5 [(0, .ref (G.2.1 7)), (1, .int x1)] → M_Mo_setLimits_36 N n x1 μ = some μ' → WA G rm_Mo_setLimits p l e s m args below meth c none μ' H locs 36 ls [] := by
  obtain ⟨hx, hb, hr, hml, hown, hts, hlk, hK, hSt⟩ := id C
  intro n
  induction n with
  | zero =>
    intro x1 μ H locs ls hw hl h
    rw [M_Mo_setLimits_36] at h
    cases h
  | succ n ih =>
    intro x1 μ H locs ls hw hl h
    rw [M_Mo_setLimits_36] at h
    refine lv_iload_n hx hb d_Mo_setLimits_36 rfl (lv_at hl 1 rfl) ?_
    refine lv_iconst (v := 4) hx hb d_Mo_setLimits_37 (by decide) ?_
    refine lv_icmp_ge (tgt := 166) hx hb d_Mo_setLimits_38 (by decide) (fun c38 => ?_) (fun c38 => ?_)
    · have h := ifp c38 h
      exact m_vret hx hb hr hlk hw h d_Mo_setLimits_166
    · have h := ifn c38 h
      refine lv_iconst (v := 0) hx hb d_Mo_setLimits_41 (by decide) ?_
      refine lv_istore_n (lv' := [(2, .int (0 : Int32)), (0, .ref (G.2.1 7)), (1, .int x1)]) hx hb d_Mo_setLimits_42 rfl hl (by decide) rfl (fun ls hl => ?_)
      exact w_Mo_setLimits_43 C ih N x1 (0 : Int32) μ _ _ _ hw (lv_sub hl [1, 2, 0] rfl) h
set_option maxRecDepth 100000 in
set_option maxHeartbeats 4000000 in
theorem w_Mo_setLimits_2 {μ' : Mem} {N : Nat} (C : CxA G p s m args meth c prog_9_method_18_code 5 none "RecipePlansModel" ws_Mo_setLimits) : ∀ (n : Nat) (x1 : Int32) (μ : Mem) (H : Heap) (locs : List Loc) (ls : Array Slot), Wk G s μ H locs → lv_has ls 5 [(0, .ref (G.2.1 7)), (1, .int x1)] → M_Mo_setLimits_2 N n x1 μ = some μ' → WA G rm_Mo_setLimits p l e s m args below meth c none μ' H locs 2 ls [] := by
  obtain ⟨hx, hb, hr, hml, hown, hts, hlk, hK, hSt⟩ := id C
  intro n
  induction n with
  | zero =>
    intro x1 μ H locs ls hw hl h
    rw [M_Mo_setLimits_2] at h
    cases h
  | succ n ih =>
    intro x1 μ H locs ls hw hl h
    rw [M_Mo_setLimits_2] at h
    refine lv_iload_n hx hb d_Mo_setLimits_2 rfl (lv_at hl 1 rfl) ?_
    refine lv_bipush (v := 8) hx hb d_Mo_setLimits_3 (by decide) ?_
    refine lv_icmp_ge (tgt := 34) hx hb d_Mo_setLimits_5 (by decide) (fun c5 => ?_) (fun c5 => ?_)
    · have h := ifp c5 h
      refine lv_iconst (v := 0) hx hb d_Mo_setLimits_34 (by decide) ?_
      refine lv_istore_n (lv' := [(1, .int (0 : Int32)), (0, .ref (G.2.1 7))]) hx hb d_Mo_setLimits_35 rfl hl (by decide) rfl (fun ls hl => ?_)
      exact w_Mo_setLimits_36 C N (0 : Int32) μ _ _ _ hw (lv_sub hl [1, 0] rfl) h
    · have h := ifn c5 h
      refine lv_aload_n hx hb d_Mo_setLimits_8 rfl (lv_at hl 0 rfl) ?_
      refine lv_iconst (v := 2) hx hb d_Mo_setLimits_9 (by decide) ?_
      refine lv_iload_n hx hb d_Mo_setLimits_10 rfl (lv_at hl 1 rfl) ?_
      refine lv_imul hx hb d_Mo_setLimits_11 ?_
      refine lv_iload_n hx hb d_Mo_setLimits_12 rfl (lv_at hl 1 rfl) ?_
      refine lv_iconst (v := 0) hx hb d_Mo_setLimits_13 (by decide) ?_
      obtain ⟨μ14, hq, h⟩ := bd h
      refine m_call (r := none) (μ1 := μ14) (va_runV (C := "RecipePlansModel") (As := [.int ((2 : Int32) * x1), .int x1, .int (0 : Int32)]) (rest := []) ⟨hx, hb, hml, hown, hts⟩ (c_Mo_setLimit l G N ((2 : Int32) * x1) x1 (0 : Int32) μ hq _) (cwV 3 hts (gdV tw_565 tw_566 tw_22 tw_41 tw_567) rfl rfl rfl (by decide +kernel) ⟨Nat.le_of_ble_eq_true rfl, Nat.le_of_ble_eq_true rfl⟩) (m_preV (k := 7) (by decide) rfl hK hSt hw) rfl rfl hl.1 rfl (lv_room (Nat.le_of_ble_eq_true rfl)) d_Mo_setLimits_14 ⟨Nat.zero_le _, Nat.zero_le _⟩) hw (fun H locs hw => ?_)
      refine lv_aload_n hx hb d_Mo_setLimits_17 rfl (lv_at hl 0 rfl) ?_
      refine lv_iconst (v := 2) hx hb d_Mo_setLimits_18 (by decide) ?_
      refine lv_iload_n hx hb d_Mo_setLimits_19 rfl (lv_at hl 1 rfl) ?_
      refine lv_imul hx hb d_Mo_setLimits_20 ?_
      refine lv_iconst (v := 1) hx hb d_Mo_setLimits_21 (by decide) ?_
      refine lv_iadd hx hb d_Mo_setLimits_22 ?_
      refine lv_iload_n hx hb d_Mo_setLimits_23 rfl (lv_at hl 1 rfl) ?_
      refine lv_iconst (v := 1) hx hb d_Mo_setLimits_24 (by decide) ?_
      obtain ⟨μ25, hq, h⟩ := bd h
      refine m_call (r := none) (μ1 := μ25) (va_runV (C := "RecipePlansModel") (As := [.int (((2 : Int32) * x1) + (1 : Int32)), .int x1, .int (1 : Int32)]) (rest := []) ⟨hx, hb, hml, hown, hts⟩ (c_Mo_setLimit l G N (((2 : Int32) * x1) + (1 : Int32)) x1 (1 : Int32) μ14 hq _) (cwV 3 hts (gdV tw_565 tw_566 tw_22 tw_41 tw_567) rfl rfl rfl (by decide +kernel) ⟨Nat.le_of_ble_eq_true rfl, Nat.le_of_ble_eq_true rfl⟩) (m_preV (k := 7) (by decide) rfl hK hSt hw) rfl rfl hl.1 rfl (lv_room (Nat.le_of_ble_eq_true rfl)) d_Mo_setLimits_25 ⟨Nat.zero_le _, Nat.zero_le _⟩) hw (fun H locs hw => ?_)
      refine lv_iinc (v := x1 + 1) (lv' := [(1, .int (x1 + 1)), (0, .ref (G.2.1 7))]) hx hb d_Mo_setLimits_28 hl (k := 1) rfl rfl (by decide) rfl (fun ls hl => ?_)
      refine lv_goto (tgt := 2) hx hb d_Mo_setLimits_31 (by decide) ?_
      exact ih (x1 + 1) μ25 _ _ _ hw (lv_sub hl [1, 0] rfl) h
set_option maxRecDepth 100000 in
set_option maxHeartbeats 4000000 in
theorem c_Mo_setLimits (l : Launch) (G : Gw) (N : Nat) (μ : Mem) {μ' : Mem} (h : M_Mo_setLimits N μ = some μ') : CT l y_Mo_setLimits ws_Mo_setLimits rm_Mo_setLimits [.ref (G.2.1 7)] G μ none μ' := by
  refine m_met (cc := prog_9_method_18_code) (maxL := 5) (ret := none) (by decide) rfl (Nat.le_of_ble_eq_true rfl) ?_
  intro p e s m args below meth c ls C hw hl
  obtain ⟨hx, hb, hr, hml, hown, hts, hlk, hK, hSt⟩ := id C
  have hl : lv_has ls 5 [(0, .ref (G.2.1 7))] := hl
  unfold M_Mo_setLimits at h
  refine lv_iconst (v := 0) hx hb d_Mo_setLimits_0 (by decide) ?_
  refine lv_istore_n (lv' := [(1, .int (0 : Int32)), (0, .ref (G.2.1 7))]) hx hb d_Mo_setLimits_1 rfl hl (by decide) rfl (fun ls hl => ?_)
  exact w_Mo_setLimits_2 C N (0 : Int32) μ _ _ _ hw (lv_sub hl [1, 0] rfl) h
set_option maxRecDepth 100000 in
set_option maxHeartbeats 4000000 in
theorem w_Mo_at_22 {r : Int64} {μ' : Mem} {N : Nat} (C : CxA G p s m args meth c prog_9_method_19_code 4 (some .long) "RecipePlansModel" ws_Mo_at) : ∀ (y1 : Int32) (y2 : Int32) (μ : Mem) (H : Heap) (locs : List Loc) (ls : Array Slot), Wk G s μ H locs → lv_has ls 4 [] → M_Mo_at_22 N y1 y2 μ = some (r, μ') → WA G rm_Mo_at p l e s m args below meth c (some (.long r)) μ' H locs 22 ls [.int y2, .int y1, .ref (G.2.1 38)] := by
  obtain ⟨hx, hb, hr, hml, hown, hts, hlk, hK, hSt⟩ := id C
  intro y1 y2 μ H locs ls hw hl h
  unfold M_Mo_at_22 at h
  refine lv_iadd hx hb d_Mo_at_22 ?_
  obtain ⟨v23, hv, h⟩ := bd h
  refine m_iaload hx hb hK hw hv d_Mo_at_23 ?_
  refine lv_i2l hx hb d_Mo_at_24 rfl ?_
  exact m_lret hx hb hr hlk hw h d_Mo_at_25
set_option maxRecDepth 100000 in
set_option maxHeartbeats 4000000 in
theorem c_Mo_at (l : Launch) (G : Gw) (N : Nat) (x1 : Int32) (x2 : Int32) (x3 : Int32) (μ : Mem) {r : Int64} {μ' : Mem} (h : M_Mo_at N x1 x2 x3 μ = some (r, μ')) : CT l y_Mo_at ws_Mo_at rm_Mo_at [.ref (G.2.1 7), .int x1, .int x2, .int x3] G μ (some (.long r)) μ' := by
  refine m_met (cc := prog_9_method_19_code) (maxL := 4) (ret := (some .long)) (by decide) rfl (Nat.le_of_ble_eq_true rfl) ?_
  intro p e s m args below meth c ls C hw hl
  obtain ⟨hx, hb, hr, hml, hown, hts, hlk, hK, hSt⟩ := id C
  have hl : lv_has ls 4 [(0, .ref (G.2.1 7)), (1, .int x1), (2, .int x2), (3, .int x3)] := hl
  unfold M_Mo_at at h
  refine lv_aload_n hx hb d_Mo_at_0 rfl (lv_at hl 0 rfl) ?_
  refine va_get (D := G.1) (ci := 7) (v := .ref (G.2.1 38)) (C := "RecipePlansModel") (T := T_Mo) (N := 24) hx hb hts (fun _ h9 => List.mem_cons_of_mem _ (inT_Mo _ h9)) hown hK hw.1 7 (WL_get (by decide)) rfl 18 (by decide) (hts _ (List.mem_cons_of_mem _ tw_471)) (fun _ h9 => h9) rfl d_Mo_at_1 ?_
  refine lv_iconst (v := 5) hx hb d_Mo_at_4 (by decide) ?_
  refine lv_aload_n hx hb d_Mo_at_5 rfl (lv_at hl 0 rfl) ?_
  refine va_get (D := G.1) (ci := 7) (v := .ref (G.2.1 39)) (C := "RecipePlansModel") (T := T_Mo) (N := 24) hx hb hts (fun _ h9 => List.mem_cons_of_mem _ (inT_Mo _ h9)) hown hK hw.1 7 (WL_get (by decide)) rfl 20 (by decide) (hts _ (List.mem_cons_of_mem _ tw_473)) (fun _ h9 => h9) rfl d_Mo_at_6 ?_
  refine lv_iload_n hx hb d_Mo_at_9 rfl (lv_at hl 1 rfl) ?_
  obtain ⟨v10, hv, h⟩ := bd h
  refine m_iaload hx hb hK hw hv d_Mo_at_10 ?_
  refine lv_imul hx hb d_Mo_at_11 ?_
  refine lv_iload_n hx hb d_Mo_at_12 rfl (lv_at hl 2 rfl) ?_
  refine lv_iload_n hx hb d_Mo_at_13 rfl (lv_at hl 3 rfl) ?_
  refine lv_icmp_ne (tgt := 21) hx hb d_Mo_at_14 (by decide) (fun c14 => ?_) (fun c14 => ?_)
  · have h := ifn c14 h
    refine lv_iload_n hx hb d_Mo_at_21 rfl (lv_at hl 2 rfl) ?_
    exact w_Mo_at_22 C ((5 : Int32) * v10) x2 μ _ _ _ hw (lv_sub hl [] rfl) h
  · have h := ifp c14 h
    refine lv_iconst (v := 4) hx hb d_Mo_at_17 (by decide) ?_
    refine lv_goto (tgt := 22) hx hb d_Mo_at_18 (by decide) ?_
    exact w_Mo_at_22 C ((5 : Int32) * v10) (4 : Int32) μ _ _ _ hw (lv_sub hl [] rfl) h
end WK
