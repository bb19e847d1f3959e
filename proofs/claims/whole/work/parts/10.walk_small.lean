section WK
variable {p : Program} {l : Launch} {e : Env} {s : State} {m : MethodId} {args : Array Value} {below : List Frame} {meth : Method} {c : Code} {G : Gw}
set_option maxRecDepth 100000 in
set_option maxHeartbeats 4000000 in
theorem c_RP_within (l : Launch) (N : Nat) (x0 : Int64) (x2 : Int64) (x4 : Int64) {r : Int32} (h : M_RP_within N x0 x2 x4 = some r) : CTp l y_RP_within ws_RP_within rm_RP_within [.long x0, .long x2, .long x4] (.int r) := by
  refine m_metP (cc := prog_1_method_15_code) (maxL := 6) (ret := (some .boolean)) (by decide +kernel) rfl (Nat.le_of_ble_eq_true rfl) ?_
  intro p e s m args below meth c ls C hl
  obtain ⟨hx, hb, hr, hml, hown, hts, hlk⟩ := id C
  have hl : lv_has ls 6 [(0, .long x0), (2, .long x2), (4, .long x4)] := hl
  unfold M_RP_within at h
  refine lv_lload_n hx hb d_RP_within_0 rfl (lv_at hl 1 rfl) ?_
  refine lv_lload_n hx hb d_RP_within_1 rfl (lv_at hl 0 rfl) ?_
  refine W.lcmp hx hb d_RP_within_2 ?_
  refine lv_if_gt (tgt := 17) hx hb d_RP_within_3 (by decide) (fun c3 => ?_) (fun c3 => ?_)
  · have h := ifp c3 h
    refine lv_iconst (v := 0) hx hb d_RP_within_17 (by decide) ?_
    exact m_pzret hx hb hr hlk h d_RP_within_18
  · have h := ifn c3 h
    refine lv_lload_n hx hb d_RP_within_6 rfl (lv_at hl 0 rfl) ?_
    refine lv_lload hx hb d_RP_within_7 (lv_at hl 2 rfl) ?_
    refine W.lcmp hx hb d_RP_within_9 ?_
    refine lv_if_gt (tgt := 17) hx hb d_RP_within_10 (by decide) (fun c10 => ?_) (fun c10 => ?_)
    · have h := ifp c10 h
      refine lv_iconst (v := 0) hx hb d_RP_within_17 (by decide) ?_
      exact m_pzret hx hb hr hlk h d_RP_within_18
    · have h := ifn c10 h
      refine lv_iconst (v := 1) hx hb d_RP_within_13 (by decide) ?_
      refine lv_goto (tgt := 18) hx hb d_RP_within_14 (by decide) ?_
      exact m_pzret hx hb hr hlk h d_RP_within_18
set_option maxRecDepth 100000 in
set_option maxHeartbeats 4000000 in
theorem c_RP_isWhat (l : Launch) (N : Nat) (x0 : Int32) {r : Int32} (h : M_RP_isWhat N x0 = some r) : CTp l y_RP_isWhat ws_RP_isWhat rm_RP_isWhat [.int x0] (.int r) := by
  refine m_metP (cc := prog_1_method_17_code) (maxL := 1) (ret := (some .boolean)) (by decide +kernel) rfl (Nat.le_of_ble_eq_true rfl) ?_
  intro p e s m args below meth c ls C hl
  obtain ⟨hx, hb, hr, hml, hown, hts, hlk⟩ := id C
  have hl : lv_has ls 1 [(0, .int x0)] := hl
  unfold M_RP_isWhat at h
  refine lv_iload_n hx hb d_RP_isWhat_0 rfl (lv_at hl 0 rfl) ?_
  refine lv_i2l hx hb d_RP_isWhat_1 rfl ?_
  refine lv_lconst (v := 0) hx hb d_RP_isWhat_2 (by decide) ?_
  refine lv_ldc2 (v := 4) hx hb hown (hts _ (List.mem_cons_of_mem _ tw_254)) d_RP_isWhat_3 ?_
  obtain ⟨r6, hq, h⟩ := bd h
  refine m_pcall (r := .int r6) (W.runS (As := [.long x0.toInt64, .long (0 : Int64), .long (4 : Int64)]) (rest := []) ⟨hx, hb, hml, hown, hts⟩ (c_RP_within l N x0.toInt64 (0 : Int64) (4 : Int64) hq) (va_cwS 3 hts (gdS tw_242 tw_243 tw_34 tw_244) rfl rfl rfl (by decide +kernel) ⟨Nat.le_of_ble_eq_true rfl, Nat.le_of_ble_eq_true rfl⟩) preEq rfl rfl hl.1 rfl (lv_room (Nat.le_of_ble_eq_true rfl)) d_RP_isWhat_6 ⟨Nat.zero_le _, Nat.zero_le _⟩) ?_
  exact m_pzret hx hb hr hlk h d_RP_isWhat_9
set_option maxRecDepth 100000 in
set_option maxHeartbeats 4000000 in
theorem c_RP_isRange (l : Launch) (N : Nat) (x0 : Int32) (x1 : Int32) (x2 : Int32) (x3 : Int32) {r : Int32} (h : M_RP_isRange N x0 x1 x2 x3 = some r) : CTp l y_RP_isRange ws_RP_isRange rm_RP_isRange [.int x0, .int x1, .int x2, .int x3] (.int r) := by
  refine m_metP (cc := prog_1_method_16_code) (maxL := 4) (ret := (some .boolean)) (by decide +kernel) rfl (Nat.le_of_ble_eq_true rfl) ?_
  intro p e s m args below meth c ls C hl
  obtain ⟨hx, hb, hr, hml, hown, hts, hlk⟩ := id C
  have hl : lv_has ls 4 [(0, .int x0), (1, .int x1), (2, .int x2), (3, .int x3)] := hl
  unfold M_RP_isRange at h
  refine lv_iload_n hx hb d_RP_isRange_0 rfl (lv_at hl 2 rfl) ?_
  refine lv_iload_n hx hb d_RP_isRange_1 rfl (lv_at hl 0 rfl) ?_
  refine lv_icmp_gt (tgt := 19) hx hb d_RP_isRange_2 (by decide) (fun c2 => ?_) (fun c2 => ?_)
  · have h := ifp c2 h
    refine lv_iconst (v := 0) hx hb d_RP_isRange_19 (by decide) ?_
    exact m_pzret hx hb hr hlk h d_RP_isRange_20
  · have h := ifn c2 h
    refine lv_iload_n hx hb d_RP_isRange_5 rfl (lv_at hl 0 rfl) ?_
    refine lv_iload_n hx hb d_RP_isRange_6 rfl (lv_at hl 1 rfl) ?_
    refine lv_icmp_gt (tgt := 19) hx hb d_RP_isRange_7 (by decide) (fun c7 => ?_) (fun c7 => ?_)
    · have h := ifp c7 h
      refine lv_iconst (v := 0) hx hb d_RP_isRange_19 (by decide) ?_
      exact m_pzret hx hb hr hlk h d_RP_isRange_20
    · have h := ifn c7 h
      refine lv_iload_n hx hb d_RP_isRange_10 rfl (lv_at hl 1 rfl) ?_
      refine lv_iload_n hx hb d_RP_isRange_11 rfl (lv_at hl 3 rfl) ?_
      refine lv_icmp_gt (tgt := 19) hx hb d_RP_isRange_12 (by decide) (fun c12 => ?_) (fun c12 => ?_)
      · have h := ifp c12 h
        refine lv_iconst (v := 0) hx hb d_RP_isRange_19 (by decide) ?_
        exact m_pzret hx hb hr hlk h d_RP_isRange_20
      · have h := ifn c12 h
        refine lv_iconst (v := 1) hx hb d_RP_isRange_15 (by decide) ?_
        refine lv_goto (tgt := 20) hx hb d_RP_isRange_16 (by decide) ?_
        exact m_pzret hx hb hr hlk h d_RP_isRange_20
set_option maxRecDepth 100000 in
set_option maxHeartbeats 4000000 in
theorem c_Ru_tell (l : Launch) (G : Gw) (N : Nat) (x1 : Int32) (x2 : Int32) (x3 : Int32) (x4 : Int32) (x5 : Int32) (x6 : Int32) (μ : Mem) {μ' : Mem} (h : M_Ru_tell N x1 x2 x3 x4 x5 x6 μ = some μ') : CT l y_Ru_tell ws_Ru_tell rm_Ru_tell [.ref (G.2.1 2), .int x1, .int x2, .int x3, .int x4, .int x5, .int x6] G μ none μ' := by
  refine m_met (cc := prog_5_method_2_code) (maxL := 7) (ret := none) (by decide) rfl (Nat.le_of_ble_eq_true rfl) ?_
  intro p e s m args below meth c ls C hw hl
  obtain ⟨hx, hb, hr, hml, hown, hts, hlk, hK, hSt⟩ := id C
  have hl : lv_has ls 7 [(0, .ref (G.2.1 2)), (1, .int x1), (2, .int x2), (3, .int x3), (4, .int x4), (5, .int x5), (6, .int x6)] := hl
  unfold M_Ru_tell at h
  refine lv_aload_n hx hb d_Ru_tell_0 rfl (lv_at hl 0 rfl) ?_
  refine va_get (D := G.1) (ci := 2) (v := .ref (G.2.1 18)) (C := "RecipePlans$Rules") (T := T_Ru) (N := 6) hx hb hts (fun _ h9 => List.mem_cons_of_mem _ (inT_Ru _ h9)) hown hK hw.1 2 (WL_get (by decide)) rfl 1 (by decide) (hts _ (List.mem_cons_of_mem _ tw_86)) (fun _ h9 => h9) rfl d_Ru_tell_1 ?_
  refine lv_iload_n hx hb d_Ru_tell_4 rfl (lv_at hl 1 rfl) ?_
  refine lv_iload_n hx hb d_Ru_tell_5 rfl (lv_at hl 2 rfl) ?_
  obtain ⟨μ6, hm, h⟩ := bd h
  refine m_iastore hx hb hK hw hm d_Ru_tell_6 (fun H locs hw => ?_)
  refine lv_aload_n hx hb d_Ru_tell_7 rfl (lv_at hl 0 rfl) ?_
  refine va_get (D := G.1) (ci := 2) (v := .ref (G.2.1 19)) (C := "RecipePlans$Rules") (T := T_Ru) (N := 6) hx hb hts (fun _ h9 => List.mem_cons_of_mem _ (inT_Ru _ h9)) hown hK hw.1 2 (WL_get (by decide)) rfl 2 (by decide) (hts _ (List.mem_cons_of_mem _ tw_89)) (fun _ h9 => h9) rfl d_Ru_tell_8 ?_
  refine lv_iload_n hx hb d_Ru_tell_11 rfl (lv_at hl 1 rfl) ?_
  refine lv_iload_n hx hb d_Ru_tell_12 rfl (lv_at hl 3 rfl) ?_
  obtain ⟨μ13, hm, h⟩ := bd h
  refine m_iastore hx hb hK hw hm d_Ru_tell_13 (fun H locs hw => ?_)
  refine lv_aload_n hx hb d_Ru_tell_14 rfl (lv_at hl 0 rfl) ?_
  refine va_get (D := G.1) (ci := 2) (v := .ref (G.2.1 20)) (C := "RecipePlans$Rules") (T := T_Ru) (N := 6) hx hb hts (fun _ h9 => List.mem_cons_of_mem _ (inT_Ru _ h9)) hown hK hw.1 2 (WL_get (by decide)) rfl 3 (by decide) (hts _ (List.mem_cons_of_mem _ tw_92)) (fun _ h9 => h9) rfl d_Ru_tell_15 ?_
  refine lv_iload_n hx hb d_Ru_tell_18 rfl (lv_at hl 1 rfl) ?_
  refine lv_iload hx hb d_Ru_tell_19 (lv_at hl 4 rfl) ?_
  obtain ⟨μ21, hm, h⟩ := bd h
  refine m_iastore hx hb hK hw hm d_Ru_tell_21 (fun H locs hw => ?_)
  refine lv_aload_n hx hb d_Ru_tell_22 rfl (lv_at hl 0 rfl) ?_
  refine va_get (D := G.1) (ci := 2) (v := .ref (G.2.1 21)) (C := "RecipePlans$Rules") (T := T_Ru) (N := 6) hx hb hts (fun _ h9 => List.mem_cons_of_mem _ (inT_Ru _ h9)) hown hK hw.1 2 (WL_get (by decide)) rfl 4 (by decide) (hts _ (List.mem_cons_of_mem _ tw_95)) (fun _ h9 => h9) rfl d_Ru_tell_23 ?_
  refine lv_iload_n hx hb d_Ru_tell_26 rfl (lv_at hl 1 rfl) ?_
  refine lv_iload hx hb d_Ru_tell_27 (lv_at hl 5 rfl) ?_
  obtain ⟨μ29, hm, h⟩ := bd h
  refine m_iastore hx hb hK hw hm d_Ru_tell_29 (fun H locs hw => ?_)
  refine lv_aload_n hx hb d_Ru_tell_30 rfl (lv_at hl 0 rfl) ?_
  refine va_get (D := G.1) (ci := 2) (v := .ref (G.2.1 22)) (C := "RecipePlans$Rules") (T := T_Ru) (N := 6) hx hb hts (fun _ h9 => List.mem_cons_of_mem _ (inT_Ru _ h9)) hown hK hw.1 2 (WL_get (by decide)) rfl 5 (by decide) (hts _ (List.mem_cons_of_mem _ tw_98)) (fun _ h9 => h9) rfl d_Ru_tell_31 ?_
  refine lv_iload_n hx hb d_Ru_tell_34 rfl (lv_at hl 1 rfl) ?_
  refine lv_iload hx hb d_Ru_tell_35 (lv_at hl 6 rfl) ?_
  obtain ⟨μ37, hm, h⟩ := bd h
  refine m_iastore hx hb hK hw hm d_Ru_tell_37 (fun H locs hw => ?_)
  refine lv_aload_n hx hb d_Ru_tell_38 rfl (lv_at hl 0 rfl) ?_
  refine lv_dup hx hb d_Ru_tell_39 rfl ?_
  refine va_get (D := G.1) (ci := 2) (v := .int (μ37.1 2 0)) (C := "RecipePlans$Rules") (T := T_Ru) (N := 6) hx hb hts (fun _ h9 => List.mem_cons_of_mem _ (inT_Ru _ h9)) hown hK hw.1 2 (WL_get (by decide)) rfl 0 (by decide) (hts _ (List.mem_cons_of_mem _ tw_83)) (fun _ h9 => h9) rfl d_Ru_tell_40 ?_
  refine lv_iconst (v := 1) hx hb d_Ru_tell_43 (by decide) ?_
  refine lv_iload_n hx hb d_Ru_tell_44 rfl (lv_at hl 1 rfl) ?_
  refine lv_ishl hx hb d_Ru_tell_45 ?_
  refine lv_ior hx hb d_Ru_tell_46 ?_
  obtain ⟨μ47, hm, h⟩ := bd h
  refine va_put (D := G.1) (ci := 2) (v := .int ((μ37.1 2 0) ||| ((1 : Int32) <<< (x1 &&& 31)))) (ty := .int) (C := "RecipePlans$Rules") (T := T_Ru) (N := 6) hx hb hts (fun _ h9 => List.mem_cons_of_mem _ (inT_Ru _ h9)) ty_Ru tyok_Ru nm_Ru hown hK hw.1 hw.2.1 hw.2.2 2 (WL_get (by decide)) rfl 0 (by decide) (hts _ (List.mem_cons_of_mem _ tw_83)) (fun _ h9 => h9) rfl (by decide +kernel) rfl rfl (Nat.le_of_ble_eq_true rfl) d_Ru_tell_47 (fun H locs hP hD hS => ?_)
  have hw := wk_pI hm (by decide) (by rfl) hP hD hS
  exact m_vret hx hb hr hlk hw h d_Ru_tell_50
set_option maxRecDepth 100000 in
set_option maxHeartbeats 4000000 in
theorem c_RP_hasBit (l : Launch) (N : Nat) (x0 : Int32) (x1 : Int32) {r : Int32} (h : M_RP_hasBit N x0 x1 = some r) : CTp l y_RP_hasBit ws_RP_hasBit rm_RP_hasBit [.int x0, .int x1] (.int r) := by
  refine m_metP (cc := prog_1_method_18_code) (maxL := 2) (ret := (some .boolean)) (by decide +kernel) rfl (Nat.le_of_ble_eq_true rfl) ?_
  intro p e s m args below meth c ls C hl
  obtain ⟨hx, hb, hr, hml, hown, hts, hlk⟩ := id C
  have hl : lv_has ls 2 [(0, .int x0), (1, .int x1)] := hl
  unfold M_RP_hasBit at h
  refine lv_iload_n hx hb d_RP_hasBit_0 rfl (lv_at hl 0 rfl) ?_
  refine lv_iload_n hx hb d_RP_hasBit_1 rfl (lv_at hl 1 rfl) ?_
  refine lv_ishr hx hb d_RP_hasBit_2 ?_
  refine lv_iconst (v := 1) hx hb d_RP_hasBit_3 (by decide) ?_
  refine lv_iand hx hb d_RP_hasBit_4 ?_
  refine lv_if_eq (tgt := 12) hx hb d_RP_hasBit_5 (by decide) (fun c5 => ?_) (fun c5 => ?_)
  · have h := ifp c5 h
    refine lv_iconst (v := 0) hx hb d_RP_hasBit_12 (by decide) ?_
    exact m_pzret hx hb hr hlk h d_RP_hasBit_13
  · have h := ifn c5 h
    refine lv_iconst (v := 1) hx hb d_RP_hasBit_8 (by decide) ?_
    refine lv_goto (tgt := 13) hx hb d_RP_hasBit_9 (by decide) ?_
    exact m_pzret hx hb hr hlk h d_RP_hasBit_13
set_option maxRecDepth 100000 in
set_option maxHeartbeats 4000000 in
theorem c_Ru_isTold (l : Launch) (G : Gw) (N : Nat) (x1 : Int32) (μ : Mem) {r : Int32} {μ' : Mem} (h : M_Ru_isTold N x1 μ = some (r, μ')) : CT l y_Ru_isTold ws_Ru_isTold rm_Ru_isTold [.ref (G.2.1 2), .int x1] G μ (some (.int r)) μ' := by
  refine m_met (cc := prog_5_method_3_code) (maxL := 2) (ret := (some .boolean)) (by decide) rfl (Nat.le_of_ble_eq_true rfl) ?_
  intro p e s m args below meth c ls C hw hl
  obtain ⟨hx, hb, hr, hml, hown, hts, hlk, hK, hSt⟩ := id C
  have hl : lv_has ls 2 [(0, .ref (G.2.1 2)), (1, .int x1)] := hl
  unfold M_Ru_isTold at h
  refine lv_aload_n hx hb d_Ru_isTold_0 rfl (lv_at hl 0 rfl) ?_
  refine va_get (D := G.1) (ci := 2) (v := .int (μ.1 2 0)) (C := "RecipePlans$Rules") (T := T_Ru) (N := 6) hx hb hts (fun _ h9 => List.mem_cons_of_mem _ (inT_Ru _ h9)) hown hK hw.1 2 (WL_get (by decide)) rfl 0 (by decide) (hts _ (List.mem_cons_of_mem _ tw_83)) (fun _ h9 => h9) rfl d_Ru_isTold_1 ?_
  refine lv_iload_n hx hb d_Ru_isTold_4 rfl (lv_at hl 1 rfl) ?_
  obtain ⟨r5, hq, h⟩ := bd h
  refine m_pcall (r := .int r5) ((va_runSN (As := [.int (μ.1 2 0), .int x1]) (rest := []) ⟨hx, hb, hml, hown, hts⟩ (c_RP_hasBit l N (μ.1 2 0) x1 hq) ⟨va_cnB 2 hts (gd0 tw_288) rfl rfl rfl (hSt.2 (.methodLinkNest "RecipePlans$Rules" 31 ⟨"RecipePlans", "hasBit", "(II)Z"⟩ "RecipePlans") (by decide +kernel)) (hts _ (List.mem_cons_of_mem _ tw_34)) (by decide +kernel) ⟨Nat.le_of_ble_eq_true rfl, Nat.le_of_ble_eq_true rfl⟩, (hts _ (List.mem_cons_of_mem _ tw_287)), trivial⟩ preEq rfl rfl hl.1 rfl (lv_room (Nat.le_of_ble_eq_true rfl)) d_Ru_isTold_5 ⟨Nat.zero_le _, Nat.zero_le _⟩).run) ?_
  exact m_zret hx hb hr hlk hw h d_Ru_isTold_8
set_option maxRecDepth 100000 in
set_option maxHeartbeats 4000000 in
theorem w_Si_fill_31 {μ' : Mem} {N : Nat} (C : CxA G p s m args meth c prog_6_method_3_code 10 none "RecipePlans$Sides" ws_Si_fill) : ∀ (n : Nat) (k1 : Nat) (k2 : Nat) (x4 : Int32) (k5 : Nat) (k6 : Nat) (x7 : Int32) (μ : Mem) (H : Heap) (locs : List Loc) (ls : Array Slot), Wk G s μ H locs → lv_has ls 10 [(1, .ref (G.2.1 k1)), (2, .ref (G.2.1 k2)), (3, .ref (G.2.1 2)), (4, .int x4), (5, .ref (G.2.1 k5)), (6, .ref (G.2.1 k6)), (7, .int x7)] → M_Si_fill_31 N n k1 k2 x4 k5 k6 x7 μ = some μ' → WA G rm_Si_fill p l e s m args below meth c none μ' H locs 31 ls [] := by
  obtain ⟨hx, hb, hr, hml, hown, hts, hlk, hK, hSt⟩ := id C
  intro n
  induction n with
  | zero =>
    intro k1 k2 x4 k5 k6 x7 μ H locs ls hw hl h
    rw [M_Si_fill_31] at h
    cases h
  | succ n ih =>
    intro k1 k2 x4 k5 k6 x7 μ H locs ls hw hl h
    rw [M_Si_fill_31] at h
    refine lv_iload hx hb d_Si_fill_31 (lv_at hl 6 rfl) ?_
    refine lv_iconst (v := 5) hx hb d_Si_fill_33 (by decide) ?_
    refine lv_icmp_ge (tgt := 100) hx hb d_Si_fill_34 (by decide) (fun c34 => ?_) (fun c34 => ?_)
    · have h := ifp c34 h
      exact m_vret hx hb hr hlk hw h d_Si_fill_100
    · have h := ifn c34 h
      refine lv_aload_n hx hb d_Si_fill_37 rfl (lv_at hl 2 rfl) ?_
      refine va_get (D := G.1) (ci := 2) (v := .ref (G.2.1 22)) (C := "RecipePlans$Rules") (T := T_Ru) (N := 6) hx hb hts (fun _ h9 => List.mem_cons_of_mem _ (inT_Ru _ h9)) hown hK hw.1 2 (WL_get (by decide)) rfl 5 (by decide) (hts _ (List.mem_cons_of_mem _ tw_99)) (fun _ h9 => h9) rfl d_Si_fill_38 ?_
      refine lv_iload hx hb d_Si_fill_41 (lv_at hl 3 rfl) ?_
      obtain ⟨v43, hv, h⟩ := bd h
      refine m_iaload hx hb hK hw hv d_Si_fill_43 ?_
      refine lv_i2l hx hb d_Si_fill_44 rfl ?_
      refine lv_aload_n hx hb d_Si_fill_45 rfl (lv_at hl 0 rfl) ?_
      refine lv_iload hx hb d_Si_fill_46 (lv_at hl 6 rfl) ?_
      obtain ⟨v48, hv, h⟩ := bd h
      refine m_laload hx hb hK hw hv d_Si_fill_48 ?_
      refine lv_lmul hx hb d_Si_fill_49 ?_
      obtain ⟨x8_50, ex8_50, h⟩ := nmx h
      refine m_eql ex8_50 ?_
      refine lv_lstore (lv' := [(8, .long x8_50), (1, .ref (G.2.1 k1)), (2, .ref (G.2.1 k2)), (3, .ref (G.2.1 2)), (4, .int x4), (5, .ref (G.2.1 k5)), (6, .ref (G.2.1 k6)), (7, .int x7)]) hx hb d_Si_fill_50 hl (by decide) rfl (fun ls hl => ?_)
      refine lv_aload hx hb d_Si_fill_52 (lv_at hl 5 rfl) ?_
      refine lv_iload hx hb d_Si_fill_54 (lv_at hl 7 rfl) ?_
      refine lv_lload hx hb d_Si_fill_56 (lv_at hl 0 rfl) ?_
      refine lv_aload_n hx hb d_Si_fill_58 rfl (lv_at hl 3 rfl) ?_
      refine va_get (D := G.1) (ci := 2) (v := .ref (G.2.1 20)) (C := "RecipePlans$Rules") (T := T_Ru) (N := 6) hx hb hts (fun _ h9 => List.mem_cons_of_mem _ (inT_Ru _ h9)) hown hK hw.1 2 (WL_get (by decide)) rfl 3 (by decide) (hts _ (List.mem_cons_of_mem _ tw_93)) (fun _ h9 => h9) rfl d_Si_fill_59 ?_
      refine lv_iload hx hb d_Si_fill_62 (lv_at hl 4 rfl) ?_
      obtain ⟨v64, hv, h⟩ := bd h
      refine m_iaload hx hb hK hw hv d_Si_fill_64 ?_
      refine lv_i2l hx hb d_Si_fill_65 rfl ?_
      refine lv_aload_n hx hb d_Si_fill_66 rfl (lv_at hl 2 rfl) ?_
      refine lv_iload hx hb d_Si_fill_67 (lv_at hl 7 rfl) ?_
      obtain ⟨v69, hv, h⟩ := bd h
      refine m_laload hx hb hK hw hv d_Si_fill_69 ?_
      refine lv_lmul hx hb d_Si_fill_70 ?_
      refine lv_lsub hx hb d_Si_fill_71 ?_
      obtain ⟨μ72, hm, h⟩ := bd h
      refine m_lastore hx hb hK hw hm d_Si_fill_72 (fun H locs hw => ?_)
      refine lv_aload hx hb d_Si_fill_73 (lv_at hl 6 rfl) ?_
      refine lv_iload hx hb d_Si_fill_75 (lv_at hl 7 rfl) ?_
      refine lv_aload_n hx hb d_Si_fill_77 rfl (lv_at hl 3 rfl) ?_
      refine va_get (D := G.1) (ci := 2) (v := .ref (G.2.1 21)) (C := "RecipePlans$Rules") (T := T_Ru) (N := 6) hx hb hts (fun _ h9 => List.mem_cons_of_mem _ (inT_Ru _ h9)) hown hK hw.1 2 (WL_get (by decide)) rfl 4 (by decide) (hts _ (List.mem_cons_of_mem _ tw_96)) (fun _ h9 => h9) rfl d_Si_fill_78 ?_
      refine lv_iload hx hb d_Si_fill_81 (lv_at hl 4 rfl) ?_
      obtain ⟨v83, hv, h⟩ := bd h
      refine m_iaload hx hb hK hw hv d_Si_fill_83 ?_
      refine lv_i2l hx hb d_Si_fill_84 rfl ?_
      refine lv_aload_n hx hb d_Si_fill_85 rfl (lv_at hl 2 rfl) ?_
      refine lv_iload hx hb d_Si_fill_86 (lv_at hl 7 rfl) ?_
      obtain ⟨v88, hv, h⟩ := bd h
      refine m_laload hx hb hK hw hv d_Si_fill_88 ?_
      refine lv_lmul hx hb d_Si_fill_89 ?_
      refine lv_lload hx hb d_Si_fill_90 (lv_at hl 0 rfl) ?_
      refine lv_lsub hx hb d_Si_fill_92 ?_
      obtain ⟨μ93, hm, h⟩ := bd h
      refine m_lastore hx hb hK hw hm d_Si_fill_93 (fun H locs hw => ?_)
      refine lv_iinc (v := x7 + 1) (lv' := [(7, .int (x7 + 1)), (8, .long x8_50), (1, .ref (G.2.1 k1)), (2, .ref (G.2.1 k2)), (3, .ref (G.2.1 2)), (4, .int x4), (5, .ref (G.2.1 k5)), (6, .ref (G.2.1 k6))]) hx hb d_Si_fill_94 hl (k := 7) rfl rfl (by decide) rfl (fun ls hl => ?_)
      refine lv_goto (tgt := 31) hx hb d_Si_fill_97 (by decide) ?_
      exact ih k1 k2 x4 k5 k6 (x7 + 1) μ93 _ _ _ hw (lv_sub hl [2, 3, 4, 5, 6, 7, 0] rfl) h
set_option maxRecDepth 100000 in
set_option maxHeartbeats 4000000 in
theorem c_Si_fill (l : Launch) (G : Gw) (N : Nat) (k1 : Nat) (k2 : Nat) (x4 : Int32) (μ : Mem) {μ' : Mem} (h : M_Si_fill N k1 k2 x4 μ = some μ') : CT l y_Si_fill ws_Si_fill rm_Si_fill [.ref (G.2.1 3), .ref (G.2.1 k1), .ref (G.2.1 k2), .ref (G.2.1 2), .int x4] G μ none μ' := by
  refine m_met (cc := prog_6_method_3_code) (maxL := 10) (ret := none) (by decide) rfl (Nat.le_of_ble_eq_true rfl) ?_
  intro p e s m args below meth c ls C hw hl
  obtain ⟨hx, hb, hr, hml, hown, hts, hlk, hK, hSt⟩ := id C
  have hl : lv_has ls 10 [(0, .ref (G.2.1 3)), (1, .ref (G.2.1 k1)), (2, .ref (G.2.1 k2)), (3, .ref (G.2.1 2)), (4, .int x4)] := hl
  unfold M_Si_fill at h
  refine lv_aload_n hx hb d_Si_fill_0 rfl (lv_at hl 0 rfl) ?_
  refine va_get (D := G.1) (ci := 3) (v := .ref (G.2.1 9)) (C := "RecipePlans$Sides") (T := T_Si) (N := 3) hx hb hts (fun _ h9 => List.mem_cons_of_mem _ (inT_Si _ h9)) hown hK hw.1 3 (WL_get (by decide)) rfl 2 (by decide) (hts _ (List.mem_cons_of_mem _ tw_118)) (fun _ h9 => h9) rfl d_Si_fill_1 ?_
  refine lv_iconst (v := 2) hx hb d_Si_fill_4 (by decide) ?_
  refine lv_aload_n hx hb d_Si_fill_5 rfl (lv_at hl 0 rfl) ?_
  refine va_get (D := G.1) (ci := 3) (v := .int (μ.1 3 0)) (C := "RecipePlans$Sides") (T := T_Si) (N := 3) hx hb hts (fun _ h9 => List.mem_cons_of_mem _ (inT_Si _ h9)) hown hK hw.1 3 (WL_get (by decide)) rfl 0 (by decide) (hts _ (List.mem_cons_of_mem _ tw_113)) (fun _ h9 => h9) rfl d_Si_fill_6 ?_
  refine lv_imul hx hb d_Si_fill_9 ?_
  obtain ⟨a10, hv, h⟩ := bd h
  refine m_aaload hx hb hK hw hv d_Si_fill_10 ?_
  refine lv_astore (lv' := [(5, .ref (G.2.1 a10)), (0, .ref (G.2.1 3)), (1, .ref (G.2.1 k1)), (2, .ref (G.2.1 k2)), (3, .ref (G.2.1 2)), (4, .int x4)]) hx hb d_Si_fill_11 hl (by decide) rfl (fun ls hl => ?_)
  refine lv_aload_n hx hb d_Si_fill_13 rfl (lv_at hl 1 rfl) ?_
  refine va_get (D := G.1) (ci := 3) (v := .ref (G.2.1 9)) (C := "RecipePlans$Sides") (T := T_Si) (N := 3) hx hb hts (fun _ h9 => List.mem_cons_of_mem _ (inT_Si _ h9)) hown hK hw.1 3 (WL_get (by decide)) rfl 2 (by decide) (hts _ (List.mem_cons_of_mem _ tw_118)) (fun _ h9 => h9) rfl d_Si_fill_14 ?_
  refine lv_iconst (v := 2) hx hb d_Si_fill_17 (by decide) ?_
  refine lv_aload_n hx hb d_Si_fill_18 rfl (lv_at hl 1 rfl) ?_
  refine va_get (D := G.1) (ci := 3) (v := .int (μ.1 3 0)) (C := "RecipePlans$Sides") (T := T_Si) (N := 3) hx hb hts (fun _ h9 => List.mem_cons_of_mem _ (inT_Si _ h9)) hown hK hw.1 3 (WL_get (by decide)) rfl 0 (by decide) (hts _ (List.mem_cons_of_mem _ tw_113)) (fun _ h9 => h9) rfl d_Si_fill_19 ?_
  refine lv_imul hx hb d_Si_fill_22 ?_
  refine lv_iconst (v := 1) hx hb d_Si_fill_23 (by decide) ?_
  refine lv_iadd hx hb d_Si_fill_24 ?_
  obtain ⟨a25, hv, h⟩ := bd h
  refine m_aaload hx hb hK hw hv d_Si_fill_25 ?_
  refine lv_astore (lv' := [(6, .ref (G.2.1 a25)), (5, .ref (G.2.1 a10)), (0, .ref (G.2.1 3)), (1, .ref (G.2.1 k1)), (2, .ref (G.2.1 k2)), (3, .ref (G.2.1 2)), (4, .int x4)]) hx hb d_Si_fill_26 hl (by decide) rfl (fun ls hl => ?_)
  refine lv_iconst (v := 0) hx hb d_Si_fill_28 (by decide) ?_
  refine lv_istore (lv' := [(7, .int (0 : Int32)), (6, .ref (G.2.1 a25)), (5, .ref (G.2.1 a10)), (0, .ref (G.2.1 3)), (1, .ref (G.2.1 k1)), (2, .ref (G.2.1 k2)), (3, .ref (G.2.1 2)), (4, .int x4)]) hx hb d_Si_fill_29 hl (by decide) rfl (fun ls hl => ?_)
  exact w_Si_fill_31 C N k1 k2 x4 a10 a25 (0 : Int32) μ _ _ _ hw (lv_sub hl [4, 5, 6, 7, 2, 1, 0] rfl) h
set_option maxRecDepth 100000 in
set_option maxHeartbeats 4000000 in
theorem w_Si_build_7 {μ' : Mem} {N : Nat} (C : CxA G p s m args meth c prog_6_method_2_code 4 none "RecipePlans$Sides" ws_Si_build) : ∀ (n : Nat) (x3 : Int32) (μ : Mem) (H : Heap) (locs : List Loc) (ls : Array Slot), Wk G s μ H locs → lv_has ls 4 [(0, .ref (G.2.1 3)), (1, .ref (G.2.1 1)), (2, .ref (G.2.1 2)), (3, .int x3)] → M_Si_build_7 N n x3 μ = some μ' → WA G rm_Si_build p l e s m args below meth c none μ' H locs 7 ls [] := by
  obtain ⟨hx, hb, hr, hml, hown, hts, hlk, hK, hSt⟩ := id C
  intro n
  induction n with
  | zero =>
    intro x3 μ H locs ls hw hl h
    rw [M_Si_build_7] at h
    cases h
  | succ n ih =>
    intro x3 μ H locs ls hw hl h
    rw [M_Si_build_7] at h
    refine lv_iload_n hx hb d_Si_build_7 rfl (lv_at hl 3 rfl) ?_
    refine lv_bipush (v := 8) hx hb d_Si_build_8 (by decide) ?_
    refine lv_icmp_ge (tgt := 75) hx hb d_Si_build_10 (by decide) (fun c10 => ?_) (fun c10 => ?_)
    · have h := ifp c10 h
      exact m_vret hx hb hr hlk hw h d_Si_build_75
    · have h := ifn c10 h
      refine lv_aload_n hx hb d_Si_build_13 rfl (lv_at hl 2 rfl) ?_
      refine lv_iload_n hx hb d_Si_build_14 rfl (lv_at hl 3 rfl) ?_
      obtain ⟨r15, μ15, hq, h⟩ := bd2 h
      refine m_call (r := some (.int r15)) (μ1 := μ15) (va_runV (C := "RecipePlans$Rules") (As := [.int x3]) (rest := []) ⟨hx, hb, hml, hown, hts⟩ (c_Ru_isTold l G N x3 μ hq _) (cwV 1 hts (gdV tw_297 tw_284 tw_285 tw_36 tw_286) rfl rfl rfl (by decide +kernel) ⟨Nat.le_of_ble_eq_true rfl, Nat.le_of_ble_eq_true rfl⟩) (m_preV (k := 2) (by decide) rfl hK hSt hw) rfl rfl hl.1 rfl (lv_room (Nat.le_of_ble_eq_true rfl)) d_Si_build_15 ⟨Nat.zero_le _, Nat.zero_le _⟩) hw (fun H locs hw => ?_)
      refine lv_if_eq (tgt := 69) hx hb d_Si_build_18 (by decide) (fun c18 => ?_) (fun c18 => ?_)
      · have h := ifp c18 h
        refine lv_iinc (v := x3 + 1) (lv' := [(3, .int (x3 + 1)), (0, .ref (G.2.1 3)), (1, .ref (G.2.1 1)), (2, .ref (G.2.1 2))]) hx hb d_Si_build_69 hl (k := 3) rfl rfl (by decide) rfl (fun ls hl => ?_)
        refine lv_goto (tgt := 7) hx hb d_Si_build_72 (by decide) ?_
        exact ih (x3 + 1) μ15 _ _ _ hw (lv_sub hl [1, 2, 3, 0] rfl) h
      · have h := ifn c18 h
        refine lv_aload_n hx hb d_Si_build_21 rfl (lv_at hl 0 rfl) ?_
        refine va_get (D := G.1) (ci := 3) (v := .ref (G.2.1 23)) (C := "RecipePlans$Sides") (T := T_Si) (N := 3) hx hb hts (fun _ h9 => List.mem_cons_of_mem _ (inT_Si _ h9)) hown hK hw.1 3 (WL_get (by decide)) rfl 1 (by decide) (hts _ (List.mem_cons_of_mem _ tw_116)) (fun _ h9 => h9) rfl d_Si_build_22 ?_
        refine lv_aload_n hx hb d_Si_build_25 rfl (lv_at hl 0 rfl) ?_
        refine va_get (D := G.1) (ci := 3) (v := .int (μ15.1 3 0)) (C := "RecipePlans$Sides") (T := T_Si) (N := 3) hx hb hts (fun _ h9 => List.mem_cons_of_mem _ (inT_Si _ h9)) hown hK hw.1 3 (WL_get (by decide)) rfl 0 (by decide) (hts _ (List.mem_cons_of_mem _ tw_113)) (fun _ h9 => h9) rfl d_Si_build_26 ?_
        refine lv_iload_n hx hb d_Si_build_29 rfl (lv_at hl 3 rfl) ?_
        obtain ⟨μ30, hm, h⟩ := bd h
        refine m_iastore hx hb hK hw hm d_Si_build_30 (fun H locs hw => ?_)
        refine lv_aload_n hx hb d_Si_build_31 rfl (lv_at hl 0 rfl) ?_
        refine lv_aload_n hx hb d_Si_build_32 rfl (lv_at hl 1 rfl) ?_
        refine va_get (D := G.1) (ci := 1) (v := .ref (G.2.1 8)) (C := "RecipePlans$Lots") (T := T_Lo) (N := 4) hx hb hts (fun _ h9 => List.mem_cons_of_mem _ (inT_Lo _ h9)) hown hK hw.1 1 (WL_get (by decide)) rfl 3 (by decide) (hts _ (List.mem_cons_of_mem _ tw_68)) (fun _ h9 => h9) rfl d_Si_build_33 ?_
        refine lv_aload_n hx hb d_Si_build_36 rfl (lv_at hl 2 rfl) ?_
        refine va_get (D := G.1) (ci := 2) (v := .ref (G.2.1 18)) (C := "RecipePlans$Rules") (T := T_Ru) (N := 6) hx hb hts (fun _ h9 => List.mem_cons_of_mem _ (inT_Ru _ h9)) hown hK hw.1 2 (WL_get (by decide)) rfl 1 (by decide) (hts _ (List.mem_cons_of_mem _ tw_87)) (fun _ h9 => h9) rfl d_Si_build_37 ?_
        refine lv_iload_n hx hb d_Si_build_40 rfl (lv_at hl 3 rfl) ?_
        obtain ⟨v41, hv, h⟩ := bd h
        refine m_iaload hx hb hK hw hv d_Si_build_41 ?_
        obtain ⟨a42, hv, h⟩ := bd h
        refine m_aaload hx hb hK hw hv d_Si_build_42 ?_
        refine lv_aload_n hx hb d_Si_build_43 rfl (lv_at hl 1 rfl) ?_
        refine va_get (D := G.1) (ci := 1) (v := .ref (G.2.1 8)) (C := "RecipePlans$Lots") (T := T_Lo) (N := 4) hx hb hts (fun _ h9 => List.mem_cons_of_mem _ (inT_Lo _ h9)) hown hK hw.1 1 (WL_get (by decide)) rfl 3 (by decide) (hts _ (List.mem_cons_of_mem _ tw_68)) (fun _ h9 => h9) rfl d_Si_build_44 ?_
        refine lv_aload_n hx hb d_Si_build_47 rfl (lv_at hl 2 rfl) ?_
        refine va_get (D := G.1) (ci := 2) (v := .ref (G.2.1 19)) (C := "RecipePlans$Rules") (T := T_Ru) (N := 6) hx hb hts (fun _ h9 => List.mem_cons_of_mem _ (inT_Ru _ h9)) hown hK hw.1 2 (WL_get (by decide)) rfl 2 (by decide) (hts _ (List.mem_cons_of_mem _ tw_90)) (fun _ h9 => h9) rfl d_Si_build_48 ?_
        refine lv_iload_n hx hb d_Si_build_51 rfl (lv_at hl 3 rfl) ?_
        obtain ⟨v52, hv, h⟩ := bd h
        refine m_iaload hx hb hK hw hv d_Si_build_52 ?_
        obtain ⟨a53, hv, h⟩ := bd h
        refine m_aaload hx hb hK hw hv d_Si_build_53 ?_
        refine lv_aload_n hx hb d_Si_build_54 rfl (lv_at hl 2 rfl) ?_
        refine lv_iload_n hx hb d_Si_build_55 rfl (lv_at hl 3 rfl) ?_
        obtain ⟨μ56, hq, h⟩ := bd h
        refine m_call (r := none) (μ1 := μ56) (va_runV (C := "RecipePlans$Sides") (As := [.ref (G.2.1 a42), .ref (G.2.1 a53), .ref (G.2.1 2), .int x3]) (rest := []) ⟨hx, hb, hml, hown, hts⟩ (c_Si_fill l G N a42 a53 x3 μ30 hq _) (cwV 4 hts (gdV tw_298 tw_299 tw_0 tw_37 tw_300) rfl rfl rfl (by decide +kernel) ⟨Nat.le_of_ble_eq_true rfl, Nat.le_of_ble_eq_true rfl⟩) (m_preV (k := 3) (by decide) rfl hK hSt hw) rfl rfl hl.1 rfl (lv_room (Nat.le_of_ble_eq_true rfl)) d_Si_build_56 ⟨Nat.zero_le _, Nat.zero_le _⟩) hw (fun H locs hw => ?_)
        refine lv_aload_n hx hb d_Si_build_59 rfl (lv_at hl 0 rfl) ?_
        refine lv_dup hx hb d_Si_build_60 rfl ?_
        refine va_get (D := G.1) (ci := 3) (v := .int (μ56.1 3 0)) (C := "RecipePlans$Sides") (T := T_Si) (N := 3) hx hb hts (fun _ h9 => List.mem_cons_of_mem _ (inT_Si _ h9)) hown hK hw.1 3 (WL_get (by decide)) rfl 0 (by decide) (hts _ (List.mem_cons_of_mem _ tw_113)) (fun _ h9 => h9) rfl d_Si_build_61 ?_
        refine lv_iconst (v := 1) hx hb d_Si_build_64 (by decide) ?_
        refine lv_iadd hx hb d_Si_build_65 ?_
        obtain ⟨μ66, hm, h⟩ := bd h
        refine va_put (D := G.1) (ci := 3) (v := .int ((μ56.1 3 0) + (1 : Int32))) (ty := .int) (C := "RecipePlans$Sides") (T := T_Si) (N := 3) hx hb hts (fun _ h9 => List.mem_cons_of_mem _ (inT_Si _ h9)) ty_Si tyok_Si nm_Si hown hK hw.1 hw.2.1 hw.2.2 3 (WL_get (by decide)) rfl 0 (by decide) (hts _ (List.mem_cons_of_mem _ tw_113)) (fun _ h9 => h9) rfl (by decide +kernel) rfl rfl (Nat.le_of_ble_eq_true rfl) d_Si_build_66 (fun H locs hP hD hS => ?_)
        have hw := wk_pI hm (by decide) (by rfl) hP hD hS
        refine lv_iinc (v := x3 + 1) (lv' := [(3, .int (x3 + 1)), (0, .ref (G.2.1 3)), (1, .ref (G.2.1 1)), (2, .ref (G.2.1 2))]) hx hb d_Si_build_69 hl (k := 3) rfl rfl (by decide) rfl (fun ls hl => ?_)
        refine lv_goto (tgt := 7) hx hb d_Si_build_72 (by decide) ?_
        exact ih (x3 + 1) μ66 _ _ _ hw (lv_sub hl [1, 2, 3, 0] rfl) h
set_option maxRecDepth 100000 in
set_option maxHeartbeats 4000000 in
theorem c_Si_build (l : Launch) (G : Gw) (N : Nat) (μ : Mem) {μ' : Mem} (h : M_Si_build N μ = some μ') : CT l y_Si_build ws_Si_build rm_Si_build [.ref (G.2.1 3), .ref (G.2.1 1), .ref (G.2.1 2)] G μ none μ' := by
  refine m_met (cc := prog_6_method_2_code) (maxL := 4) (ret := none) (by decide) rfl (Nat.le_of_ble_eq_true rfl) ?_
  intro p e s m args below meth c ls C hw hl
  obtain ⟨hx, hb, hr, hml, hown, hts, hlk, hK, hSt⟩ := id C
  have hl : lv_has ls 4 [(0, .ref (G.2.1 3)), (1, .ref (G.2.1 1)), (2, .ref (G.2.1 2))] := hl
  unfold M_Si_build at h
  refine lv_aload_n hx hb d_Si_build_0 rfl (lv_at hl 0 rfl) ?_
  refine lv_iconst (v := 0) hx hb d_Si_build_1 (by decide) ?_
  obtain ⟨μ2, hm, h⟩ := bd h
  refine va_put (D := G.1) (ci := 3) (v := .int (0 : Int32)) (ty := .int) (C := "RecipePlans$Sides") (T := T_Si) (N := 3) hx hb hts (fun _ h9 => List.mem_cons_of_mem _ (inT_Si _ h9)) ty_Si tyok_Si nm_Si hown hK hw.1 hw.2.1 hw.2.2 3 (WL_get (by decide)) rfl 0 (by decide) (hts _ (List.mem_cons_of_mem _ tw_113)) (fun _ h9 => h9) rfl (by decide +kernel) rfl rfl (Nat.le_of_ble_eq_true rfl) d_Si_build_2 (fun H locs hP hD hS => ?_)
  have hw := wk_pI hm (by decide) (by rfl) hP hD hS
  refine lv_iconst (v := 0) hx hb d_Si_build_5 (by decide) ?_
  refine lv_istore_n (lv' := [(3, .int (0 : Int32)), (0, .ref (G.2.1 3)), (1, .ref (G.2.1 1)), (2, .ref (G.2.1 2))]) hx hb d_Si_build_6 rfl hl (by decide) rfl (fun ls hl => ?_)
  exact w_Si_build_7 C N (0 : Int32) μ2 _ _ _ hw (lv_sub hl [1, 2, 3, 0] rfl) h
set_option maxRecDepth 100000 in
set_option maxHeartbeats 4000000 in
theorem w_Lo_inStock_4 {r : Int32} {μ' : Mem} {N : Nat} (C : CxA G p s m args meth c prog_4_method_4_code 3 (some .int) "RecipePlans$Lots" ws_Lo_inStock) : ∀ (n : Nat) (x1 : Int32) (x2 : Int32) (μ : Mem) (H : Heap) (locs : List Loc) (ls : Array Slot), Wk G s μ H locs → lv_has ls 3 [(0, .ref (G.2.1 1)), (1, .int x1), (2, .int x2)] → M_Lo_inStock_4 N n x1 x2 μ = some (r, μ') → WA G rm_Lo_inStock p l e s m args below meth c (some (.int r)) μ' H locs 4 ls [] := by
  obtain ⟨hx, hb, hr, hml, hown, hts, hlk, hK, hSt⟩ := id C
  intro n
  induction n with
  | zero =>
    intro x1 x2 μ H locs ls hw hl h
    rw [M_Lo_inStock_4] at h
    cases h
  | succ n ih =>
    intro x1 x2 μ H locs ls hw hl h
    rw [M_Lo_inStock_4] at h
    refine lv_iload_n hx hb d_Lo_inStock_4 rfl (lv_at hl 2 rfl) ?_
    refine lv_iconst (v := 4) hx hb d_Lo_inStock_5 (by decide) ?_
    refine lv_icmp_ge (tgt := 30) hx hb d_Lo_inStock_6 (by decide) (fun c6 => ?_) (fun c6 => ?_)
    · have h := ifp c6 h
      refine lv_iload_n hx hb d_Lo_inStock_30 rfl (lv_at hl 1 rfl) ?_
      exact m_iret hx hb hr hlk hw h d_Lo_inStock_31
    · have h := ifn c6 h
      refine lv_aload_n hx hb d_Lo_inStock_9 rfl (lv_at hl 0 rfl) ?_
      refine va_get (D := G.1) (ci := 1) (v := .ref (G.2.1 17)) (C := "RecipePlans$Lots") (T := T_Lo) (N := 4) hx hb hts (fun _ h9 => List.mem_cons_of_mem _ (inT_Lo _ h9)) hown hK hw.1 1 (WL_get (by decide)) rfl 1 (by decide) (hts _ (List.mem_cons_of_mem _ tw_60)) (fun _ h9 => h9) rfl d_Lo_inStock_10 ?_
      refine lv_iload_n hx hb d_Lo_inStock_13 rfl (lv_at hl 2 rfl) ?_
      obtain ⟨v14, hv, h⟩ := bd h
      refine m_iaload hx hb hK hw hv d_Lo_inStock_14 ?_
      refine lv_if_le (tgt := 24) hx hb d_Lo_inStock_15 (by decide) (fun c15 => ?_) (fun c15 => ?_)
      · have h := ifp c15 h
        refine lv_iinc (v := x2 + 1) (lv' := [(2, .int (x2 + 1)), (0, .ref (G.2.1 1)), (1, .int x1)]) hx hb d_Lo_inStock_24 hl (k := 2) rfl rfl (by decide) rfl (fun ls hl => ?_)
        refine lv_goto (tgt := 4) hx hb d_Lo_inStock_27 (by decide) ?_
        exact ih x1 (x2 + 1) μ _ _ _ hw (lv_sub hl [1, 2, 0] rfl) h
      · have h := ifn c15 h
        refine lv_iload_n hx hb d_Lo_inStock_18 rfl (lv_at hl 1 rfl) ?_
        refine lv_iconst (v := 1) hx hb d_Lo_inStock_19 (by decide) ?_
        refine lv_iload_n hx hb d_Lo_inStock_20 rfl (lv_at hl 2 rfl) ?_
        refine lv_ishl hx hb d_Lo_inStock_21 ?_
        refine lv_ior hx hb d_Lo_inStock_22 ?_
        obtain ⟨x1_23, ex1_23, h⟩ := nmx h
        refine m_eqi ex1_23 ?_
        refine lv_istore_n (lv' := [(1, .int x1_23), (0, .ref (G.2.1 1)), (2, .int x2)]) hx hb d_Lo_inStock_23 rfl hl (by decide) rfl (fun ls hl => ?_)
        refine lv_iinc (v := x2 + 1) (lv' := [(2, .int (x2 + 1)), (1, .int x1_23), (0, .ref (G.2.1 1))]) hx hb d_Lo_inStock_24 hl (k := 2) rfl rfl (by decide) rfl (fun ls hl => ?_)
        refine lv_goto (tgt := 4) hx hb d_Lo_inStock_27 (by decide) ?_
        exact ih x1_23 (x2 + 1) μ _ _ _ hw (lv_sub hl [2, 1, 0] rfl) h
set_option maxRecDepth 100000 in
set_option maxHeartbeats 4000000 in
theorem c_Lo_inStock (l : Launch) (G : Gw) (N : Nat) (μ : Mem) {r : Int32} {μ' : Mem} (h : M_Lo_inStock N μ = some (r, μ')) : CT l y_Lo_inStock ws_Lo_inStock rm_Lo_inStock [.ref (G.2.1 1)] G μ (some (.int r)) μ' := by
  refine m_met (cc := prog_4_method_4_code) (maxL := 3) (ret := (some .int)) (by decide) rfl (Nat.le_of_ble_eq_true rfl) ?_
  intro p e s m args below meth c ls C hw hl
  obtain ⟨hx, hb, hr, hml, hown, hts, hlk, hK, hSt⟩ := id C
  have hl : lv_has ls 3 [(0, .ref (G.2.1 1))] := hl
  unfold M_Lo_inStock at h
  refine lv_iconst (v := 0) hx hb d_Lo_inStock_0 (by decide) ?_
  refine lv_istore_n (lv' := [(1, .int (0 : Int32)), (0, .ref (G.2.1 1))]) hx hb d_Lo_inStock_1 rfl hl (by decide) rfl (fun ls hl => ?_)
  refine lv_iconst (v := 0) hx hb d_Lo_inStock_2 (by decide) ?_
  refine lv_istore_n (lv' := [(2, .int (0 : Int32)), (1, .int (0 : Int32)), (0, .ref (G.2.1 1))]) hx hb d_Lo_inStock_3 rfl hl (by decide) rfl (fun ls hl => ?_)
  exact w_Lo_inStock_4 C N (0 : Int32) (0 : Int32) μ _ _ _ hw (lv_sub hl [2, 1, 0] rfl) h
set_option maxRecDepth 100000 in
set_option maxHeartbeats 4000000 in
theorem c_In_bitCount (l : Launch) (N : Nat) (x0 : Int32) {r : Int32} (h : M_In_bitCount N x0 = some r) : CTp l y_In_bitCount ws_In_bitCount rm_In_bitCount [.int x0] (.int r) := by
  refine m_metP (cc := prog_10_method_49_code) (maxL := 1) (ret := (some .int)) (by decide +kernel) rfl (Nat.le_of_ble_eq_true rfl) ?_
  intro p e s m args below meth c ls C hl
  obtain ⟨hx, hb, hr, hml, hown, hts, hlk⟩ := id C
  have hl : lv_has ls 1 [(0, .int x0)] := hl
  unfold M_In_bitCount at h
  refine lv_iload_n hx hb d_In_bitCount_0 rfl (lv_at hl 0 rfl) ?_
  refine lv_iload_n hx hb d_In_bitCount_1 rfl (lv_at hl 0 rfl) ?_
  refine lv_iconst (v := 1) hx hb d_In_bitCount_2 (by decide) ?_
  refine lv_iushr hx hb d_In_bitCount_3 rfl ?_
  refine lv_ldcw (v := 1431655765) hx hb hown (hts _ (List.mem_cons_of_mem _ tw_328)) d_In_bitCount_4 ?_
  refine lv_iand hx hb d_In_bitCount_7 ?_
  refine lv_isub hx hb d_In_bitCount_8 ?_
  obtain ⟨x0_9, ex0_9, h⟩ := nmx h
  refine m_eqi ex0_9 ?_
  refine lv_istore_n (lv' := [(0, .int x0_9)]) hx hb d_In_bitCount_9 rfl hl (by decide) rfl (fun ls hl => ?_)
  refine lv_iload_n hx hb d_In_bitCount_10 rfl (lv_at hl 0 rfl) ?_
  refine lv_ldcw (v := 858993459) hx hb hown (hts _ (List.mem_cons_of_mem _ tw_329)) d_In_bitCount_11 ?_
  refine lv_iand hx hb d_In_bitCount_14 ?_
  refine lv_iload_n hx hb d_In_bitCount_15 rfl (lv_at hl 0 rfl) ?_
  refine lv_iconst (v := 2) hx hb d_In_bitCount_16 (by decide) ?_
  refine lv_iushr hx hb d_In_bitCount_17 rfl ?_
  refine lv_ldcw (v := 858993459) hx hb hown (hts _ (List.mem_cons_of_mem _ tw_329)) d_In_bitCount_18 ?_
  refine lv_iand hx hb d_In_bitCount_21 ?_
  refine lv_iadd hx hb d_In_bitCount_22 ?_
  obtain ⟨x0_23, ex0_23, h⟩ := nmx h
  refine m_eqi ex0_23 ?_
  refine lv_istore_n (lv' := [(0, .int x0_23)]) hx hb d_In_bitCount_23 rfl hl (by decide) rfl (fun ls hl => ?_)
  refine lv_iload_n hx hb d_In_bitCount_24 rfl (lv_at hl 0 rfl) ?_
  refine lv_iload_n hx hb d_In_bitCount_25 rfl (lv_at hl 0 rfl) ?_
  refine lv_iconst (v := 4) hx hb d_In_bitCount_26 (by decide) ?_
  refine lv_iushr hx hb d_In_bitCount_27 rfl ?_
  refine lv_iadd hx hb d_In_bitCount_28 ?_
  refine lv_ldcw (v := 252645135) hx hb hown (hts _ (List.mem_cons_of_mem _ tw_330)) d_In_bitCount_29 ?_
  refine lv_iand hx hb d_In_bitCount_32 ?_
  obtain ⟨x0_33, ex0_33, h⟩ := nmx h
  refine m_eqi ex0_33 ?_
  refine lv_istore_n (lv' := [(0, .int x0_33)]) hx hb d_In_bitCount_33 rfl hl (by decide) rfl (fun ls hl => ?_)
  refine lv_iload_n hx hb d_In_bitCount_34 rfl (lv_at hl 0 rfl) ?_
  refine lv_iload_n hx hb d_In_bitCount_35 rfl (lv_at hl 0 rfl) ?_
  refine lv_bipush (v := 8) hx hb d_In_bitCount_36 (by decide) ?_
  refine lv_iushr hx hb d_In_bitCount_38 rfl ?_
  refine lv_iadd hx hb d_In_bitCount_39 ?_
  obtain ⟨x0_40, ex0_40, h⟩ := nmx h
  refine m_eqi ex0_40 ?_
  refine lv_istore_n (lv' := [(0, .int x0_40)]) hx hb d_In_bitCount_40 rfl hl (by decide) rfl (fun ls hl => ?_)
  refine lv_iload_n hx hb d_In_bitCount_41 rfl (lv_at hl 0 rfl) ?_
  refine lv_iload_n hx hb d_In_bitCount_42 rfl (lv_at hl 0 rfl) ?_
  refine lv_bipush (v := 16) hx hb d_In_bitCount_43 (by decide) ?_
  refine lv_iushr hx hb d_In_bitCount_45 rfl ?_
  refine lv_iadd hx hb d_In_bitCount_46 ?_
  obtain ⟨x0_47, ex0_47, h⟩ := nmx h
  refine m_eqi ex0_47 ?_
  refine lv_istore_n (lv' := [(0, .int x0_47)]) hx hb d_In_bitCount_47 rfl hl (by decide) rfl (fun ls hl => ?_)
  refine lv_iload_n hx hb d_In_bitCount_48 rfl (lv_at hl 0 rfl) ?_
  refine lv_bipush (v := 63) hx hb d_In_bitCount_49 (by decide) ?_
  refine lv_iand hx hb d_In_bitCount_51 ?_
  exact m_piret hx hb hr hlk h d_In_bitCount_52
set_option maxRecDepth 100000 in
set_option maxHeartbeats 4000000 in
theorem w_Lo_price_5 {r : Int64} {μ' : Mem} {N : Nat} (C : CxA G p s m args meth c prog_4_method_3_code 5 (some .long) "RecipePlans$Lots" ws_Lo_price) : ∀ (n : Nat) (k1 : Nat) (x2 : Int64) (x4 : Int32) (μ : Mem) (H : Heap) (locs : List Loc) (ls : Array Slot), Wk G s μ H locs → lv_has ls 5 [(0, .ref (G.2.1 1)), (1, .ref (G.2.1 k1)), (2, .long x2), (4, .int x4)] → M_Lo_price_5 N n k1 x2 x4 μ = some (r, μ') → WA G rm_Lo_price p l e s m args below meth c (some (.long r)) μ' H locs 5 ls [] := by
  obtain ⟨hx, hb, hr, hml, hown, hts, hlk, hK, hSt⟩ := id C
  intro n
  induction n with
  | zero =>
    intro k1 x2 x4 μ H locs ls hw hl h
    rw [M_Lo_price_5] at h
    cases h
  | succ n ih =>
    intro k1 x2 x4 μ H locs ls hw hl h
    rw [M_Lo_price_5] at h
    refine lv_iload hx hb d_Lo_price_5 (lv_at hl 3 rfl) ?_
    refine lv_iconst (v := 4) hx hb d_Lo_price_7 (by decide) ?_
    refine lv_icmp_ge (tgt := 32) hx hb d_Lo_price_8 (by decide) (fun c8 => ?_) (fun c8 => ?_)
    · have h := ifp c8 h
      refine lv_lload_n hx hb d_Lo_price_32 rfl (lv_at hl 2 rfl) ?_
      exact m_lret hx hb hr hlk hw h d_Lo_price_33
    · have h := ifn c8 h
      refine lv_lload_n hx hb d_Lo_price_11 rfl (lv_at hl 2 rfl) ?_
      refine lv_aload_n hx hb d_Lo_price_12 rfl (lv_at hl 0 rfl) ?_
      refine va_get (D := G.1) (ci := 1) (v := .ref (G.2.1 42)) (C := "RecipePlans$Lots") (T := T_Lo) (N := 4) hx hb hts (fun _ h9 => List.mem_cons_of_mem _ (inT_Lo _ h9)) hown hK hw.1 1 (WL_get (by decide)) rfl 2 (by decide) (hts _ (List.mem_cons_of_mem _ tw_64)) (fun _ h9 => h9) rfl d_Lo_price_13 ?_
      refine lv_iload hx hb d_Lo_price_16 (lv_at hl 3 rfl) ?_
      obtain ⟨v18, hv, h⟩ := bd h
      refine m_laload hx hb hK hw hv d_Lo_price_18 ?_
      refine lv_aload_n hx hb d_Lo_price_19 rfl (lv_at hl 1 rfl) ?_
      refine lv_iload hx hb d_Lo_price_20 (lv_at hl 3 rfl) ?_
      obtain ⟨v22, hv, h⟩ := bd h
      refine m_laload hx hb hK hw hv d_Lo_price_22 ?_
      refine lv_lmul hx hb d_Lo_price_23 ?_
      refine lv_ladd hx hb d_Lo_price_24 ?_
      obtain ⟨x2_25, ex2_25, h⟩ := nmx h
      refine m_eql ex2_25 ?_
      refine lv_lstore_n (lv' := [(2, .long x2_25), (0, .ref (G.2.1 1)), (1, .ref (G.2.1 k1)), (4, .int x4)]) hx hb d_Lo_price_25 rfl hl (by decide) rfl (fun ls hl => ?_)
      refine lv_iinc (v := x4 + 1) (lv' := [(4, .int (x4 + 1)), (2, .long x2_25), (0, .ref (G.2.1 1)), (1, .ref (G.2.1 k1))]) hx hb d_Lo_price_26 hl (k := 3) rfl rfl (by decide) rfl (fun ls hl => ?_)
      refine lv_goto (tgt := 5) hx hb d_Lo_price_29 (by decide) ?_
      exact ih k1 x2_25 (x4 + 1) μ _ _ _ hw (lv_sub hl [2, 3, 1, 0] rfl) h
set_option maxRecDepth 100000 in
set_option maxHeartbeats 4000000 in
theorem c_Lo_price (l : Launch) (G : Gw) (N : Nat) (k1 : Nat) (μ : Mem) {r : Int64} {μ' : Mem} (h : M_Lo_price N k1 μ = some (r, μ')) : CT l y_Lo_price ws_Lo_price rm_Lo_price [.ref (G.2.1 1), .ref (G.2.1 k1)] G μ (some (.long r)) μ' := by
  refine m_met (cc := prog_4_method_3_code) (maxL := 5) (ret := (some .long)) (by decide) rfl (Nat.le_of_ble_eq_true rfl) ?_
  intro p e s m args below meth c ls C hw hl
  obtain ⟨hx, hb, hr, hml, hown, hts, hlk, hK, hSt⟩ := id C
  have hl : lv_has ls 5 [(0, .ref (G.2.1 1)), (1, .ref (G.2.1 k1))] := hl
  unfold M_Lo_price at h
  refine lv_lconst (v := 0) hx hb d_Lo_price_0 (by decide) ?_
  refine lv_lstore_n (lv' := [(2, .long (0 : Int64)), (0, .ref (G.2.1 1)), (1, .ref (G.2.1 k1))]) hx hb d_Lo_price_1 rfl hl (by decide) rfl (fun ls hl => ?_)
  refine lv_iconst (v := 0) hx hb d_Lo_price_2 (by decide) ?_
  refine lv_istore (lv' := [(4, .int (0 : Int32)), (2, .long (0 : Int64)), (0, .ref (G.2.1 1)), (1, .ref (G.2.1 k1))]) hx hb d_Lo_price_3 hl (by decide) rfl (fun ls hl => ?_)
  exact w_Lo_price_5 C N k1 (0 : Int64) (0 : Int32) μ _ _ _ hw (lv_sub hl [2, 3, 1, 0] rfl) h
set_option maxRecDepth 100000 in
set_option maxHeartbeats 4000000 in
theorem c_Ma_floorDiv (l : Launch) (N : Nat) (x0 : Int64) (x2 : Int64) {r : Int64} (h : M_Ma_floorDiv N x0 x2 = some r) : CTp l y_Ma_floorDiv ws_Ma_floorDiv rm_Ma_floorDiv [.long x0, .long x2] (.long r) := by
  refine m_metP (cc := prog_11_method_49_code) (maxL := 6) (ret := (some .long)) (by decide +kernel) rfl (Nat.le_of_ble_eq_true rfl) ?_
  intro p e s m args below meth c ls C hl
  obtain ⟨hx, hb, hr, hml, hown, hts, hlk⟩ := id C
  have hl : lv_has ls 6 [(0, .long x0), (2, .long x2)] := hl
  unfold M_Ma_floorDiv at h
  refine lv_lload_n hx hb d_Ma_floorDiv_0 rfl (lv_at hl 0 rfl) ?_
  refine lv_lload_n hx hb d_Ma_floorDiv_1 rfl (lv_at hl 1 rfl) ?_
  obtain ⟨v2, hv, h⟩ := bd h
  refine m_ldiv hx hb hv d_Ma_floorDiv_2 ?_
  refine lv_lstore (lv' := [(4, .long v2), (0, .long x0), (2, .long x2)]) hx hb d_Ma_floorDiv_3 hl (by decide) rfl (fun ls hl => ?_)
  refine lv_lload_n hx hb d_Ma_floorDiv_5 rfl (lv_at hl 1 rfl) ?_
  refine lv_lload_n hx hb d_Ma_floorDiv_6 rfl (lv_at hl 2 rfl) ?_
  refine lv_lxor hx hb d_Ma_floorDiv_7 ?_
  refine lv_lconst (v := 0) hx hb d_Ma_floorDiv_8 (by decide) ?_
  refine W.lcmp hx hb d_Ma_floorDiv_9 ?_
  refine lv_if_ge (tgt := 27) hx hb d_Ma_floorDiv_10 (by decide) (fun c10 => ?_) (fun c10 => ?_)
  · have h := ifp c10 h
    refine lv_lload hx hb d_Ma_floorDiv_27 (lv_at hl 0 rfl) ?_
    exact m_plret hx hb hr hlk h d_Ma_floorDiv_29
  · have h := ifn c10 h
    refine lv_lload hx hb d_Ma_floorDiv_13 (lv_at hl 0 rfl) ?_
    refine lv_lload_n hx hb d_Ma_floorDiv_15 rfl (lv_at hl 2 rfl) ?_
    refine lv_lmul hx hb d_Ma_floorDiv_16 ?_
    refine lv_lload_n hx hb d_Ma_floorDiv_17 rfl (lv_at hl 1 rfl) ?_
    refine W.lcmp hx hb d_Ma_floorDiv_18 ?_
    refine lv_if_eq (tgt := 27) hx hb d_Ma_floorDiv_19 (by decide) (fun c19 => ?_) (fun c19 => ?_)
    · have h := ifp c19 h
      refine lv_lload hx hb d_Ma_floorDiv_27 (lv_at hl 0 rfl) ?_
      exact m_plret hx hb hr hlk h d_Ma_floorDiv_29
    · have h := ifn c19 h
      refine lv_lload hx hb d_Ma_floorDiv_22 (lv_at hl 0 rfl) ?_
      refine lv_lconst (v := 1) hx hb d_Ma_floorDiv_24 (by decide) ?_
      refine lv_lsub hx hb d_Ma_floorDiv_25 ?_
      exact m_plret hx hb hr hlk h d_Ma_floorDiv_26
set_option maxRecDepth 100000 in
set_option maxHeartbeats 4000000 in
theorem w_Lo_hold_22 {μ' : Mem} {N : Nat} (C : CxA G p s m args meth c prog_4_method_2_code 8 none "RecipePlans$Lots" ws_Lo_hold) {K2 : Nat → Nat → Int32 → Mem → Option Mem} (hK2 : ∀ (k1 : Nat) (k2 : Nat) (x3 : Int32) (μ : Mem) (H : Heap) (locs : List Loc) (ls : Array Slot), Wk G s μ H locs → lv_has ls 8 [(0, .ref (G.2.1 1)), (1, .ref (G.2.1 k1)), (2, .ref (G.2.1 k2)), (3, .int x3)] → K2 k1 k2 x3 μ = some μ' → WA G rm_Lo_hold p l e s m args below meth c none μ' H locs 2 ls []) : ∀ (n : Nat) (k1 : Nat) (k2 : Nat) (x3 : Int32) (k4 : Nat) (x5 : Int64) (x7 : Int32) (μ : Mem) (H : Heap) (locs : List Loc) (ls : Array Slot), Wk G s μ H locs → lv_has ls 8 [(0, .ref (G.2.1 1)), (1, .ref (G.2.1 k1)), (2, .ref (G.2.1 k2)), (3, .int x3), (4, .ref (G.2.1 k4)), (5, .long x5), (7, .int x7)] → M_Lo_hold_22 N K2 n k1 k2 x3 k4 x5 x7 μ = some μ' → WA G rm_Lo_hold p l e s m args below meth c none μ' H locs 22 ls [] := by
  obtain ⟨hx, hb, hr, hml, hown, hts, hlk, hK, hSt⟩ := id C
  intro n
  induction n with
  | zero =>
    intro k1 k2 x3 k4 x5 x7 μ H locs ls hw hl h
    rw [M_Lo_hold_22] at h
    cases h
  | succ n ih =>
    intro k1 k2 x3 k4 x5 x7 μ H locs ls hw hl h
    rw [M_Lo_hold_22] at h
    refine lv_iload hx hb d_Lo_hold_22 (lv_at hl 6 rfl) ?_
    refine lv_iconst (v := 5) hx hb d_Lo_hold_24 (by decide) ?_
    refine lv_icmp_ge (tgt := 49) hx hb d_Lo_hold_25 (by decide) (fun c25 => ?_) (fun c25 => ?_)
    · have h := ifp c25 h
      refine lv_aload_n hx hb d_Lo_hold_49 rfl (lv_at hl 2 rfl) ?_
      refine lv_iload_n hx hb d_Lo_hold_50 rfl (lv_at hl 3 rfl) ?_
      refine lv_lload hx hb d_Lo_hold_51 (lv_at hl 5 rfl) ?_
      obtain ⟨μ53, hm, h⟩ := bd h
      refine m_lastore hx hb hK hw hm d_Lo_hold_53 (fun H locs hw => ?_)
      refine lv_iinc (v := x3 + 1) (lv' := [(3, .int (x3 + 1)), (0, .ref (G.2.1 1)), (1, .ref (G.2.1 k1)), (2, .ref (G.2.1 k2)), (4, .ref (G.2.1 k4)), (5, .long x5), (7, .int x7)]) hx hb d_Lo_hold_54 hl (k := 3) rfl rfl (by decide) rfl (fun ls hl => ?_)
      refine lv_goto (tgt := 2) hx hb d_Lo_hold_57 (by decide) ?_
      exact hK2 k1 k2 (x3 + 1) μ53 _ _ _ hw (lv_sub hl [1, 2, 3, 0] rfl) h
    · have h := ifn c25 h
      refine lv_lload hx hb d_Lo_hold_28 (lv_at hl 5 rfl) ?_
      refine lv_aload hx hb d_Lo_hold_30 (lv_at hl 4 rfl) ?_
      refine lv_iload hx hb d_Lo_hold_32 (lv_at hl 6 rfl) ?_
      obtain ⟨v34, hv, h⟩ := bd h
      refine m_laload hx hb hK hw hv d_Lo_hold_34 ?_
      refine lv_aload_n hx hb d_Lo_hold_35 rfl (lv_at hl 1 rfl) ?_
      refine lv_iload hx hb d_Lo_hold_36 (lv_at hl 6 rfl) ?_
      obtain ⟨v38, hv, h⟩ := bd h
      refine m_laload hx hb hK hw hv d_Lo_hold_38 ?_
      refine lv_lmul hx hb d_Lo_hold_39 ?_
      refine lv_ladd hx hb d_Lo_hold_40 ?_
      obtain ⟨x5_41, ex5_41, h⟩ := nmx h
      refine m_eql ex5_41 ?_
      refine lv_lstore (lv' := [(5, .long x5_41), (0, .ref (G.2.1 1)), (1, .ref (G.2.1 k1)), (2, .ref (G.2.1 k2)), (3, .int x3), (4, .ref (G.2.1 k4)), (7, .int x7)]) hx hb d_Lo_hold_41 hl (by decide) rfl (fun ls hl => ?_)
      refine lv_iinc (v := x7 + 1) (lv' := [(7, .int (x7 + 1)), (5, .long x5_41), (0, .ref (G.2.1 1)), (1, .ref (G.2.1 k1)), (2, .ref (G.2.1 k2)), (3, .int x3), (4, .ref (G.2.1 k4))]) hx hb d_Lo_hold_43 hl (k := 6) rfl rfl (by decide) rfl (fun ls hl => ?_)
      refine lv_goto (tgt := 22) hx hb d_Lo_hold_46 (by decide) ?_
      exact ih k1 k2 x3 k4 x5_41 (x7 + 1) μ _ _ _ hw (lv_sub hl [2, 3, 4, 5, 6, 1, 0] rfl) h
set_option maxRecDepth 100000 in
set_option maxHeartbeats 4000000 in
theorem w_Lo_hold_2 {μ' : Mem} {N : Nat} (C : CxA G p s m args meth c prog_4_method_2_code 8 none "RecipePlans$Lots" ws_Lo_hold) : ∀ (n : Nat) (k1 : Nat) (k2 : Nat) (x3 : Int32) (μ : Mem) (H : Heap) (locs : List Loc) (ls : Array Slot), Wk G s μ H locs → lv_has ls 8 [(0, .ref (G.2.1 1)), (1, .ref (G.2.1 k1)), (2, .ref (G.2.1 k2)), (3, .int x3)] → M_Lo_hold_2 N n k1 k2 x3 μ = some μ' → WA G rm_Lo_hold p l e s m args below meth c none μ' H locs 2 ls [] := by
  obtain ⟨hx, hb, hr, hml, hown, hts, hlk, hK, hSt⟩ := id C
  intro n
  induction n with
  | zero =>
    intro k1 k2 x3 μ H locs ls hw hl h
    rw [M_Lo_hold_2] at h
    cases h
  | succ n ih =>
    intro k1 k2 x3 μ H locs ls hw hl h
    rw [M_Lo_hold_2] at h
    refine lv_iload_n hx hb d_Lo_hold_2 rfl (lv_at hl 3 rfl) ?_
    refine lv_bipush (v := 7) hx hb d_Lo_hold_3 (by decide) ?_
    refine lv_icmp_ge (tgt := 60) hx hb d_Lo_hold_5 (by decide) (fun c5 => ?_) (fun c5 => ?_)
    · have h := ifp c5 h
      exact m_vret hx hb hr hlk hw h d_Lo_hold_60
    · have h := ifn c5 h
      refine lv_aload_n hx hb d_Lo_hold_8 rfl (lv_at hl 0 rfl) ?_
      refine va_get (D := G.1) (ci := 1) (v := .ref (G.2.1 8)) (C := "RecipePlans$Lots") (T := T_Lo) (N := 4) hx hb hts (fun _ h9 => List.mem_cons_of_mem _ (inT_Lo _ h9)) hown hK hw.1 1 (WL_get (by decide)) rfl 3 (by decide) (hts _ (List.mem_cons_of_mem _ tw_67)) (fun _ h9 => h9) rfl d_Lo_hold_9 ?_
      refine lv_iload_n hx hb d_Lo_hold_12 rfl (lv_at hl 3 rfl) ?_
      obtain ⟨a13, hv, h⟩ := bd h
      refine m_aaload hx hb hK hw hv d_Lo_hold_13 ?_
      refine lv_astore (lv' := [(4, .ref (G.2.1 a13)), (0, .ref (G.2.1 1)), (1, .ref (G.2.1 k1)), (2, .ref (G.2.1 k2)), (3, .int x3)]) hx hb d_Lo_hold_14 hl (by decide) rfl (fun ls hl => ?_)
      refine lv_lconst (v := 0) hx hb d_Lo_hold_16 (by decide) ?_
      refine lv_lstore (lv' := [(5, .long (0 : Int64)), (4, .ref (G.2.1 a13)), (0, .ref (G.2.1 1)), (1, .ref (G.2.1 k1)), (2, .ref (G.2.1 k2)), (3, .int x3)]) hx hb d_Lo_hold_17 hl (by decide) rfl (fun ls hl => ?_)
      refine lv_iconst (v := 0) hx hb d_Lo_hold_19 (by decide) ?_
      refine lv_istore (lv' := [(7, .int (0 : Int32)), (5, .long (0 : Int64)), (4, .ref (G.2.1 a13)), (0, .ref (G.2.1 1)), (1, .ref (G.2.1 k1)), (2, .ref (G.2.1 k2)), (3, .int x3)]) hx hb d_Lo_hold_20 hl (by decide) rfl (fun ls hl => ?_)
      exact w_Lo_hold_22 C ih N k1 k2 x3 a13 (0 : Int64) (0 : Int32) μ _ _ _ hw (lv_sub hl [3, 4, 5, 6, 2, 1, 0] rfl) h
set_option maxRecDepth 100000 in
set_option maxHeartbeats 4000000 in
theorem c_Lo_hold (l : Launch) (G : Gw) (N : Nat) (k1 : Nat) (k2 : Nat) (μ : Mem) {μ' : Mem} (h : M_Lo_hold N k1 k2 μ = some μ') : CT l y_Lo_hold ws_Lo_hold rm_Lo_hold [.ref (G.2.1 1), .ref (G.2.1 k1), .ref (G.2.1 k2)] G μ none μ' := by
  refine m_met (cc := prog_4_method_2_code) (maxL := 8) (ret := none) (by decide) rfl (Nat.le_of_ble_eq_true rfl) ?_
  intro p e s m args below meth c ls C hw hl
  obtain ⟨hx, hb, hr, hml, hown, hts, hlk, hK, hSt⟩ := id C
  have hl : lv_has ls 8 [(0, .ref (G.2.1 1)), (1, .ref (G.2.1 k1)), (2, .ref (G.2.1 k2))] := hl
  unfold M_Lo_hold at h
  refine lv_iconst (v := 0) hx hb d_Lo_hold_0 (by decide) ?_
  refine lv_istore_n (lv' := [(3, .int (0 : Int32)), (0, .ref (G.2.1 1)), (1, .ref (G.2.1 k1)), (2, .ref (G.2.1 k2))]) hx hb d_Lo_hold_1 rfl hl (by decide) rfl (fun ls hl => ?_)
  exact w_Lo_hold_2 C N k1 k2 (0 : Int32) μ _ _ _ hw (lv_sub hl [1, 2, 3, 0] rfl) h
set_option maxRecDepth 100000 in
set_option maxHeartbeats 4000000 in
theorem c_Ru_atLeast (l : Launch) (N : Nat) (x0 : Int64) (x2 : Int64) (x4 : Int64) (x6 : Int64) {r : Int32} (h : M_Ru_atLeast N x0 x2 x4 x6 = some r) : CTp l y_Ru_atLeast ws_Ru_atLeast rm_Ru_atLeast [.long x0, .long x2, .long x4, .long x6] (.int r) := by
  refine m_metP (cc := prog_5_method_5_code) (maxL := 12) (ret := (some .boolean)) (by decide +kernel) rfl (Nat.le_of_ble_eq_true rfl) ?_
  intro p e s m args below meth c ls C hl
  obtain ⟨hx, hb, hr, hml, hown, hts, hlk⟩ := id C
  have hl : lv_has ls 12 [(0, .long x0), (2, .long x2), (4, .long x4), (6, .long x6)] := hl
  unfold M_Ru_atLeast at h
  refine lv_lload_n hx hb d_Ru_atLeast_0 rfl (lv_at hl 0 rfl) ?_
  refine lv_lload_n hx hb d_Ru_atLeast_1 rfl (lv_at hl 1 rfl) ?_
  refine lv_bipush (v := 20) hx hb d_Ru_atLeast_2 (by decide) ?_
  refine lv_lshr hx hb d_Ru_atLeast_4 rfl ?_
  refine lv_lmul hx hb d_Ru_atLeast_5 ?_
  refine lv_lload hx hb d_Ru_atLeast_6 (lv_at hl 2 rfl) ?_
  refine lv_lload hx hb d_Ru_atLeast_8 (lv_at hl 3 rfl) ?_
  refine lv_bipush (v := 20) hx hb d_Ru_atLeast_10 (by decide) ?_
  refine lv_lshr hx hb d_Ru_atLeast_12 rfl ?_
  refine lv_lmul hx hb d_Ru_atLeast_13 ?_
  refine lv_lsub hx hb d_Ru_atLeast_14 ?_
  obtain ⟨x8_15, ex8_15, h⟩ := nmx h
  refine m_eql ex8_15 ?_
  refine lv_lstore (lv' := [(8, .long x8_15), (0, .long x0), (2, .long x2), (4, .long x4), (6, .long x6)]) hx hb d_Ru_atLeast_15 hl (by decide) rfl (fun ls hl => ?_)
  refine lv_lload_n hx hb d_Ru_atLeast_17 rfl (lv_at hl 1 rfl) ?_
  refine lv_lload_n hx hb d_Ru_atLeast_18 rfl (lv_at hl 2 rfl) ?_
  refine lv_ldc2 (v := 1048575) hx hb hown (hts _ (List.mem_cons_of_mem _ tw_355)) d_Ru_atLeast_19 ?_
  refine lv_land hx hb d_Ru_atLeast_22 ?_
  refine lv_lmul hx hb d_Ru_atLeast_23 ?_
  refine lv_lload hx hb d_Ru_atLeast_24 (lv_at hl 3 rfl) ?_
  refine lv_lload hx hb d_Ru_atLeast_26 (lv_at hl 4 rfl) ?_
  refine lv_ldc2 (v := 1048575) hx hb hown (hts _ (List.mem_cons_of_mem _ tw_355)) d_Ru_atLeast_28 ?_
  refine lv_land hx hb d_Ru_atLeast_31 ?_
  refine lv_lmul hx hb d_Ru_atLeast_32 ?_
  refine lv_lsub hx hb d_Ru_atLeast_33 ?_
  obtain ⟨x10_34, ex10_34, h⟩ := nmx h
  refine m_eql ex10_34 ?_
  refine lv_lstore (lv' := [(10, .long x10_34), (8, .long x8_15), (0, .long x0), (2, .long x2), (4, .long x4), (6, .long x6)]) hx hb d_Ru_atLeast_34 hl (by decide) rfl (fun ls hl => ?_)
  refine lv_lload hx hb d_Ru_atLeast_36 (lv_at hl 1 rfl) ?_
  refine lv_lload hx hb d_Ru_atLeast_38 (lv_at hl 0 rfl) ?_
  refine lv_bipush (v := 20) hx hb d_Ru_atLeast_40 (by decide) ?_
  refine lv_lshr hx hb d_Ru_atLeast_42 rfl ?_
  refine lv_ladd hx hb d_Ru_atLeast_43 ?_
  refine lv_lconst (v := 0) hx hb d_Ru_atLeast_44 (by decide) ?_
  refine W.lcmp hx hb d_Ru_atLeast_45 ?_
  refine lv_if_lt (tgt := 53) hx hb d_Ru_atLeast_46 (by decide) (fun c46 => ?_) (fun c46 => ?_)
  · have h := ifp c46 h
    refine lv_iconst (v := 0) hx hb d_Ru_atLeast_53 (by decide) ?_
    exact m_pzret hx hb hr hlk h d_Ru_atLeast_54
  · have h := ifn c46 h
    refine lv_iconst (v := 1) hx hb d_Ru_atLeast_49 (by decide) ?_
    refine lv_goto (tgt := 54) hx hb d_Ru_atLeast_50 (by decide) ?_
    exact m_pzret hx hb hr hlk h d_Ru_atLeast_54
set_option maxRecDepth 100000 in
set_option maxHeartbeats 4000000 in
theorem c_Ru_keeps (l : Launch) (G : Gw) (N : Nat) (x1 : Int32) (k2 : Nat) (μ : Mem) {r : Int32} {μ' : Mem} (h : M_Ru_keeps N x1 k2 μ = some (r, μ')) : CT l y_Ru_keeps ws_Ru_keeps rm_Ru_keeps [.ref (G.2.1 2), .int x1, .ref (G.2.1 k2)] G μ (some (.int r)) μ' := by
  refine m_met (cc := prog_5_method_4_code) (maxL := 7) (ret := (some .boolean)) (by decide) rfl (Nat.le_of_ble_eq_true rfl) ?_
  intro p e s m args below meth c ls C hw hl
  obtain ⟨hx, hb, hr, hml, hown, hts, hlk, hK, hSt⟩ := id C
  have hl : lv_has ls 7 [(0, .ref (G.2.1 2)), (1, .int x1), (2, .ref (G.2.1 k2))] := hl
  unfold M_Ru_keeps at h
  refine lv_aload_n hx hb d_Ru_keeps_0 rfl (lv_at hl 2 rfl) ?_
  refine lv_aload_n hx hb d_Ru_keeps_1 rfl (lv_at hl 0 rfl) ?_
  refine va_get (D := G.1) (ci := 2) (v := .ref (G.2.1 18)) (C := "RecipePlans$Rules") (T := T_Ru) (N := 6) hx hb hts (fun _ h9 => List.mem_cons_of_mem _ (inT_Ru _ h9)) hown hK hw.1 2 (WL_get (by decide)) rfl 1 (by decide) (hts _ (List.mem_cons_of_mem _ tw_86)) (fun _ h9 => h9) rfl d_Ru_keeps_2 ?_
  refine lv_iload_n hx hb d_Ru_keeps_5 rfl (lv_at hl 1 rfl) ?_
  obtain ⟨v6, hv, h⟩ := bd h
  refine m_iaload hx hb hK hw hv d_Ru_keeps_6 ?_
  obtain ⟨v7, hv, h⟩ := bd h
  refine m_laload hx hb hK hw hv d_Ru_keeps_7 ?_
  refine lv_lstore_n (lv' := [(3, .long v7), (0, .ref (G.2.1 2)), (1, .int x1), (2, .ref (G.2.1 k2))]) hx hb d_Ru_keeps_8 rfl hl (by decide) rfl (fun ls hl => ?_)
  refine lv_aload_n hx hb d_Ru_keeps_9 rfl (lv_at hl 3 rfl) ?_
  refine lv_aload_n hx hb d_Ru_keeps_10 rfl (lv_at hl 1 rfl) ?_
  refine va_get (D := G.1) (ci := 2) (v := .ref (G.2.1 19)) (C := "RecipePlans$Rules") (T := T_Ru) (N := 6) hx hb hts (fun _ h9 => List.mem_cons_of_mem _ (inT_Ru _ h9)) hown hK hw.1 2 (WL_get (by decide)) rfl 2 (by decide) (hts _ (List.mem_cons_of_mem _ tw_89)) (fun _ h9 => h9) rfl d_Ru_keeps_11 ?_
  refine lv_iload_n hx hb d_Ru_keeps_14 rfl (lv_at hl 2 rfl) ?_
  obtain ⟨v15, hv, h⟩ := bd h
  refine m_iaload hx hb hK hw hv d_Ru_keeps_15 ?_
  obtain ⟨v16, hv, h⟩ := bd h
  refine m_laload hx hb hK hw hv d_Ru_keeps_16 ?_
  refine lv_lstore (lv' := [(5, .long v16), (3, .long v7), (0, .ref (G.2.1 2)), (1, .int x1), (2, .ref (G.2.1 k2))]) hx hb d_Ru_keeps_17 hl (by decide) rfl (fun ls hl => ?_)
  refine lv_aload_n hx hb d_Ru_keeps_19 rfl (lv_at hl 2 rfl) ?_
  refine va_get (D := G.1) (ci := 2) (v := .ref (G.2.1 22)) (C := "RecipePlans$Rules") (T := T_Ru) (N := 6) hx hb hts (fun _ h9 => List.mem_cons_of_mem _ (inT_Ru _ h9)) hown hK hw.1 2 (WL_get (by decide)) rfl 5 (by decide) (hts _ (List.mem_cons_of_mem _ tw_98)) (fun _ h9 => h9) rfl d_Ru_keeps_20 ?_
  refine lv_iload_n hx hb d_Ru_keeps_23 rfl (lv_at hl 3 rfl) ?_
  obtain ⟨v24, hv, h⟩ := bd h
  refine m_iaload hx hb hK hw hv d_Ru_keeps_24 ?_
  refine lv_i2l hx hb d_Ru_keeps_25 rfl ?_
  refine lv_lload_n hx hb d_Ru_keeps_26 rfl (lv_at hl 1 rfl) ?_
  refine lv_aload_n hx hb d_Ru_keeps_27 rfl (lv_at hl 2 rfl) ?_
  refine va_get (D := G.1) (ci := 2) (v := .ref (G.2.1 20)) (C := "RecipePlans$Rules") (T := T_Ru) (N := 6) hx hb hts (fun _ h9 => List.mem_cons_of_mem _ (inT_Ru _ h9)) hown hK hw.1 2 (WL_get (by decide)) rfl 3 (by decide) (hts _ (List.mem_cons_of_mem _ tw_92)) (fun _ h9 => h9) rfl d_Ru_keeps_28 ?_
  refine lv_iload_n hx hb d_Ru_keeps_31 rfl (lv_at hl 3 rfl) ?_
  obtain ⟨v32, hv, h⟩ := bd h
  refine m_iaload hx hb hK hw hv d_Ru_keeps_32 ?_
  refine lv_i2l hx hb d_Ru_keeps_33 rfl ?_
  refine lv_lload hx hb d_Ru_keeps_34 (lv_at hl 0 rfl) ?_
  obtain ⟨r36, hq, h⟩ := bd h
  refine m_pcall (r := .int r36) (W.runS (As := [.long v24.toInt64, .long v7, .long v32.toInt64, .long v16]) (rest := []) ⟨hx, hb, hml, hown, hts⟩ (c_Ru_atLeast l N v24.toInt64 v7 v32.toInt64 v16 hq) (va_cwS 4 hts (gdS tw_352 tw_353 tw_36 tw_354) rfl rfl rfl (by decide +kernel) ⟨Nat.le_of_ble_eq_true rfl, Nat.le_of_ble_eq_true rfl⟩) preEq rfl rfl hl.1 rfl (lv_room (Nat.le_of_ble_eq_true rfl)) d_Ru_keeps_36 ⟨Nat.zero_le _, Nat.zero_le _⟩) ?_
  refine lv_if_eq (tgt := 69) hx hb d_Ru_keeps_39 (by decide) (fun c39 => ?_) (fun c39 => ?_)
  · have h := ifp c39 h
    refine lv_iconst (v := 0) hx hb d_Ru_keeps_69 (by decide) ?_
    exact m_zret hx hb hr hlk hw h d_Ru_keeps_70
  · have h := ifn c39 h
    refine lv_aload_n hx hb d_Ru_keeps_42 rfl (lv_at hl 2 rfl) ?_
    refine va_get (D := G.1) (ci := 2) (v := .ref (G.2.1 21)) (C := "RecipePlans$Rules") (T := T_Ru) (N := 6) hx hb hts (fun _ h9 => List.mem_cons_of_mem _ (inT_Ru _ h9)) hown hK hw.1 2 (WL_get (by decide)) rfl 4 (by decide) (hts _ (List.mem_cons_of_mem _ tw_95)) (fun _ h9 => h9) rfl d_Ru_keeps_43 ?_
    refine lv_iload_n hx hb d_Ru_keeps_46 rfl (lv_at hl 3 rfl) ?_
    obtain ⟨v47, hv, h⟩ := bd h
    refine m_iaload hx hb hK hw hv d_Ru_keeps_47 ?_
    refine lv_i2l hx hb d_Ru_keeps_48 rfl ?_
    refine lv_lload hx hb d_Ru_keeps_49 (lv_at hl 0 rfl) ?_
    refine lv_aload_n hx hb d_Ru_keeps_51 rfl (lv_at hl 2 rfl) ?_
    refine va_get (D := G.1) (ci := 2) (v := .ref (G.2.1 22)) (C := "RecipePlans$Rules") (T := T_Ru) (N := 6) hx hb hts (fun _ h9 => List.mem_cons_of_mem _ (inT_Ru _ h9)) hown hK hw.1 2 (WL_get (by decide)) rfl 5 (by decide) (hts _ (List.mem_cons_of_mem _ tw_98)) (fun _ h9 => h9) rfl d_Ru_keeps_52 ?_
    refine lv_iload_n hx hb d_Ru_keeps_55 rfl (lv_at hl 3 rfl) ?_
    obtain ⟨v56, hv, h⟩ := bd h
    refine m_iaload hx hb hK hw hv d_Ru_keeps_56 ?_
    refine lv_i2l hx hb d_Ru_keeps_57 rfl ?_
    refine lv_lload_n hx hb d_Ru_keeps_58 rfl (lv_at hl 1 rfl) ?_
    obtain ⟨r59, hq, h⟩ := bd h
    refine m_pcall (r := .int r59) (W.runS (As := [.long v47.toInt64, .long v16, .long v56.toInt64, .long v7]) (rest := []) ⟨hx, hb, hml, hown, hts⟩ (c_Ru_atLeast l N v47.toInt64 v16 v56.toInt64 v7 hq) (va_cwS 4 hts (gdS tw_352 tw_353 tw_36 tw_354) rfl rfl rfl (by decide +kernel) ⟨Nat.le_of_ble_eq_true rfl, Nat.le_of_ble_eq_true rfl⟩) preEq rfl rfl hl.1 rfl (lv_room (Nat.le_of_ble_eq_true rfl)) d_Ru_keeps_59 ⟨Nat.zero_le _, Nat.zero_le _⟩) ?_
    refine lv_if_eq (tgt := 69) hx hb d_Ru_keeps_62 (by decide) (fun c62 => ?_) (fun c62 => ?_)
    · have h := ifp c62 h
      refine lv_iconst (v := 0) hx hb d_Ru_keeps_69 (by decide) ?_
      exact m_zret hx hb hr hlk hw h d_Ru_keeps_70
    · have h := ifn c62 h
      refine lv_iconst (v := 1) hx hb d_Ru_keeps_65 (by decide) ?_
      refine lv_goto (tgt := 70) hx hb d_Ru_keeps_66 (by decide) ?_
      exact m_zret hx hb hr hlk hw h d_Ru_keeps_70
set_option maxRecDepth 100000 in
set_option maxHeartbeats 4000000 in
theorem c_Ma_min (l : Launch) (N : Nat) (x0 : Int64) (x2 : Int64) {r : Int64} (h : M_Ma_min N x0 x2 = some r) : CTp l y_Ma_min ws_Ma_min rm_Ma_min [.long x0, .long x2] (.long r) := by
  refine m_metP (cc := prog_11_method_70_code) (maxL := 4) (ret := (some .long)) (by decide +kernel) rfl (Nat.le_of_ble_eq_true rfl) ?_
  intro p e s m args below meth c ls C hl
  obtain ⟨hx, hb, hr, hml, hown, hts, hlk⟩ := id C
  have hl : lv_has ls 4 [(0, .long x0), (2, .long x2)] := hl
  unfold M_Ma_min at h
  refine lv_lload_n hx hb d_Ma_min_0 rfl (lv_at hl 0 rfl) ?_
  refine lv_lload_n hx hb d_Ma_min_1 rfl (lv_at hl 1 rfl) ?_
  refine W.lcmp hx hb d_Ma_min_2 ?_
  refine lv_if_gt (tgt := 10) hx hb d_Ma_min_3 (by decide) (fun c3 => ?_) (fun c3 => ?_)
  · have h := ifp c3 h
    refine lv_lload_n hx hb d_Ma_min_10 rfl (lv_at hl 1 rfl) ?_
    exact m_plret hx hb hr hlk h d_Ma_min_11
  · have h := ifn c3 h
    refine lv_lload_n hx hb d_Ma_min_6 rfl (lv_at hl 0 rfl) ?_
    refine lv_goto (tgt := 11) hx hb d_Ma_min_7 (by decide) ?_
    exact m_plret hx hb hr hlk h d_Ma_min_11
set_option maxRecDepth 100000 in
set_option maxHeartbeats 4000000 in
theorem c_Ma_max (l : Launch) (N : Nat) (x0 : Int64) (x2 : Int64) {r : Int64} (h : M_Ma_max N x0 x2 = some r) : CTp l y_Ma_max ws_Ma_max rm_Ma_max [.long x0, .long x2] (.long r) := by
  refine m_metP (cc := prog_11_method_66_code) (maxL := 4) (ret := (some .long)) (by decide +kernel) rfl (Nat.le_of_ble_eq_true rfl) ?_
  intro p e s m args below meth c ls C hl
  obtain ⟨hx, hb, hr, hml, hown, hts, hlk⟩ := id C
  have hl : lv_has ls 4 [(0, .long x0), (2, .long x2)] := hl
  unfold M_Ma_max at h
  refine lv_lload_n hx hb d_Ma_max_0 rfl (lv_at hl 0 rfl) ?_
  refine lv_lload_n hx hb d_Ma_max_1 rfl (lv_at hl 1 rfl) ?_
  refine W.lcmp hx hb d_Ma_max_2 ?_
  refine lv_if_lt (tgt := 10) hx hb d_Ma_max_3 (by decide) (fun c3 => ?_) (fun c3 => ?_)
  · have h := ifp c3 h
    refine lv_lload_n hx hb d_Ma_max_10 rfl (lv_at hl 1 rfl) ?_
    exact m_plret hx hb hr hlk h d_Ma_max_11
  · have h := ifn c3 h
    refine lv_lload_n hx hb d_Ma_max_6 rfl (lv_at hl 0 rfl) ?_
    refine lv_goto (tgt := 11) hx hb d_Ma_max_7 (by decide) ?_
    exact m_plret hx hb hr hlk h d_Ma_max_11
set_option maxRecDepth 100000 in
set_option maxHeartbeats 4000000 in
theorem c_Ma_abs (l : Launch) (N : Nat) (x0 : Int64) {r : Int64} (h : M_Ma_abs N x0 = some r) : CTp l y_Ma_abs ws_Ma_abs rm_Ma_abs [.long x0] (.long r) := by
  refine m_metP (cc := prog_11_method_61_code) (maxL := 2) (ret := (some .long)) (by decide +kernel) rfl (Nat.le_of_ble_eq_true rfl) ?_
  intro p e s m args below meth c ls C hl
  obtain ⟨hx, hb, hr, hml, hown, hts, hlk⟩ := id C
  have hl : lv_has ls 2 [(0, .long x0)] := hl
  unfold M_Ma_abs at h
  refine lv_lload_n hx hb d_Ma_abs_0 rfl (lv_at hl 0 rfl) ?_
  refine lv_lconst (v := 0) hx hb d_Ma_abs_1 (by decide) ?_
  refine W.lcmp hx hb d_Ma_abs_2 ?_
  refine lv_if_ge (tgt := 11) hx hb d_Ma_abs_3 (by decide) (fun c3 => ?_) (fun c3 => ?_)
  · have h := ifp c3 h
    refine lv_lload_n hx hb d_Ma_abs_11 rfl (lv_at hl 0 rfl) ?_
    exact m_plret hx hb hr hlk h d_Ma_abs_12
  · have h := ifn c3 h
    refine lv_lload_n hx hb d_Ma_abs_6 rfl (lv_at hl 0 rfl) ?_
    refine lv_lneg hx hb d_Ma_abs_7 ?_
    refine lv_goto (tgt := 12) hx hb d_Ma_abs_8 (by decide) ?_
    exact m_plret hx hb hr hlk h d_Ma_abs_12
end WK
