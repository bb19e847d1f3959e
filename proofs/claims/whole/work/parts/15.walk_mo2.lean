section WK
variable {p : Program} {l : Launch} {e : Env} {s : State} {m : MethodId} {args : Array Value} {below : List Frame} {meth : Method} {c : Code} {G : Gw}
set_option maxRecDepth 100000 in
set_option maxHeartbeats 4000000 in
theorem c_Mo_minor (l : Launch) (G : Gw) (N : Nat) (x1 : Int32) (x2 : Int32) (x3 : Int32) (x4 : Int32) (x5 : Int32) (μ : Mem) {r : Int64} {μ' : Mem} (h : M_Mo_minor N x1 x2 x3 x4 x5 μ = some (r, μ')) : CT l y_Mo_minor ws_Mo_minor rm_Mo_minor [.ref (G.2.1 7), .int x1, .int x2, .int x3, .int x4, .int x5] G μ (some (.long r)) μ' := by
  refine m_met (cc := prog_9_method_20_code) (maxL := 6) (ret := (some .long)) (by decide) rfl (Nat.le_of_ble_eq_true rfl) ?_
  intro p e s m args below meth c ls C hw hl
  obtain ⟨hx, hb, hr, hml, hown, hts, hlk, hK, hSt⟩ := id C
  have hl : lv_has ls 6 [(0, .ref (G.2.1 7)), (1, .int x1), (2, .int x2), (3, .int x3), (4, .int x4), (5, .int x5)] := hl
  unfold M_Mo_minor at h
  refine lv_aload_n hx hb d_Mo_minor_0 rfl (lv_at hl 0 rfl) ?_
  refine lv_iload_n hx hb d_Mo_minor_1 rfl (lv_at hl 1 rfl) ?_
  refine lv_iload_n hx hb d_Mo_minor_2 rfl (lv_at hl 3 rfl) ?_
  refine lv_iload hx hb d_Mo_minor_3 (lv_at hl 5 rfl) ?_
  obtain ⟨r5, μ5, hq, h⟩ := bd2 h
  refine m_call (r := some (.long r5)) (μ1 := μ5) (va_runV (C := "RecipePlansModel") (As := [.int x1, .int x3, .int x5]) (rest := []) ⟨hx, hb, hml, hown, hts⟩ (c_Mo_at l G N x1 x3 x5 μ hq _) (cwV 3 hts (gdV tw_583 tw_584 tw_28 tw_41 tw_585) rfl rfl rfl (by decide +kernel) ⟨Nat.le_of_ble_eq_true rfl, Nat.le_of_ble_eq_true rfl⟩) (m_preV (k := 7) (by decide) rfl hK hSt hw) rfl rfl hl.1 rfl (lv_room (Nat.le_of_ble_eq_true rfl)) d_Mo_minor_5 ⟨Nat.zero_le _, Nat.zero_le _⟩) hw (fun H locs hw => ?_)
  refine lv_aload_n hx hb d_Mo_minor_8 rfl (lv_at hl 0 rfl) ?_
  refine lv_iload_n hx hb d_Mo_minor_9 rfl (lv_at hl 2 rfl) ?_
  refine lv_iload hx hb d_Mo_minor_10 (lv_at hl 4 rfl) ?_
  refine lv_iload hx hb d_Mo_minor_12 (lv_at hl 5 rfl) ?_
  obtain ⟨r14, μ14, hq, h⟩ := bd2 h
  refine m_call (r := some (.long r14)) (μ1 := μ14) (va_runV (C := "RecipePlansModel") (As := [.int x2, .int x4, .int x5]) (rest := [.long r5]) ⟨hx, hb, hml, hown, hts⟩ (c_Mo_at l G N x2 x4 x5 μ5 hq _) (cwV 3 hts (gdV tw_583 tw_584 tw_28 tw_41 tw_585) rfl rfl rfl (by decide +kernel) ⟨Nat.le_of_ble_eq_true rfl, Nat.le_of_ble_eq_true rfl⟩) (m_preV (k := 7) (by decide) rfl hK hSt hw) rfl rfl hl.1 rfl (lv_room (Nat.le_of_ble_eq_true rfl)) d_Mo_minor_14 ⟨Nat.zero_le _, Nat.zero_le _⟩) hw (fun H locs hw => ?_)
  refine lv_lmul hx hb d_Mo_minor_17 ?_
  refine lv_aload_n hx hb d_Mo_minor_18 rfl (lv_at hl 0 rfl) ?_
  refine lv_iload_n hx hb d_Mo_minor_19 rfl (lv_at hl 1 rfl) ?_
  refine lv_iload hx hb d_Mo_minor_20 (lv_at hl 4 rfl) ?_
  refine lv_iload hx hb d_Mo_minor_22 (lv_at hl 5 rfl) ?_
  obtain ⟨r24, μ24, hq, h⟩ := bd2 h
  refine m_call (r := some (.long r24)) (μ1 := μ24) (va_runV (C := "RecipePlansModel") (As := [.int x1, .int x4, .int x5]) (rest := [.long (r5 * r14)]) ⟨hx, hb, hml, hown, hts⟩ (c_Mo_at l G N x1 x4 x5 μ14 hq _) (cwV 3 hts (gdV tw_583 tw_584 tw_28 tw_41 tw_585) rfl rfl rfl (by decide +kernel) ⟨Nat.le_of_ble_eq_true rfl, Nat.le_of_ble_eq_true rfl⟩) (m_preV (k := 7) (by decide) rfl hK hSt hw) rfl rfl hl.1 rfl (lv_room (Nat.le_of_ble_eq_true rfl)) d_Mo_minor_24 ⟨Nat.zero_le _, Nat.zero_le _⟩) hw (fun H locs hw => ?_)
  refine lv_aload_n hx hb d_Mo_minor_27 rfl (lv_at hl 0 rfl) ?_
  refine lv_iload_n hx hb d_Mo_minor_28 rfl (lv_at hl 2 rfl) ?_
  refine lv_iload_n hx hb d_Mo_minor_29 rfl (lv_at hl 3 rfl) ?_
  refine lv_iload hx hb d_Mo_minor_30 (lv_at hl 5 rfl) ?_
  obtain ⟨r32, μ32, hq, h⟩ := bd2 h
  refine m_call (r := some (.long r32)) (μ1 := μ32) (va_runV (C := "RecipePlansModel") (As := [.int x2, .int x3, .int x5]) (rest := [.long r24, .long (r5 * r14)]) ⟨hx, hb, hml, hown, hts⟩ (c_Mo_at l G N x2 x3 x5 μ24 hq _) (cwV 3 hts (gdV tw_583 tw_584 tw_28 tw_41 tw_585) rfl rfl rfl (by decide +kernel) ⟨Nat.le_of_ble_eq_true rfl, Nat.le_of_ble_eq_true rfl⟩) (m_preV (k := 7) (by decide) rfl hK hSt hw) rfl rfl hl.1 rfl (lv_room (Nat.le_of_ble_eq_true rfl)) d_Mo_minor_32 ⟨Nat.zero_le _, Nat.zero_le _⟩) hw (fun H locs hw => ?_)
  refine lv_lmul hx hb d_Mo_minor_35 ?_
  refine lv_lsub hx hb d_Mo_minor_36 ?_
  exact m_lret hx hb hr hlk hw h d_Mo_minor_37
set_option maxRecDepth 100000 in
set_option maxHeartbeats 4000000 in
theorem c_Mo_determinant (l : Launch) (G : Gw) (N : Nat) (x1 : Int32) (μ : Mem) {r : Int64} {μ' : Mem} (h : M_Mo_determinant N x1 μ = some (r, μ')) : CT l y_Mo_determinant ws_Mo_determinant rm_Mo_determinant [.ref (G.2.1 7), .int x1] G μ (some (.long r)) μ' := by
  refine m_met (cc := prog_9_method_21_code) (maxL := 2) (ret := (some .long)) (by decide) rfl (Nat.le_of_ble_eq_true rfl) ?_
  intro p e s m args below meth c ls C hw hl
  obtain ⟨hx, hb, hr, hml, hown, hts, hlk, hK, hSt⟩ := id C
  have hl : lv_has ls 2 [(0, .ref (G.2.1 7)), (1, .int x1)] := hl
  unfold M_Mo_determinant at h
  refine lv_aload_n hx hb d_Mo_determinant_0 rfl (lv_at hl 0 rfl) ?_
  refine lv_iconst (v := 0) hx hb d_Mo_determinant_1 (by decide) ?_
  refine lv_iconst (v := 1) hx hb d_Mo_determinant_2 (by decide) ?_
  refine lv_iconst (v := 0) hx hb d_Mo_determinant_3 (by decide) ?_
  refine lv_iconst (v := 1) hx hb d_Mo_determinant_4 (by decide) ?_
  refine lv_iload_n hx hb d_Mo_determinant_5 rfl (lv_at hl 1 rfl) ?_
  obtain ⟨r6, μ6, hq, h⟩ := bd2 h
  refine m_call (r := some (.long r6)) (μ1 := μ6) (va_runV (C := "RecipePlansModel") (As := [.int (0 : Int32), .int (1 : Int32), .int (0 : Int32), .int (1 : Int32), .int x1]) (rest := []) ⟨hx, hb, hml, hown, hts⟩ (c_Mo_minor l G N (0 : Int32) (1 : Int32) (0 : Int32) (1 : Int32) x1 μ hq _) (cwV 5 hts (gdV tw_580 tw_581 tw_27 tw_41 tw_582) rfl rfl rfl (by decide +kernel) ⟨Nat.le_of_ble_eq_true rfl, Nat.le_of_ble_eq_true rfl⟩) (m_preV (k := 7) (by decide) rfl hK hSt hw) rfl rfl hl.1 rfl (lv_room (Nat.le_of_ble_eq_true rfl)) d_Mo_determinant_6 ⟨Nat.zero_le _, Nat.zero_le _⟩) hw (fun H locs hw => ?_)
  refine lv_aload_n hx hb d_Mo_determinant_9 rfl (lv_at hl 0 rfl) ?_
  refine lv_iconst (v := 2) hx hb d_Mo_determinant_10 (by decide) ?_
  refine lv_iconst (v := 3) hx hb d_Mo_determinant_11 (by decide) ?_
  refine lv_iconst (v := 2) hx hb d_Mo_determinant_12 (by decide) ?_
  refine lv_iconst (v := 3) hx hb d_Mo_determinant_13 (by decide) ?_
  refine lv_iload_n hx hb d_Mo_determinant_14 rfl (lv_at hl 1 rfl) ?_
  obtain ⟨r15, μ15, hq, h⟩ := bd2 h
  refine m_call (r := some (.long r15)) (μ1 := μ15) (va_runV (C := "RecipePlansModel") (As := [.int (2 : Int32), .int (3 : Int32), .int (2 : Int32), .int (3 : Int32), .int x1]) (rest := [.long r6]) ⟨hx, hb, hml, hown, hts⟩ (c_Mo_minor l G N (2 : Int32) (3 : Int32) (2 : Int32) (3 : Int32) x1 μ6 hq _) (cwV 5 hts (gdV tw_580 tw_581 tw_27 tw_41 tw_582) rfl rfl rfl (by decide +kernel) ⟨Nat.le_of_ble_eq_true rfl, Nat.le_of_ble_eq_true rfl⟩) (m_preV (k := 7) (by decide) rfl hK hSt hw) rfl rfl hl.1 rfl (lv_room (Nat.le_of_ble_eq_true rfl)) d_Mo_determinant_15 ⟨Nat.zero_le _, Nat.zero_le _⟩) hw (fun H locs hw => ?_)
  refine lv_lmul hx hb d_Mo_determinant_18 ?_
  refine lv_aload_n hx hb d_Mo_determinant_19 rfl (lv_at hl 0 rfl) ?_
  refine lv_iconst (v := 0) hx hb d_Mo_determinant_20 (by decide) ?_
  refine lv_iconst (v := 1) hx hb d_Mo_determinant_21 (by decide) ?_
  refine lv_iconst (v := 0) hx hb d_Mo_determinant_22 (by decide) ?_
  refine lv_iconst (v := 2) hx hb d_Mo_determinant_23 (by decide) ?_
  refine lv_iload_n hx hb d_Mo_determinant_24 rfl (lv_at hl 1 rfl) ?_
  obtain ⟨r25, μ25, hq, h⟩ := bd2 h
  refine m_call (r := some (.long r25)) (μ1 := μ25) (va_runV (C := "RecipePlansModel") (As := [.int (0 : Int32), .int (1 : Int32), .int (0 : Int32), .int (2 : Int32), .int x1]) (rest := [.long (r6 * r15)]) ⟨hx, hb, hml, hown, hts⟩ (c_Mo_minor l G N (0 : Int32) (1 : Int32) (0 : Int32) (2 : Int32) x1 μ15 hq _) (cwV 5 hts (gdV tw_580 tw_581 tw_27 tw_41 tw_582) rfl rfl rfl (by decide +kernel) ⟨Nat.le_of_ble_eq_true rfl, Nat.le_of_ble_eq_true rfl⟩) (m_preV (k := 7) (by decide) rfl hK hSt hw) rfl rfl hl.1 rfl (lv_room (Nat.le_of_ble_eq_true rfl)) d_Mo_determinant_25 ⟨Nat.zero_le _, Nat.zero_le _⟩) hw (fun H locs hw => ?_)
  refine lv_aload_n hx hb d_Mo_determinant_28 rfl (lv_at hl 0 rfl) ?_
  refine lv_iconst (v := 2) hx hb d_Mo_determinant_29 (by decide) ?_
  refine lv_iconst (v := 3) hx hb d_Mo_determinant_30 (by decide) ?_
  refine lv_iconst (v := 1) hx hb d_Mo_determinant_31 (by decide) ?_
  refine lv_iconst (v := 3) hx hb d_Mo_determinant_32 (by decide) ?_
  refine lv_iload_n hx hb d_Mo_determinant_33 rfl (lv_at hl 1 rfl) ?_
  obtain ⟨r34, μ34, hq, h⟩ := bd2 h
  refine m_call (r := some (.long r34)) (μ1 := μ34) (va_runV (C := "RecipePlansModel") (As := [.int (2 : Int32), .int (3 : Int32), .int (1 : Int32), .int (3 : Int32), .int x1]) (rest := [.long r25, .long (r6 * r15)]) ⟨hx, hb, hml, hown, hts⟩ (c_Mo_minor l G N (2 : Int32) (3 : Int32) (1 : Int32) (3 : Int32) x1 μ25 hq _) (cwV 5 hts (gdV tw_580 tw_581 tw_27 tw_41 tw_582) rfl rfl rfl (by decide +kernel) ⟨Nat.le_of_ble_eq_true rfl, Nat.le_of_ble_eq_true rfl⟩) (m_preV (k := 7) (by decide) rfl hK hSt hw) rfl rfl hl.1 rfl (lv_room (Nat.le_of_ble_eq_true rfl)) d_Mo_determinant_34 ⟨Nat.zero_le _, Nat.zero_le _⟩) hw (fun H locs hw => ?_)
  refine lv_lmul hx hb d_Mo_determinant_37 ?_
  refine lv_lsub hx hb d_Mo_determinant_38 ?_
  refine lv_aload_n hx hb d_Mo_determinant_39 rfl (lv_at hl 0 rfl) ?_
  refine lv_iconst (v := 0) hx hb d_Mo_determinant_40 (by decide) ?_
  refine lv_iconst (v := 1) hx hb d_Mo_determinant_41 (by decide) ?_
  refine lv_iconst (v := 0) hx hb d_Mo_determinant_42 (by decide) ?_
  refine lv_iconst (v := 3) hx hb d_Mo_determinant_43 (by decide) ?_
  refine lv_iload_n hx hb d_Mo_determinant_44 rfl (lv_at hl 1 rfl) ?_
  obtain ⟨r45, μ45, hq, h⟩ := bd2 h
  refine m_call (r := some (.long r45)) (μ1 := μ45) (va_runV (C := "RecipePlansModel") (As := [.int (0 : Int32), .int (1 : Int32), .int (0 : Int32), .int (3 : Int32), .int x1]) (rest := [.long ((r6 * r15) - (r25 * r34))]) ⟨hx, hb, hml, hown, hts⟩ (c_Mo_minor l G N (0 : Int32) (1 : Int32) (0 : Int32) (3 : Int32) x1 μ34 hq _) (cwV 5 hts (gdV tw_580 tw_581 tw_27 tw_41 tw_582) rfl rfl rfl (by decide +kernel) ⟨Nat.le_of_ble_eq_true rfl, Nat.le_of_ble_eq_true rfl⟩) (m_preV (k := 7) (by decide) rfl hK hSt hw) rfl rfl hl.1 rfl (lv_room (Nat.le_of_ble_eq_true rfl)) d_Mo_determinant_45 ⟨Nat.zero_le _, Nat.zero_le _⟩) hw (fun H locs hw => ?_)
  refine lv_aload_n hx hb d_Mo_determinant_48 rfl (lv_at hl 0 rfl) ?_
  refine lv_iconst (v := 2) hx hb d_Mo_determinant_49 (by decide) ?_
  refine lv_iconst (v := 3) hx hb d_Mo_determinant_50 (by decide) ?_
  refine lv_iconst (v := 1) hx hb d_Mo_determinant_51 (by decide) ?_
  refine lv_iconst (v := 2) hx hb d_Mo_determinant_52 (by decide) ?_
  refine lv_iload_n hx hb d_Mo_determinant_53 rfl (lv_at hl 1 rfl) ?_
  obtain ⟨r54, μ54, hq, h⟩ := bd2 h
  refine m_call (r := some (.long r54)) (μ1 := μ54) (va_runV (C := "RecipePlansModel") (As := [.int (2 : Int32), .int (3 : Int32), .int (1 : Int32), .int (2 : Int32), .int x1]) (rest := [.long r45, .long ((r6 * r15) - (r25 * r34))]) ⟨hx, hb, hml, hown, hts⟩ (c_Mo_minor l G N (2 : Int32) (3 : Int32) (1 : Int32) (2 : Int32) x1 μ45 hq _) (cwV 5 hts (gdV tw_580 tw_581 tw_27 tw_41 tw_582) rfl rfl rfl (by decide +kernel) ⟨Nat.le_of_ble_eq_true rfl, Nat.le_of_ble_eq_true rfl⟩) (m_preV (k := 7) (by decide) rfl hK hSt hw) rfl rfl hl.1 rfl (lv_room (Nat.le_of_ble_eq_true rfl)) d_Mo_determinant_54 ⟨Nat.zero_le _, Nat.zero_le _⟩) hw (fun H locs hw => ?_)
  refine lv_lmul hx hb d_Mo_determinant_57 ?_
  refine lv_ladd hx hb d_Mo_determinant_58 ?_
  refine lv_aload_n hx hb d_Mo_determinant_59 rfl (lv_at hl 0 rfl) ?_
  refine lv_iconst (v := 0) hx hb d_Mo_determinant_60 (by decide) ?_
  refine lv_iconst (v := 1) hx hb d_Mo_determinant_61 (by decide) ?_
  refine lv_iconst (v := 1) hx hb d_Mo_determinant_62 (by decide) ?_
  refine lv_iconst (v := 2) hx hb d_Mo_determinant_63 (by decide) ?_
  refine lv_iload_n hx hb d_Mo_determinant_64 rfl (lv_at hl 1 rfl) ?_
  obtain ⟨r65, μ65, hq, h⟩ := bd2 h
  refine m_call (r := some (.long r65)) (μ1 := μ65) (va_runV (C := "RecipePlansModel") (As := [.int (0 : Int32), .int (1 : Int32), .int (1 : Int32), .int (2 : Int32), .int x1]) (rest := [.long (((r6 * r15) - (r25 * r34)) + (r45 * r54))]) ⟨hx, hb, hml, hown, hts⟩ (c_Mo_minor l G N (0 : Int32) (1 : Int32) (1 : Int32) (2 : Int32) x1 μ54 hq _) (cwV 5 hts (gdV tw_580 tw_581 tw_27 tw_41 tw_582) rfl rfl rfl (by decide +kernel) ⟨Nat.le_of_ble_eq_true rfl, Nat.le_of_ble_eq_true rfl⟩) (m_preV (k := 7) (by decide) rfl hK hSt hw) rfl rfl hl.1 rfl (lv_room (Nat.le_of_ble_eq_true rfl)) d_Mo_determinant_65 ⟨Nat.zero_le _, Nat.zero_le _⟩) hw (fun H locs hw => ?_)
  refine lv_aload_n hx hb d_Mo_determinant_68 rfl (lv_at hl 0 rfl) ?_
  refine lv_iconst (v := 2) hx hb d_Mo_determinant_69 (by decide) ?_
  refine lv_iconst (v := 3) hx hb d_Mo_determinant_70 (by decide) ?_
  refine lv_iconst (v := 0) hx hb d_Mo_determinant_71 (by decide) ?_
  refine lv_iconst (v := 3) hx hb d_Mo_determinant_72 (by decide) ?_
  refine lv_iload_n hx hb d_Mo_determinant_73 rfl (lv_at hl 1 rfl) ?_
  obtain ⟨r74, μ74, hq, h⟩ := bd2 h
  refine m_call (r := some (.long r74)) (μ1 := μ74) (va_runV (C := "RecipePlansModel") (As := [.int (2 : Int32), .int (3 : Int32), .int (0 : Int32), .int (3 : Int32), .int x1]) (rest := [.long r65, .long (((r6 * r15) - (r25 * r34)) + (r45 * r54))]) ⟨hx, hb, hml, hown, hts⟩ (c_Mo_minor l G N (2 : Int32) (3 : Int32) (0 : Int32) (3 : Int32) x1 μ65 hq _) (cwV 5 hts (gdV tw_580 tw_581 tw_27 tw_41 tw_582) rfl rfl rfl (by decide +kernel) ⟨Nat.le_of_ble_eq_true rfl, Nat.le_of_ble_eq_true rfl⟩) (m_preV (k := 7) (by decide) rfl hK hSt hw) rfl rfl hl.1 rfl (lv_room (Nat.le_of_ble_eq_true rfl)) d_Mo_determinant_74 ⟨Nat.zero_le _, Nat.zero_le _⟩) hw (fun H locs hw => ?_)
  refine lv_lmul hx hb d_Mo_determinant_77 ?_
  refine lv_ladd hx hb d_Mo_determinant_78 ?_
  refine lv_aload_n hx hb d_Mo_determinant_79 rfl (lv_at hl 0 rfl) ?_
  refine lv_iconst (v := 0) hx hb d_Mo_determinant_80 (by decide) ?_
  refine lv_iconst (v := 1) hx hb d_Mo_determinant_81 (by decide) ?_
  refine lv_iconst (v := 1) hx hb d_Mo_determinant_82 (by decide) ?_
  refine lv_iconst (v := 3) hx hb d_Mo_determinant_83 (by decide) ?_
  refine lv_iload_n hx hb d_Mo_determinant_84 rfl (lv_at hl 1 rfl) ?_
  obtain ⟨r85, μ85, hq, h⟩ := bd2 h
  refine m_call (r := some (.long r85)) (μ1 := μ85) (va_runV (C := "RecipePlansModel") (As := [.int (0 : Int32), .int (1 : Int32), .int (1 : Int32), .int (3 : Int32), .int x1]) (rest := [.long ((((r6 * r15) - (r25 * r34)) + (r45 * r54)) + (r65 * r74))]) ⟨hx, hb, hml, hown, hts⟩ (c_Mo_minor l G N (0 : Int32) (1 : Int32) (1 : Int32) (3 : Int32) x1 μ74 hq _) (cwV 5 hts (gdV tw_580 tw_581 tw_27 tw_41 tw_582) rfl rfl rfl (by decide +kernel) ⟨Nat.le_of_ble_eq_true rfl, Nat.le_of_ble_eq_true rfl⟩) (m_preV (k := 7) (by decide) rfl hK hSt hw) rfl rfl hl.1 rfl (lv_room (Nat.le_of_ble_eq_true rfl)) d_Mo_determinant_85 ⟨Nat.zero_le _, Nat.zero_le _⟩) hw (fun H locs hw => ?_)
  refine lv_aload_n hx hb d_Mo_determinant_88 rfl (lv_at hl 0 rfl) ?_
  refine lv_iconst (v := 2) hx hb d_Mo_determinant_89 (by decide) ?_
  refine lv_iconst (v := 3) hx hb d_Mo_determinant_90 (by decide) ?_
  refine lv_iconst (v := 0) hx hb d_Mo_determinant_91 (by decide) ?_
  refine lv_iconst (v := 2) hx hb d_Mo_determinant_92 (by decide) ?_
  refine lv_iload_n hx hb d_Mo_determinant_93 rfl (lv_at hl 1 rfl) ?_
  obtain ⟨r94, μ94, hq, h⟩ := bd2 h
  refine m_call (r := some (.long r94)) (μ1 := μ94) (va_runV (C := "RecipePlansModel") (As := [.int (2 : Int32), .int (3 : Int32), .int (0 : Int32), .int (2 : Int32), .int x1]) (rest := [.long r85, .long ((((r6 * r15) - (r25 * r34)) + (r45 * r54)) + (r65 * r74))]) ⟨hx, hb, hml, hown, hts⟩ (c_Mo_minor l G N (2 : Int32) (3 : Int32) (0 : Int32) (2 : Int32) x1 μ85 hq _) (cwV 5 hts (gdV tw_580 tw_581 tw_27 tw_41 tw_582) rfl rfl rfl (by decide +kernel) ⟨Nat.le_of_ble_eq_true rfl, Nat.le_of_ble_eq_true rfl⟩) (m_preV (k := 7) (by decide) rfl hK hSt hw) rfl rfl hl.1 rfl (lv_room (Nat.le_of_ble_eq_true rfl)) d_Mo_determinant_94 ⟨Nat.zero_le _, Nat.zero_le _⟩) hw (fun H locs hw => ?_)
  refine lv_lmul hx hb d_Mo_determinant_97 ?_
  refine lv_lsub hx hb d_Mo_determinant_98 ?_
  refine lv_aload_n hx hb d_Mo_determinant_99 rfl (lv_at hl 0 rfl) ?_
  refine lv_iconst (v := 0) hx hb d_Mo_determinant_100 (by decide) ?_
  refine lv_iconst (v := 1) hx hb d_Mo_determinant_101 (by decide) ?_
  refine lv_iconst (v := 2) hx hb d_Mo_determinant_102 (by decide) ?_
  refine lv_iconst (v := 3) hx hb d_Mo_determinant_103 (by decide) ?_
  refine lv_iload_n hx hb d_Mo_determinant_104 rfl (lv_at hl 1 rfl) ?_
  obtain ⟨r105, μ105, hq, h⟩ := bd2 h
  refine m_call (r := some (.long r105)) (μ1 := μ105) (va_runV (C := "RecipePlansModel") (As := [.int (0 : Int32), .int (1 : Int32), .int (2 : Int32), .int (3 : Int32), .int x1]) (rest := [.long (((((r6 * r15) - (r25 * r34)) + (r45 * r54)) + (r65 * r74)) - (r85 * r94))]) ⟨hx, hb, hml, hown, hts⟩ (c_Mo_minor l G N (0 : Int32) (1 : Int32) (2 : Int32) (3 : Int32) x1 μ94 hq _) (cwV 5 hts (gdV tw_580 tw_581 tw_27 tw_41 tw_582) rfl rfl rfl (by decide +kernel) ⟨Nat.le_of_ble_eq_true rfl, Nat.le_of_ble_eq_true rfl⟩) (m_preV (k := 7) (by decide) rfl hK hSt hw) rfl rfl hl.1 rfl (lv_room (Nat.le_of_ble_eq_true rfl)) d_Mo_determinant_105 ⟨Nat.zero_le _, Nat.zero_le _⟩) hw (fun H locs hw => ?_)
  refine lv_aload_n hx hb d_Mo_determinant_108 rfl (lv_at hl 0 rfl) ?_
  refine lv_iconst (v := 2) hx hb d_Mo_determinant_109 (by decide) ?_
  refine lv_iconst (v := 3) hx hb d_Mo_determinant_110 (by decide) ?_
  refine lv_iconst (v := 0) hx hb d_Mo_determinant_111 (by decide) ?_
  refine lv_iconst (v := 1) hx hb d_Mo_determinant_112 (by decide) ?_
  refine lv_iload_n hx hb d_Mo_determinant_113 rfl (lv_at hl 1 rfl) ?_
  obtain ⟨r114, μ114, hq, h⟩ := bd2 h
  refine m_call (r := some (.long r114)) (μ1 := μ114) (va_runV (C := "RecipePlansModel") (As := [.int (2 : Int32), .int (3 : Int32), .int (0 : Int32), .int (1 : Int32), .int x1]) (rest := [.long r105, .long (((((r6 * r15) - (r25 * r34)) + (r45 * r54)) + (r65 * r74)) - (r85 * r94))]) ⟨hx, hb, hml, hown, hts⟩ (c_Mo_minor l G N (2 : Int32) (3 : Int32) (0 : Int32) (1 : Int32) x1 μ105 hq _) (cwV 5 hts (gdV tw_580 tw_581 tw_27 tw_41 tw_582) rfl rfl rfl (by decide +kernel) ⟨Nat.le_of_ble_eq_true rfl, Nat.le_of_ble_eq_true rfl⟩) (m_preV (k := 7) (by decide) rfl hK hSt hw) rfl rfl hl.1 rfl (lv_room (Nat.le_of_ble_eq_true rfl)) d_Mo_determinant_114 ⟨Nat.zero_le _, Nat.zero_le _⟩) hw (fun H locs hw => ?_)
  refine lv_lmul hx hb d_Mo_determinant_117 ?_
  refine lv_ladd hx hb d_Mo_determinant_118 ?_
  exact m_lret hx hb hr hlk hw h d_Mo_determinant_119
set_option maxRecDepth 100000 in
set_option maxHeartbeats 4000000 in
theorem w_Mo_common_28 {r : Int64} {N : Nat} (C : CxP p s m args meth c prog_9_method_22_code 10 (some .long) "RecipePlansModel" ws_Mo_common) : ∀ (n : Nat) (x4 : Int64) (x6 : Int64) (ls : Array Slot), lv_has ls 10 [(4, .long x4), (6, .long x6)] → M_Mo_common_28 N n x4 x6 = some r → WP rm_Mo_common p l e s m args below meth c (.long r) 28 ls [] := by
  obtain ⟨hx, hb, hr, hml, hown, hts, hlk⟩ := id C
  intro n
  induction n with
  | zero =>
    intro x4 x6 ls hl h
    rw [M_Mo_common_28] at h
    cases h
  | succ n ih =>
    intro x4 x6 ls hl h
    rw [M_Mo_common_28] at h
    refine lv_lload hx hb d_Mo_common_28 (lv_at hl 0 rfl) ?_
    refine lv_lconst (v := 0) hx hb d_Mo_common_30 (by decide) ?_
    refine W.lcmp hx hb d_Mo_common_31 ?_
    refine lv_if_eq (tgt := 53) hx hb d_Mo_common_32 (by decide) (fun c32 => ?_) (fun c32 => ?_)
    · have h := ifp c32 h
      refine lv_lload hx hb d_Mo_common_53 (lv_at hl 1 rfl) ?_
      exact m_plret hx hb hr hlk h d_Mo_common_55
    · have h := ifn c32 h
      refine lv_lload hx hb d_Mo_common_35 (lv_at hl 1 rfl) ?_
      refine lv_lload hx hb d_Mo_common_37 (lv_at hl 0 rfl) ?_
      obtain ⟨v39, hv, h⟩ := bd h
      refine m_lrem hx hb hv d_Mo_common_39 ?_
      refine lv_lstore (lv' := [(8, .long v39), (4, .long x4), (6, .long x6)]) hx hb d_Mo_common_40 hl (by decide) rfl (fun ls hl => ?_)
      refine lv_lload hx hb d_Mo_common_42 (lv_at hl 1 rfl) ?_
      refine lv_lstore (lv' := [(6, .long x4), (8, .long v39), (4, .long x4)]) hx hb d_Mo_common_44 hl (by decide) rfl (fun ls hl => ?_)
      refine lv_lload hx hb d_Mo_common_46 (lv_at hl 1 rfl) ?_
      refine lv_lstore (lv' := [(4, .long v39), (6, .long x4), (8, .long v39)]) hx hb d_Mo_common_48 hl (by decide) rfl (fun ls hl => ?_)
      refine lv_goto (tgt := 28) hx hb d_Mo_common_50 (by decide) ?_
      exact ih v39 x4 _ (lv_sub hl [0, 1] rfl) h
set_option maxRecDepth 100000 in
set_option maxHeartbeats 4000000 in
theorem w_Mo_common_12 {r : Int64} {N : Nat} (C : CxP p s m args meth c prog_9_method_22_code 10 (some .long) "RecipePlansModel" ws_Mo_common) : ∀ (x2 : Int64) (y0 : Int64) (ls : Array Slot), lv_has ls 10 [(2, .long x2)] → M_Mo_common_12 N x2 y0 = some r → WP rm_Mo_common p l e s m args below meth c (.long r) 12 ls [.long y0] := by
  obtain ⟨hx, hb, hr, hml, hown, hts, hlk⟩ := id C
  intro x2 y0 ls hl h
  unfold M_Mo_common_12 at h
  refine lv_lstore (lv' := [(4, .long y0), (2, .long x2)]) hx hb d_Mo_common_12 hl (by decide) rfl (fun ls hl => ?_)
  refine lv_lload_n hx hb d_Mo_common_14 rfl (lv_at hl 1 rfl) ?_
  refine lv_lconst (v := 0) hx hb d_Mo_common_15 (by decide) ?_
  refine W.lcmp hx hb d_Mo_common_16 ?_
  refine lv_if_ge (tgt := 25) hx hb d_Mo_common_17 (by decide) (fun c17 => ?_) (fun c17 => ?_)
  · have h := ifp c17 h
    refine lv_lload_n hx hb d_Mo_common_25 rfl (lv_at hl 1 rfl) ?_
    refine lv_lstore (lv' := [(6, .long x2), (4, .long y0), (2, .long x2)]) hx hb d_Mo_common_26 hl (by decide) rfl (fun ls hl => ?_)
    exact w_Mo_common_28 C N y0 x2 _ (lv_sub hl [1, 0] rfl) h
  · have h := ifn c17 h
    refine lv_lload_n hx hb d_Mo_common_20 rfl (lv_at hl 1 rfl) ?_
    refine lv_lneg hx hb d_Mo_common_21 ?_
    refine lv_goto (tgt := 26) hx hb d_Mo_common_22 (by decide) ?_
    obtain ⟨x6_26, ex6_26, h⟩ := nmx h
    refine m_eql ex6_26 ?_
    refine lv_lstore (lv' := [(6, .long x6_26), (4, .long y0), (2, .long x2)]) hx hb d_Mo_common_26 hl (by decide) rfl (fun ls hl => ?_)
    exact w_Mo_common_28 C N y0 x6_26 _ (lv_sub hl [1, 0] rfl) h
set_option maxRecDepth 100000 in
set_option maxHeartbeats 4000000 in
theorem c_Mo_common (l : Launch) (N : Nat) (x0 : Int64) (x2 : Int64) {r : Int64} (h : M_Mo_common N x0 x2 = some r) : CTp l y_Mo_common ws_Mo_common rm_Mo_common [.long x0, .long x2] (.long r) := by
  refine m_metP (cc := prog_9_method_22_code) (maxL := 10) (ret := (some .long)) (by decide +kernel) rfl (Nat.le_of_ble_eq_true rfl) ?_
  intro p e s m args below meth c ls C hl
  obtain ⟨hx, hb, hr, hml, hown, hts, hlk⟩ := id C
  have hl : lv_has ls 10 [(0, .long x0), (2, .long x2)] := hl
  unfold M_Mo_common at h
  refine lv_lload_n hx hb d_Mo_common_0 rfl (lv_at hl 0 rfl) ?_
  refine lv_lconst (v := 0) hx hb d_Mo_common_1 (by decide) ?_
  refine W.lcmp hx hb d_Mo_common_2 ?_
  refine lv_if_ge (tgt := 11) hx hb d_Mo_common_3 (by decide) (fun c3 => ?_) (fun c3 => ?_)
  · have h := ifp c3 h
    refine lv_lload_n hx hb d_Mo_common_11 rfl (lv_at hl 0 rfl) ?_
    exact w_Mo_common_12 C x2 x0 _ (lv_sub hl [1] rfl) h
  · have h := ifn c3 h
    refine lv_lload_n hx hb d_Mo_common_6 rfl (lv_at hl 0 rfl) ?_
    refine lv_lneg hx hb d_Mo_common_7 ?_
    refine lv_goto (tgt := 12) hx hb d_Mo_common_8 (by decide) ?_
    exact w_Mo_common_12 C x2 (-x0) _ (lv_sub hl [1] rfl) h
set_option maxRecDepth 100000 in
set_option maxHeartbeats 4000000 in
theorem w_Mo_meet_78 {r : Int32} {μ' : Mem} {N : Nat} (C : CxA G p s m args meth c prog_9_method_23_code 4 (some .boolean) "RecipePlansModel" ws_Mo_meet) : ∀ (n : Nat) (x1 : Int64) (x3 : Int32) (μ : Mem) (H : Heap) (locs : List Loc) (ls : Array Slot), Wk G s μ H locs → lv_has ls 4 [(0, .ref (G.2.1 7)), (1, .long x1), (3, .int x3)] → M_Mo_meet_78 N n x1 x3 μ = some (r, μ') → WA G rm_Mo_meet p l e s m args below meth c (some (.int r)) μ' H locs 78 ls [] := by
  obtain ⟨hx, hb, hr, hml, hown, hts, hlk, hK, hSt⟩ := id C
  intro n
  induction n with
  | zero =>
    intro x1 x3 μ H locs ls hw hl h
    rw [M_Mo_meet_78] at h
    cases h
  | succ n ih =>
    intro x1 x3 μ H locs ls hw hl h
    rw [M_Mo_meet_78] at h
    refine lv_iload_n hx hb d_Mo_meet_78 rfl (lv_at hl 2 rfl) ?_
    refine lv_iconst (v := 4) hx hb d_Mo_meet_79 (by decide) ?_
    refine lv_icmp_ge (tgt := 99) hx hb d_Mo_meet_80 (by decide) (fun c80 => ?_) (fun c80 => ?_)
    · have h := ifp c80 h
      refine lv_aload_n hx hb d_Mo_meet_99 rfl (lv_at hl 0 rfl) ?_
      refine lv_dup hx hb d_Mo_meet_100 rfl ?_
      refine va_get (D := G.1) (ci := 7) (v := .long (μ.2 7 22)) (C := "RecipePlansModel") (T := T_Mo) (N := 24) hx hb hts (fun _ h9 => List.mem_cons_of_mem _ (inT_Mo _ h9)) hown hK hw.1 7 (WL_get (by decide)) rfl 22 (by decide) (hts _ (List.mem_cons_of_mem _ tw_475)) (fun _ h9 => h9) rfl d_Mo_meet_101 ?_
      refine lv_lload_n hx hb d_Mo_meet_104 rfl (lv_at hl 1 rfl) ?_
      obtain ⟨v105, hv, h⟩ := bd h
      refine m_ldiv hx hb hv d_Mo_meet_105 ?_
      obtain ⟨μ106, hm, h⟩ := bd h
      refine va_put (D := G.1) (ci := 7) (v := .long v105) (ty := .long) (C := "RecipePlansModel") (T := T_Mo) (N := 24) hx hb hts (fun _ h9 => List.mem_cons_of_mem _ (inT_Mo _ h9)) ty_Mo tyok_Mo nm_Mo hown hK hw.1 hw.2.1 hw.2.2 7 (WL_get (by decide)) rfl 22 (by decide) (hts _ (List.mem_cons_of_mem _ tw_475)) (fun _ h9 => h9) rfl (by decide +kernel) rfl rfl (Nat.le_of_ble_eq_true rfl) d_Mo_meet_106 (fun H locs hP hD hS => ?_)
      have hw := wk_pJ hm (by decide) (by rfl) hP hD hS
      refine lv_iconst (v := 1) hx hb d_Mo_meet_109 (by decide) ?_
      exact m_zret hx hb hr hlk hw h d_Mo_meet_110
    · have h := ifn c80 h
      refine lv_aload_n hx hb d_Mo_meet_83 rfl (lv_at hl 0 rfl) ?_
      refine va_get (D := G.1) (ci := 7) (v := .ref (G.2.1 46)) (C := "RecipePlansModel") (T := T_Mo) (N := 24) hx hb hts (fun _ h9 => List.mem_cons_of_mem _ (inT_Mo _ h9)) hown hK hw.1 7 (WL_get (by decide)) rfl 21 (by decide) (hts _ (List.mem_cons_of_mem _ tw_474)) (fun _ h9 => h9) rfl d_Mo_meet_84 ?_
      refine lv_iload_n hx hb d_Mo_meet_87 rfl (lv_at hl 2 rfl) ?_
      refine lv_dup2_11 hx hb d_Mo_meet_88 rfl rfl ?_
      obtain ⟨v89, hv, h⟩ := bd h
      refine m_laload hx hb hK hw hv d_Mo_meet_89 ?_
      refine lv_lload_n hx hb d_Mo_meet_90 rfl (lv_at hl 1 rfl) ?_
      obtain ⟨v91, hv, h⟩ := bd h
      refine m_ldiv hx hb hv d_Mo_meet_91 ?_
      obtain ⟨μ92, hm, h⟩ := bd h
      refine m_lastore hx hb hK hw hm d_Mo_meet_92 (fun H locs hw => ?_)
      refine lv_iinc (v := x3 + 1) (lv' := [(3, .int (x3 + 1)), (0, .ref (G.2.1 7)), (1, .long x1)]) hx hb d_Mo_meet_93 hl (k := 2) rfl rfl (by decide) rfl (fun ls hl => ?_)
      refine lv_goto (tgt := 78) hx hb d_Mo_meet_96 (by decide) ?_
      exact ih x1 (x3 + 1) μ92 _ _ _ hw (lv_sub hl [1, 2, 0] rfl) h
set_option maxRecDepth 100000 in
set_option maxHeartbeats 4000000 in
theorem w_Mo_meet_75 {r : Int32} {μ' : Mem} {N : Nat} (C : CxA G p s m args meth c prog_9_method_23_code 4 (some .boolean) "RecipePlansModel" ws_Mo_meet) : ∀ (y0 : Int64) (μ : Mem) (H : Heap) (locs : List Loc) (ls : Array Slot), Wk G s μ H locs → lv_has ls 4 [(0, .ref (G.2.1 7))] → M_Mo_meet_75 N y0 μ = some (r, μ') → WA G rm_Mo_meet p l e s m args below meth c (some (.int r)) μ' H locs 75 ls [.long y0] := by
  obtain ⟨hx, hb, hr, hml, hown, hts, hlk, hK, hSt⟩ := id C
  intro y0 μ H locs ls hw hl h
  unfold M_Mo_meet_75 at h
  refine lv_lstore_n (lv' := [(1, .long y0), (0, .ref (G.2.1 7))]) hx hb d_Mo_meet_75 rfl hl (by decide) rfl (fun ls hl => ?_)
  refine lv_iconst (v := 0) hx hb d_Mo_meet_76 (by decide) ?_
  refine lv_istore_n (lv' := [(3, .int (0 : Int32)), (1, .long y0), (0, .ref (G.2.1 7))]) hx hb d_Mo_meet_77 rfl hl (by decide) rfl (fun ls hl => ?_)
  exact w_Mo_meet_78 C N y0 (0 : Int32) μ _ _ _ hw (lv_sub hl [2, 1, 0] rfl) h
set_option maxRecDepth 100000 in
set_option maxHeartbeats 4000000 in
theorem w_Mo_meet_27 {r : Int32} {μ' : Mem} {N : Nat} (C : CxA G p s m args meth c prog_9_method_23_code 4 (some .boolean) "RecipePlansModel" ws_Mo_meet) : ∀ (n : Nat) (x1 : Int64) (x3 : Int32) (μ : Mem) (H : Heap) (locs : List Loc) (ls : Array Slot), Wk G s μ H locs → lv_has ls 4 [(0, .ref (G.2.1 7)), (1, .long x1), (3, .int x3)] → M_Mo_meet_27 N n x1 x3 μ = some (r, μ') → WA G rm_Mo_meet p l e s m args below meth c (some (.int r)) μ' H locs 27 ls [] := by
  obtain ⟨hx, hb, hr, hml, hown, hts, hlk, hK, hSt⟩ := id C
  intro n
  induction n with
  | zero =>
    intro x1 x3 μ H locs ls hw hl h
    rw [M_Mo_meet_27] at h
    cases h
  | succ n ih =>
    intro x1 x3 μ H locs ls hw hl h
    rw [M_Mo_meet_27] at h
    refine lv_iload_n hx hb d_Mo_meet_27 rfl (lv_at hl 2 rfl) ?_
    refine lv_iconst (v := 4) hx hb d_Mo_meet_28 (by decide) ?_
    refine lv_icmp_ge (tgt := 60) hx hb d_Mo_meet_29 (by decide) (fun c29 => ?_) (fun c29 => ?_)
    · have h := ifp c29 h
      refine lv_aload_n hx hb d_Mo_meet_60 rfl (lv_at hl 0 rfl) ?_
      refine va_get (D := G.1) (ci := 7) (v := .long (μ.2 7 22)) (C := "RecipePlansModel") (T := T_Mo) (N := 24) hx hb hts (fun _ h9 => List.mem_cons_of_mem _ (inT_Mo _ h9)) hown hK hw.1 7 (WL_get (by decide)) rfl 22 (by decide) (hts _ (List.mem_cons_of_mem _ tw_475)) (fun _ h9 => h9) rfl d_Mo_meet_61 ?_
      refine lv_lconst (v := 0) hx hb d_Mo_meet_64 (by decide) ?_
      refine W.lcmp hx hb d_Mo_meet_65 ?_
      refine lv_if_ge (tgt := 74) hx hb d_Mo_meet_66 (by decide) (fun c66 => ?_) (fun c66 => ?_)
      · have h := ifp c66 h
        refine lv_lload_n hx hb d_Mo_meet_74 rfl (lv_at hl 1 rfl) ?_
        exact w_Mo_meet_75 C x1 μ _ _ _ hw (lv_sub hl [0] rfl) h
      · have h := ifn c66 h
        refine lv_lload_n hx hb d_Mo_meet_69 rfl (lv_at hl 1 rfl) ?_
        refine lv_lneg hx hb d_Mo_meet_70 ?_
        refine lv_goto (tgt := 75) hx hb d_Mo_meet_71 (by decide) ?_
        exact w_Mo_meet_75 C (-x1) μ _ _ _ hw (lv_sub hl [0] rfl) h
    · have h := ifn c29 h
      refine lv_aload_n hx hb d_Mo_meet_32 rfl (lv_at hl 0 rfl) ?_
      refine va_get (D := G.1) (ci := 7) (v := .ref (G.2.1 46)) (C := "RecipePlansModel") (T := T_Mo) (N := 24) hx hb hts (fun _ h9 => List.mem_cons_of_mem _ (inT_Mo _ h9)) hown hK hw.1 7 (WL_get (by decide)) rfl 21 (by decide) (hts _ (List.mem_cons_of_mem _ tw_474)) (fun _ h9 => h9) rfl d_Mo_meet_33 ?_
      refine lv_iload_n hx hb d_Mo_meet_36 rfl (lv_at hl 2 rfl) ?_
      refine lv_aload_n hx hb d_Mo_meet_37 rfl (lv_at hl 0 rfl) ?_
      refine lv_iload_n hx hb d_Mo_meet_38 rfl (lv_at hl 2 rfl) ?_
      obtain ⟨r39, μ39, hq, h⟩ := bd2 h
      refine m_call (r := some (.long r39)) (μ1 := μ39) (va_runV (C := "RecipePlansModel") (As := [.int x3]) (rest := [.int x3, .ref (G.2.1 46)]) ⟨hx, hb, hml, hown, hts⟩ (c_Mo_determinant l G N x3 μ hq _) (cwV 1 hts (gdV tw_577 tw_578 tw_26 tw_41 tw_579) rfl rfl rfl (by decide +kernel) ⟨Nat.le_of_ble_eq_true rfl, Nat.le_of_ble_eq_true rfl⟩) (m_preV (k := 7) (by decide) rfl hK hSt hw) rfl rfl hl.1 rfl (lv_room (Nat.le_of_ble_eq_true rfl)) d_Mo_meet_39 ⟨Nat.zero_le _, Nat.zero_le _⟩) hw (fun H locs hw => ?_)
      obtain ⟨μ42, hm, h⟩ := bd h
      refine m_lastore hx hb hK hw hm d_Mo_meet_42 (fun H locs hw => ?_)
      refine lv_aload_n hx hb d_Mo_meet_43 rfl (lv_at hl 0 rfl) ?_
      refine va_get (D := G.1) (ci := 7) (v := .ref (G.2.1 46)) (C := "RecipePlansModel") (T := T_Mo) (N := 24) hx hb hts (fun _ h9 => List.mem_cons_of_mem _ (inT_Mo _ h9)) hown hK hw.1 7 (WL_get (by decide)) rfl 21 (by decide) (hts _ (List.mem_cons_of_mem _ tw_474)) (fun _ h9 => h9) rfl d_Mo_meet_44 ?_
      refine lv_iload_n hx hb d_Mo_meet_47 rfl (lv_at hl 2 rfl) ?_
      obtain ⟨v48, hv, h⟩ := bd h
      refine m_laload hx hb hK hw hv d_Mo_meet_48 ?_
      refine lv_lload_n hx hb d_Mo_meet_49 rfl (lv_at hl 1 rfl) ?_
      obtain ⟨r50, hq, h⟩ := bd h
      refine m_pcall (r := .long r50) (W.runS (As := [.long v48, .long x1]) (rest := []) ⟨hx, hb, hml, hown, hts⟩ (c_Mo_common l N v48 x1 hq) (va_cwS 2 hts (gdS tw_586 tw_587 tw_41 tw_588) rfl rfl rfl (by decide +kernel) ⟨Nat.le_of_ble_eq_true rfl, Nat.le_of_ble_eq_true rfl⟩) preEq rfl rfl hl.1 rfl (lv_room (Nat.le_of_ble_eq_true rfl)) d_Mo_meet_50 ⟨Nat.zero_le _, Nat.zero_le _⟩) ?_
      refine lv_lstore_n (lv' := [(1, .long r50), (0, .ref (G.2.1 7)), (3, .int x3)]) hx hb d_Mo_meet_53 rfl hl (by decide) rfl (fun ls hl => ?_)
      refine lv_iinc (v := x3 + 1) (lv' := [(3, .int (x3 + 1)), (1, .long r50), (0, .ref (G.2.1 7))]) hx hb d_Mo_meet_54 hl (k := 2) rfl rfl (by decide) rfl (fun ls hl => ?_)
      refine lv_goto (tgt := 27) hx hb d_Mo_meet_57 (by decide) ?_
      exact ih r50 (x3 + 1) μ42 _ _ _ hw (lv_sub hl [2, 1, 0] rfl) h
set_option maxRecDepth 100000 in
set_option maxHeartbeats 4000000 in
theorem c_Mo_meet (l : Launch) (G : Gw) (N : Nat) (μ : Mem) {r : Int32} {μ' : Mem} (h : M_Mo_meet N μ = some (r, μ')) : CT l y_Mo_meet ws_Mo_meet rm_Mo_meet [.ref (G.2.1 7)] G μ (some (.int r)) μ' := by
  refine m_met (cc := prog_9_method_23_code) (maxL := 4) (ret := (some .boolean)) (by decide) rfl (Nat.le_of_ble_eq_true rfl) ?_
  intro p e s m args below meth c ls C hw hl
  obtain ⟨hx, hb, hr, hml, hown, hts, hlk, hK, hSt⟩ := id C
  have hl : lv_has ls 4 [(0, .ref (G.2.1 7))] := hl
  unfold M_Mo_meet at h
  refine lv_aload_n hx hb d_Mo_meet_0 rfl (lv_at hl 0 rfl) ?_
  refine lv_aload_n hx hb d_Mo_meet_1 rfl (lv_at hl 0 rfl) ?_
  refine lv_iconst (v := 4) hx hb d_Mo_meet_2 (by decide) ?_
  obtain ⟨r3, μ3, hq, h⟩ := bd2 h
  refine m_call (r := some (.long r3)) (μ1 := μ3) (va_runV (C := "RecipePlansModel") (As := [.int (4 : Int32)]) (rest := [.ref (G.2.1 7)]) ⟨hx, hb, hml, hown, hts⟩ (c_Mo_determinant l G N (4 : Int32) μ hq _) (cwV 1 hts (gdV tw_577 tw_578 tw_26 tw_41 tw_579) rfl rfl rfl (by decide +kernel) ⟨Nat.le_of_ble_eq_true rfl, Nat.le_of_ble_eq_true rfl⟩) (m_preV (k := 7) (by decide) rfl hK hSt hw) rfl rfl hl.1 rfl (lv_room (Nat.le_of_ble_eq_true rfl)) d_Mo_meet_3 ⟨Nat.zero_le _, Nat.zero_le _⟩) hw (fun H locs hw => ?_)
  obtain ⟨μ6, hm, h⟩ := bd h
  refine va_put (D := G.1) (ci := 7) (v := .long r3) (ty := .long) (C := "RecipePlansModel") (T := T_Mo) (N := 24) hx hb hts (fun _ h9 => List.mem_cons_of_mem _ (inT_Mo _ h9)) ty_Mo tyok_Mo nm_Mo hown hK hw.1 hw.2.1 hw.2.2 7 (WL_get (by decide)) rfl 22 (by decide) (hts _ (List.mem_cons_of_mem _ tw_475)) (fun _ h9 => h9) rfl (by decide +kernel) rfl rfl (Nat.le_of_ble_eq_true rfl) d_Mo_meet_6 (fun H locs hP hD hS => ?_)
  have hw := wk_pJ hm (by decide) (by rfl) hP hD hS
  refine lv_aload_n hx hb d_Mo_meet_9 rfl (lv_at hl 0 rfl) ?_
  refine va_get (D := G.1) (ci := 7) (v := .long (μ6.2 7 22)) (C := "RecipePlansModel") (T := T_Mo) (N := 24) hx hb hts (fun _ h9 => List.mem_cons_of_mem _ (inT_Mo _ h9)) hown hK hw.1 7 (WL_get (by decide)) rfl 22 (by decide) (hts _ (List.mem_cons_of_mem _ tw_475)) (fun _ h9 => h9) rfl d_Mo_meet_10 ?_
  refine lv_lconst (v := 0) hx hb d_Mo_meet_13 (by decide) ?_
  refine W.lcmp hx hb d_Mo_meet_14 ?_
  refine lv_if_ne (tgt := 20) hx hb d_Mo_meet_15 (by decide) (fun c15 => ?_) (fun c15 => ?_)
  · have h := ifn c15 h
    refine lv_aload_n hx hb d_Mo_meet_20 rfl (lv_at hl 0 rfl) ?_
    refine va_get (D := G.1) (ci := 7) (v := .long (μ6.2 7 22)) (C := "RecipePlansModel") (T := T_Mo) (N := 24) hx hb hts (fun _ h9 => List.mem_cons_of_mem _ (inT_Mo _ h9)) hown hK hw.1 7 (WL_get (by decide)) rfl 22 (by decide) (hts _ (List.mem_cons_of_mem _ tw_475)) (fun _ h9 => h9) rfl d_Mo_meet_21 ?_
    obtain ⟨x1_24, ex1_24, h⟩ := nmx h
    refine m_eql ex1_24 ?_
    refine lv_lstore_n (lv' := [(1, .long x1_24), (0, .ref (G.2.1 7))]) hx hb d_Mo_meet_24 rfl hl (by decide) rfl (fun ls hl => ?_)
    refine lv_iconst (v := 0) hx hb d_Mo_meet_25 (by decide) ?_
    refine lv_istore_n (lv' := [(3, .int (0 : Int32)), (1, .long x1_24), (0, .ref (G.2.1 7))]) hx hb d_Mo_meet_26 rfl hl (by decide) rfl (fun ls hl => ?_)
    exact w_Mo_meet_27 C N x1_24 (0 : Int32) μ6 _ _ _ hw (lv_sub hl [2, 1, 0] rfl) h
  · have h := ifp c15 h
    refine lv_iconst (v := 0) hx hb d_Mo_meet_18 (by decide) ?_
    exact m_zret hx hb hr hlk hw h d_Mo_meet_19
set_option maxRecDepth 100000 in
set_option maxHeartbeats 4000000 in
theorem w_Mo_isKept_136 {r : Int32} {μ' : Mem} {N : Nat} (C : CxA G p s m args meth c prog_9_method_24_code 13 (some .boolean) "RecipePlansModel" ws_Mo_isKept) : ∀ (x2 : Int64) (x4 : Int64) (y0 : Int64) (μ : Mem) (H : Heap) (locs : List Loc) (ls : Array Slot), Wk G s μ H locs → lv_has ls 13 [(2, .long x2), (4, .long x4)] → M_Mo_isKept_136 N x2 x4 y0 μ = some (r, μ') → WA G rm_Mo_isKept p l e s m args below meth c (some (.int r)) μ' H locs 136 ls [.long y0] := by
  obtain ⟨hx, hb, hr, hml, hown, hts, hlk, hK, hSt⟩ := id C
  intro x2 x4 y0 μ H locs ls hw hl h
  unfold M_Mo_isKept_136 at h
  refine lv_lstore (lv' := [(6, .long y0), (2, .long x2), (4, .long x4)]) hx hb d_Mo_isKept_136 hl (by decide) rfl (fun ls hl => ?_)
  refine lv_lload_n hx hb d_Mo_isKept_138 rfl (lv_at hl 1 rfl) ?_
  refine lv_lload hx hb d_Mo_isKept_139 (lv_at hl 2 rfl) ?_
  refine lv_lload hx hb d_Mo_isKept_141 (lv_at hl 0 rfl) ?_
  refine lv_lsub hx hb d_Mo_isKept_143 ?_
  refine lv_ldc2 (v := 2147483648) hx hb hown (hts _ (List.mem_cons_of_mem _ tw_595)) d_Mo_isKept_144 ?_
  obtain ⟨v147, hv, h⟩ := bd h
  refine m_ldiv hx hb hv d_Mo_isKept_147 ?_
  refine lv_ladd hx hb d_Mo_isKept_148 ?_
  refine lv_lconst (v := 0) hx hb d_Mo_isKept_149 (by decide) ?_
  refine W.lcmp hx hb d_Mo_isKept_150 ?_
  refine lv_if_lt (tgt := 158) hx hb d_Mo_isKept_151 (by decide) (fun c151 => ?_) (fun c151 => ?_)
  · have h := ifp c151 h
    refine lv_iconst (v := 0) hx hb d_Mo_isKept_158 (by decide) ?_
    exact m_zret hx hb hr hlk hw h d_Mo_isKept_159
  · have h := ifn c151 h
    refine lv_iconst (v := 1) hx hb d_Mo_isKept_154 (by decide) ?_
    refine lv_goto (tgt := 159) hx hb d_Mo_isKept_155 (by decide) ?_
    exact m_zret hx hb hr hlk hw h d_Mo_isKept_159
set_option maxRecDepth 100000 in
set_option maxHeartbeats 4000000 in
theorem w_Mo_isKept_77 {r : Int32} {μ' : Mem} {N : Nat} (C : CxA G p s m args meth c prog_9_method_24_code 13 (some .boolean) "RecipePlansModel" ws_Mo_isKept) {K8 : Int32 → Int64 → Int64 → Int32 → Mem → Option (Int32 × Mem)} (hK8 : ∀ (x1 : Int32) (x2 : Int64) (x4 : Int64) (x6 : Int32) (μ : Mem) (H : Heap) (locs : List Loc) (ls : Array Slot), Wk G s μ H locs → lv_has ls 13 [(0, .ref (G.2.1 7)), (1, .int x1), (2, .long x2), (4, .long x4), (6, .int x6)] → K8 x1 x2 x4 x6 μ = some (r, μ') → WA G rm_Mo_isKept p l e s m args below meth c (some (.int r)) μ' H locs 8 ls []) : ∀ (x1 : Int32) (x2 : Int64) (x4 : Int64) (x6 : Int32) (x7 : Int64) (x9 : Int64) (y0 : Int64) (μ : Mem) (H : Heap) (locs : List Loc) (ls : Array Slot), Wk G s μ H locs → lv_has ls 13 [(0, .ref (G.2.1 7)), (1, .int x1), (2, .long x2), (4, .long x4), (6, .int x6), (7, .long x7), (9, .long x9)] → M_Mo_isKept_77 N K8 x1 x2 x4 x6 x7 x9 y0 μ = some (r, μ') → WA G rm_Mo_isKept p l e s m args below meth c (some (.int r)) μ' H locs 77 ls [.long y0] := by
  obtain ⟨hx, hb, hr, hml, hown, hts, hlk, hK, hSt⟩ := id C
  intro x1 x2 x4 x6 x7 x9 y0 μ H locs ls hw hl h
  unfold M_Mo_isKept_77 at h
  refine lv_lstore (lv' := [(11, .long y0), (0, .ref (G.2.1 7)), (1, .int x1), (2, .long x2), (4, .long x4), (6, .int x6), (7, .long x7), (9, .long x9)]) hx hb d_Mo_isKept_77 hl (by decide) rfl (fun ls hl => ?_)
  refine lv_lload_n hx hb d_Mo_isKept_79 rfl (lv_at hl 3 rfl) ?_
  refine lv_lload hx hb d_Mo_isKept_80 (lv_at hl 7 rfl) ?_
  refine lv_lload hx hb d_Mo_isKept_82 (lv_at hl 6 rfl) ?_
  refine lv_lload hx hb d_Mo_isKept_84 (lv_at hl 0 rfl) ?_
  refine lv_lsub hx hb d_Mo_isKept_86 ?_
  refine lv_ldc2 (v := 2147483648) hx hb hown (hts _ (List.mem_cons_of_mem _ tw_595)) d_Mo_isKept_87 ?_
  obtain ⟨v90, hv, h⟩ := bd h
  refine m_ldiv hx hb hv d_Mo_isKept_90 ?_
  refine lv_lmul hx hb d_Mo_isKept_91 ?_
  refine lv_ladd hx hb d_Mo_isKept_92 ?_
  obtain ⟨x2_93, ex2_93, h⟩ := nmx h
  refine m_eql ex2_93 ?_
  refine lv_lstore_n (lv' := [(2, .long x2_93), (11, .long y0), (0, .ref (G.2.1 7)), (1, .int x1), (4, .long x4), (6, .int x6), (7, .long x7), (9, .long x9)]) hx hb d_Mo_isKept_93 rfl hl (by decide) rfl (fun ls hl => ?_)
  refine lv_lload hx hb d_Mo_isKept_94 (lv_at hl 4 rfl) ?_
  refine lv_lload hx hb d_Mo_isKept_96 (lv_at hl 7 rfl) ?_
  refine lv_lload hx hb d_Mo_isKept_98 (lv_at hl 1 rfl) ?_
  refine lv_lmul hx hb d_Mo_isKept_100 ?_
  refine lv_ladd hx hb d_Mo_isKept_101 ?_
  obtain ⟨x4_102, ex4_102, h⟩ := nmx h
  refine m_eql ex4_102 ?_
  refine lv_lstore (lv' := [(4, .long x4_102), (2, .long x2_93), (11, .long y0), (0, .ref (G.2.1 7)), (1, .int x1), (6, .int x6), (7, .long x7), (9, .long x9)]) hx hb d_Mo_isKept_102 hl (by decide) rfl (fun ls hl => ?_)
  refine lv_iinc (v := x6 + 1) (lv' := [(6, .int (x6 + 1)), (4, .long x4_102), (2, .long x2_93), (11, .long y0), (0, .ref (G.2.1 7)), (1, .int x1), (7, .long x7), (9, .long x9)]) hx hb d_Mo_isKept_104 hl (k := 5) rfl rfl (by decide) rfl (fun ls hl => ?_)
  refine lv_goto (tgt := 8) hx hb d_Mo_isKept_107 (by decide) ?_
  exact hK8 x1 x2_93 x4_102 (x6 + 1) μ _ _ _ hw (lv_sub hl [4, 5, 2, 1, 0] rfl) h
set_option maxRecDepth 100000 in
set_option maxHeartbeats 4000000 in
theorem w_Mo_isKept_35 {r : Int32} {μ' : Mem} {N : Nat} (C : CxA G p s m args meth c prog_9_method_24_code 13 (some .boolean) "RecipePlansModel" ws_Mo_isKept) {K8 : Int32 → Int64 → Int64 → Int32 → Mem → Option (Int32 × Mem)} (hK8 : ∀ (x1 : Int32) (x2 : Int64) (x4 : Int64) (x6 : Int32) (μ : Mem) (H : Heap) (locs : List Loc) (ls : Array Slot), Wk G s μ H locs → lv_has ls 13 [(0, .ref (G.2.1 7)), (1, .int x1), (2, .long x2), (4, .long x4), (6, .int x6)] → K8 x1 x2 x4 x6 μ = some (r, μ') → WA G rm_Mo_isKept p l e s m args below meth c (some (.int r)) μ' H locs 8 ls []) : ∀ (x1 : Int32) (x2 : Int64) (x4 : Int64) (x6 : Int32) (y0 : Int64) (μ : Mem) (H : Heap) (locs : List Loc) (ls : Array Slot), Wk G s μ H locs → lv_has ls 13 [(0, .ref (G.2.1 7)), (1, .int x1), (2, .long x2), (4, .long x4), (6, .int x6)] → M_Mo_isKept_35 N K8 x1 x2 x4 x6 y0 μ = some (r, μ') → WA G rm_Mo_isKept p l e s m args below meth c (some (.int r)) μ' H locs 35 ls [.long y0] := by
  obtain ⟨hx, hb, hr, hml, hown, hts, hlk, hK, hSt⟩ := id C
  intro x1 x2 x4 x6 y0 μ H locs ls hw hl h
  unfold M_Mo_isKept_35 at h
  refine lv_lstore (lv' := [(7, .long y0), (0, .ref (G.2.1 7)), (1, .int x1), (2, .long x2), (4, .long x4), (6, .int x6)]) hx hb d_Mo_isKept_35 hl (by decide) rfl (fun ls hl => ?_)
  refine lv_aload_n hx hb d_Mo_isKept_37 rfl (lv_at hl 1 rfl) ?_
  refine va_get (D := G.1) (ci := 7) (v := .ref (G.2.1 38)) (C := "RecipePlansModel") (T := T_Mo) (N := 24) hx hb hts (fun _ h9 => List.mem_cons_of_mem _ (inT_Mo _ h9)) hown hK hw.1 7 (WL_get (by decide)) rfl 18 (by decide) (hts _ (List.mem_cons_of_mem _ tw_471)) (fun _ h9 => h9) rfl d_Mo_isKept_38 ?_
  refine lv_iconst (v := 5) hx hb d_Mo_isKept_41 (by decide) ?_
  refine lv_iload_n hx hb d_Mo_isKept_42 rfl (lv_at hl 2 rfl) ?_
  refine lv_imul hx hb d_Mo_isKept_43 ?_
  refine lv_iload hx hb d_Mo_isKept_44 (lv_at hl 5 rfl) ?_
  refine lv_iadd hx hb d_Mo_isKept_46 ?_
  obtain ⟨v47, hv, h⟩ := bd h
  refine m_iaload hx hb hK hw hv d_Mo_isKept_47 ?_
  refine lv_i2l hx hb d_Mo_isKept_48 rfl ?_
  obtain ⟨x9_49, ex9_49, h⟩ := nmx h
  refine m_eql ex9_49 ?_
  refine lv_lstore (lv' := [(9, .long x9_49), (7, .long y0), (0, .ref (G.2.1 7)), (1, .int x1), (2, .long x2), (4, .long x4), (6, .int x6)]) hx hb d_Mo_isKept_49 hl (by decide) rfl (fun ls hl => ?_)
  refine lv_lload hx hb d_Mo_isKept_51 (lv_at hl 1 rfl) ?_
  refine lv_ldc2 (v := 2147483648) hx hb hown (hts _ (List.mem_cons_of_mem _ tw_595)) d_Mo_isKept_53 ?_
  obtain ⟨v56, hv, h⟩ := bd h
  refine m_lrem hx hb hv d_Mo_isKept_56 ?_
  refine lv_lstore (lv' := [(11, .long v56), (9, .long x9_49), (7, .long y0), (0, .ref (G.2.1 7)), (1, .int x1), (2, .long x2), (4, .long x4), (6, .int x6)]) hx hb d_Mo_isKept_57 hl (by decide) rfl (fun ls hl => ?_)
  refine lv_lload hx hb d_Mo_isKept_59 (lv_at hl 0 rfl) ?_
  refine lv_lconst (v := 0) hx hb d_Mo_isKept_61 (by decide) ?_
  refine W.lcmp hx hb d_Mo_isKept_62 ?_
  refine lv_if_ge (tgt := 75) hx hb d_Mo_isKept_63 (by decide) (fun c63 => ?_) (fun c63 => ?_)
  · have h := ifp c63 h
    refine lv_lload hx hb d_Mo_isKept_75 (lv_at hl 0 rfl) ?_
    exact w_Mo_isKept_77 C hK8 x1 x2 x4 x6 y0 x9_49 v56 μ _ _ _ hw (lv_sub hl [3, 4, 5, 6, 7, 2, 1] rfl) h
  · have h := ifn c63 h
    refine lv_lload hx hb d_Mo_isKept_66 (lv_at hl 0 rfl) ?_
    refine lv_ldc2 (v := 2147483648) hx hb hown (hts _ (List.mem_cons_of_mem _ tw_595)) d_Mo_isKept_68 ?_
    refine lv_ladd hx hb d_Mo_isKept_71 ?_
    refine lv_goto (tgt := 77) hx hb d_Mo_isKept_72 (by decide) ?_
    exact w_Mo_isKept_77 C hK8 x1 x2 x4 x6 y0 x9_49 (v56 + (2147483648 : Int64)) μ _ _ _ hw (lv_sub hl [3, 4, 5, 6, 7, 2, 1] rfl) h
set_option maxRecDepth 100000 in
set_option maxHeartbeats 4000000 in
theorem w_Mo_isKept_8 {r : Int32} {μ' : Mem} {N : Nat} (C : CxA G p s m args meth c prog_9_method_24_code 13 (some .boolean) "RecipePlansModel" ws_Mo_isKept) : ∀ (n : Nat) (x1 : Int32) (x2 : Int64) (x4 : Int64) (x6 : Int32) (μ : Mem) (H : Heap) (locs : List Loc) (ls : Array Slot), Wk G s μ H locs → lv_has ls 13 [(0, .ref (G.2.1 7)), (1, .int x1), (2, .long x2), (4, .long x4), (6, .int x6)] → M_Mo_isKept_8 N n x1 x2 x4 x6 μ = some (r, μ') → WA G rm_Mo_isKept p l e s m args below meth c (some (.int r)) μ' H locs 8 ls [] := by
  obtain ⟨hx, hb, hr, hml, hown, hts, hlk, hK, hSt⟩ := id C
  intro n
  induction n with
  | zero =>
    intro x1 x2 x4 x6 μ H locs ls hw hl h
    rw [M_Mo_isKept_8] at h
    cases h
  | succ n ih =>
    intro x1 x2 x4 x6 μ H locs ls hw hl h
    rw [M_Mo_isKept_8] at h
    refine lv_iload hx hb d_Mo_isKept_8 (lv_at hl 4 rfl) ?_
    refine lv_iconst (v := 5) hx hb d_Mo_isKept_10 (by decide) ?_
    refine lv_icmp_ge (tgt := 110) hx hb d_Mo_isKept_11 (by decide) (fun c11 => ?_) (fun c11 => ?_)
    · have h := ifp c11 h
      refine lv_lload hx hb d_Mo_isKept_110 (lv_at hl 3 rfl) ?_
      refine lv_ldc2 (v := 2147483648) hx hb hown (hts _ (List.mem_cons_of_mem _ tw_595)) d_Mo_isKept_112 ?_
      obtain ⟨v115, hv, h⟩ := bd h
      refine m_lrem hx hb hv d_Mo_isKept_115 ?_
      refine lv_lstore (lv' := [(6, .long v115), (0, .ref (G.2.1 7)), (1, .int x1), (2, .long x2), (4, .long x4)]) hx hb d_Mo_isKept_116 hl (by decide) rfl (fun ls hl => ?_)
      refine lv_lload hx hb d_Mo_isKept_118 (lv_at hl 0 rfl) ?_
      refine lv_lconst (v := 0) hx hb d_Mo_isKept_120 (by decide) ?_
      refine W.lcmp hx hb d_Mo_isKept_121 ?_
      refine lv_if_ge (tgt := 134) hx hb d_Mo_isKept_122 (by decide) (fun c122 => ?_) (fun c122 => ?_)
      · have h := ifp c122 h
        refine lv_lload hx hb d_Mo_isKept_134 (lv_at hl 0 rfl) ?_
        exact w_Mo_isKept_136 C x2 x4 v115 μ _ _ _ hw (lv_sub hl [3, 4] rfl) h
      · have h := ifn c122 h
        refine lv_lload hx hb d_Mo_isKept_125 (lv_at hl 0 rfl) ?_
        refine lv_ldc2 (v := 2147483648) hx hb hown (hts _ (List.mem_cons_of_mem _ tw_595)) d_Mo_isKept_127 ?_
        refine lv_ladd hx hb d_Mo_isKept_130 ?_
        refine lv_goto (tgt := 136) hx hb d_Mo_isKept_131 (by decide) ?_
        exact w_Mo_isKept_136 C x2 x4 (v115 + (2147483648 : Int64)) μ _ _ _ hw (lv_sub hl [3, 4] rfl) h
    · have h := ifn c11 h
      refine lv_iload hx hb d_Mo_isKept_14 (lv_at hl 4 rfl) ?_
      refine lv_iconst (v := 4) hx hb d_Mo_isKept_16 (by decide) ?_
      refine lv_icmp_ge (tgt := 30) hx hb d_Mo_isKept_17 (by decide) (fun c17 => ?_) (fun c17 => ?_)
      · have h := ifp c17 h
        refine lv_aload_n hx hb d_Mo_isKept_30 rfl (lv_at hl 0 rfl) ?_
        refine va_get (D := G.1) (ci := 7) (v := .long (μ.2 7 22)) (C := "RecipePlansModel") (T := T_Mo) (N := 24) hx hb hts (fun _ h9 => List.mem_cons_of_mem _ (inT_Mo _ h9)) hown hK hw.1 7 (WL_get (by decide)) rfl 22 (by decide) (hts _ (List.mem_cons_of_mem _ tw_475)) (fun _ h9 => h9) rfl d_Mo_isKept_31 ?_
        refine lv_lneg hx hb d_Mo_isKept_34 ?_
        exact w_Mo_isKept_35 C ih x1 x2 x4 x6 (-(μ.2 7 22)) μ _ _ _ hw hl h
      · have h := ifn c17 h
        refine lv_aload_n hx hb d_Mo_isKept_20 rfl (lv_at hl 0 rfl) ?_
        refine va_get (D := G.1) (ci := 7) (v := .ref (G.2.1 46)) (C := "RecipePlansModel") (T := T_Mo) (N := 24) hx hb hts (fun _ h9 => List.mem_cons_of_mem _ (inT_Mo _ h9)) hown hK hw.1 7 (WL_get (by decide)) rfl 21 (by decide) (hts _ (List.mem_cons_of_mem _ tw_474)) (fun _ h9 => h9) rfl d_Mo_isKept_21 ?_
        refine lv_iload hx hb d_Mo_isKept_24 (lv_at hl 4 rfl) ?_
        obtain ⟨v26, hv, h⟩ := bd h
        refine m_laload hx hb hK hw hv d_Mo_isKept_26 ?_
        refine lv_goto (tgt := 35) hx hb d_Mo_isKept_27 (by decide) ?_
        exact w_Mo_isKept_35 C ih x1 x2 x4 x6 v26 μ _ _ _ hw hl h
set_option maxRecDepth 100000 in
set_option maxHeartbeats 4000000 in
theorem c_Mo_isKept (l : Launch) (G : Gw) (N : Nat) (x1 : Int32) (μ : Mem) {r : Int32} {μ' : Mem} (h : M_Mo_isKept N x1 μ = some (r, μ')) : CT l y_Mo_isKept ws_Mo_isKept rm_Mo_isKept [.ref (G.2.1 7), .int x1] G μ (some (.int r)) μ' := by
  refine m_met (cc := prog_9_method_24_code) (maxL := 13) (ret := (some .boolean)) (by decide) rfl (Nat.le_of_ble_eq_true rfl) ?_
  intro p e s m args below meth c ls C hw hl
  obtain ⟨hx, hb, hr, hml, hown, hts, hlk, hK, hSt⟩ := id C
  have hl : lv_has ls 13 [(0, .ref (G.2.1 7)), (1, .int x1)] := hl
  unfold M_Mo_isKept at h
  refine lv_lconst (v := 0) hx hb d_Mo_isKept_0 (by decide) ?_
  refine lv_lstore_n (lv' := [(2, .long (0 : Int64)), (0, .ref (G.2.1 7)), (1, .int x1)]) hx hb d_Mo_isKept_1 rfl hl (by decide) rfl (fun ls hl => ?_)
  refine lv_lconst (v := 0) hx hb d_Mo_isKept_2 (by decide) ?_
  refine lv_lstore (lv' := [(4, .long (0 : Int64)), (2, .long (0 : Int64)), (0, .ref (G.2.1 7)), (1, .int x1)]) hx hb d_Mo_isKept_3 hl (by decide) rfl (fun ls hl => ?_)
  refine lv_iconst (v := 0) hx hb d_Mo_isKept_5 (by decide) ?_
  refine lv_istore (lv' := [(6, .int (0 : Int32)), (4, .long (0 : Int64)), (2, .long (0 : Int64)), (0, .ref (G.2.1 7)), (1, .int x1)]) hx hb d_Mo_isKept_6 hl (by decide) rfl (fun ls hl => ?_)
  exact w_Mo_isKept_8 C N x1 (0 : Int64) (0 : Int64) (0 : Int32) μ _ _ _ hw (lv_sub hl [3, 4, 2, 1, 0] rfl) h
set_option maxRecDepth 100000 in
set_option maxHeartbeats 4000000 in
theorem w_Mo_keptRules_74 {r : Int32} {μ' : Mem} {N : Nat} (C : CxA G p s m args meth c prog_9_method_25_code 3 (some .int) "RecipePlansModel" ws_Mo_keptRules) {K29 : Int32 → Int32 → Mem → Option (Int32 × Mem)} (hK29 : ∀ (x1 : Int32) (x2 : Int32) (μ : Mem) (H : Heap) (locs : List Loc) (ls : Array Slot), Wk G s μ H locs → lv_has ls 3 [(0, .ref (G.2.1 7)), (1, .int x1), (2, .int x2)] → K29 x1 x2 μ = some (r, μ') → WA G rm_Mo_keptRules p l e s m args below meth c (some (.int r)) μ' H locs 29 ls []) : ∀ (x2 : Int32) (y0 : Int32) (y1 : Int32) (μ : Mem) (H : Heap) (locs : List Loc) (ls : Array Slot), Wk G s μ H locs → lv_has ls 3 [(0, .ref (G.2.1 7)), (2, .int x2)] → M_Mo_keptRules_74 N K29 x2 y0 y1 μ = some (r, μ') → WA G rm_Mo_keptRules p l e s m args below meth c (some (.int r)) μ' H locs 74 ls [.int y1, .int y0] := by
  obtain ⟨hx, hb, hr, hml, hown, hts, hlk, hK, hSt⟩ := id C
  intro x2 y0 y1 μ H locs ls hw hl h
  unfold M_Mo_keptRules_74 at h
  refine lv_ior hx hb d_Mo_keptRules_74 ?_
  obtain ⟨x1_75, ex1_75, h⟩ := nmx h
  refine m_eqi ex1_75 ?_
  refine lv_istore_n (lv' := [(1, .int x1_75), (0, .ref (G.2.1 7)), (2, .int x2)]) hx hb d_Mo_keptRules_75 rfl hl (by decide) rfl (fun ls hl => ?_)
  refine lv_iinc (v := x2 + 1) (lv' := [(2, .int (x2 + 1)), (1, .int x1_75), (0, .ref (G.2.1 7))]) hx hb d_Mo_keptRules_76 hl (k := 2) rfl rfl (by decide) rfl (fun ls hl => ?_)
  refine lv_goto (tgt := 29) hx hb d_Mo_keptRules_79 (by decide) ?_
  exact hK29 x1_75 (x2 + 1) μ _ _ _ hw (lv_sub hl [2, 1, 0] rfl) h
set_option maxRecDepth 100000 in
set_option maxHeartbeats 4000000 in
theorem w_Mo_keptRules_73 {r : Int32} {μ' : Mem} {N : Nat} (C : CxA G p s m args meth c prog_9_method_25_code 3 (some .int) "RecipePlansModel" ws_Mo_keptRules) {K29 : Int32 → Int32 → Mem → Option (Int32 × Mem)} (hK29 : ∀ (x1 : Int32) (x2 : Int32) (μ : Mem) (H : Heap) (locs : List Loc) (ls : Array Slot), Wk G s μ H locs → lv_has ls 3 [(0, .ref (G.2.1 7)), (1, .int x1), (2, .int x2)] → K29 x1 x2 μ = some (r, μ') → WA G rm_Mo_keptRules p l e s m args below meth c (some (.int r)) μ' H locs 29 ls []) : ∀ (x2 : Int32) (y0 : Int32) (μ : Mem) (H : Heap) (locs : List Loc) (ls : Array Slot), Wk G s μ H locs → lv_has ls 3 [(0, .ref (G.2.1 7)), (2, .int x2)] → M_Mo_keptRules_73 N K29 x2 y0 μ = some (r, μ') → WA G rm_Mo_keptRules p l e s m args below meth c (some (.int r)) μ' H locs 73 ls [.int y0] := by
  obtain ⟨hx, hb, hr, hml, hown, hts, hlk, hK, hSt⟩ := id C
  intro x2 y0 μ H locs ls hw hl h
  unfold M_Mo_keptRules_73 at h
  refine lv_iconst (v := 0) hx hb d_Mo_keptRules_73 (by decide) ?_
  exact w_Mo_keptRules_74 C hK29 x2 y0 (0 : Int32) μ _ _ _ hw hl h
set_option maxRecDepth 100000 in
set_option maxHeartbeats 4000000 in
theorem w_Mo_keptRules_67 {r : Int32} {μ' : Mem} {N : Nat} (C : CxA G p s m args meth c prog_9_method_25_code 3 (some .int) "RecipePlansModel" ws_Mo_keptRules) {K29 : Int32 → Int32 → Mem → Option (Int32 × Mem)} (hK29 : ∀ (x1 : Int32) (x2 : Int32) (μ : Mem) (H : Heap) (locs : List Loc) (ls : Array Slot), Wk G s μ H locs → lv_has ls 3 [(0, .ref (G.2.1 7)), (1, .int x1), (2, .int x2)] → K29 x1 x2 μ = some (r, μ') → WA G rm_Mo_keptRules p l e s m args below meth c (some (.int r)) μ' H locs 29 ls []) : ∀ (x2 : Int32) (y0 : Int32) (μ : Mem) (H : Heap) (locs : List Loc) (ls : Array Slot), Wk G s μ H locs → lv_has ls 3 [(0, .ref (G.2.1 7)), (2, .int x2)] → M_Mo_keptRules_67 N K29 x2 y0 μ = some (r, μ') → WA G rm_Mo_keptRules p l e s m args below meth c (some (.int r)) μ' H locs 67 ls [.int y0] := by
  obtain ⟨hx, hb, hr, hml, hown, hts, hlk, hK, hSt⟩ := id C
  intro x2 y0 μ H locs ls hw hl h
  unfold M_Mo_keptRules_67 at h
  refine lv_iconst (v := 1) hx hb d_Mo_keptRules_67 (by decide) ?_
  refine lv_iload_n hx hb d_Mo_keptRules_68 rfl (lv_at hl 1 rfl) ?_
  refine lv_ishl hx hb d_Mo_keptRules_69 ?_
  refine lv_goto (tgt := 74) hx hb d_Mo_keptRules_70 (by decide) ?_
  exact w_Mo_keptRules_74 C hK29 x2 y0 ((1 : Int32) <<< (x2 &&& 31)) μ _ _ _ hw hl h
set_option maxRecDepth 100000 in
set_option maxHeartbeats 4000000 in
theorem w_Mo_keptRules_29 {r : Int32} {μ' : Mem} {N : Nat} (C : CxA G p s m args meth c prog_9_method_25_code 3 (some .int) "RecipePlansModel" ws_Mo_keptRules) : ∀ (n : Nat) (x1 : Int32) (x2 : Int32) (μ : Mem) (H : Heap) (locs : List Loc) (ls : Array Slot), Wk G s μ H locs → lv_has ls 3 [(0, .ref (G.2.1 7)), (1, .int x1), (2, .int x2)] → M_Mo_keptRules_29 N n x1 x2 μ = some (r, μ') → WA G rm_Mo_keptRules p l e s m args below meth c (some (.int r)) μ' H locs 29 ls [] := by
  obtain ⟨hx, hb, hr, hml, hown, hts, hlk, hK, hSt⟩ := id C
  intro n
  induction n with
  | zero =>
    intro x1 x2 μ H locs ls hw hl h
    rw [M_Mo_keptRules_29] at h
    cases h
  | succ n ih =>
    intro x1 x2 μ H locs ls hw hl h
    rw [M_Mo_keptRules_29] at h
    refine lv_iload_n hx hb d_Mo_keptRules_29 rfl (lv_at hl 2 rfl) ?_
    refine lv_bipush (v := 8) hx hb d_Mo_keptRules_30 (by decide) ?_
    refine lv_icmp_ge (tgt := 82) hx hb d_Mo_keptRules_32 (by decide) (fun c32 => ?_) (fun c32 => ?_)
    · have h := ifp c32 h
      refine lv_iload_n hx hb d_Mo_keptRules_82 rfl (lv_at hl 1 rfl) ?_
      exact m_iret hx hb hr hlk hw h d_Mo_keptRules_83
    · have h := ifn c32 h
      refine lv_iload_n hx hb d_Mo_keptRules_35 rfl (lv_at hl 1 rfl) ?_
      refine lv_aload_n hx hb d_Mo_keptRules_36 rfl (lv_at hl 0 rfl) ?_
      refine va_get (D := G.1) (ci := 7) (v := .ref (G.2.1 14)) (C := "RecipePlansModel") (T := T_Mo) (N := 24) hx hb hts (fun _ h9 => List.mem_cons_of_mem _ (inT_Mo _ h9)) hown hK hw.1 7 (WL_get (by decide)) rfl 4 (by decide) (hts _ (List.mem_cons_of_mem _ tw_457)) (fun _ h9 => h9) rfl d_Mo_keptRules_37 ?_
      refine lv_iload_n hx hb d_Mo_keptRules_40 rfl (lv_at hl 2 rfl) ?_
      obtain ⟨v41, hv, h⟩ := bd h
      refine m_baload hx hb hK hw hv d_Mo_keptRules_41 ?_
      refine lv_if_eq (tgt := 67) hx hb d_Mo_keptRules_42 (by decide) (fun c42 => ?_) (fun c42 => ?_)
      · have h := ifp c42 h
        exact w_Mo_keptRules_67 C ih x2 x1 μ _ _ _ hw (lv_sub hl [0, 2] rfl) h
      · have h := ifn c42 h
        refine lv_aload_n hx hb d_Mo_keptRules_45 rfl (lv_at hl 0 rfl) ?_
        refine lv_iconst (v := 2) hx hb d_Mo_keptRules_46 (by decide) ?_
        refine lv_iload_n hx hb d_Mo_keptRules_47 rfl (lv_at hl 2 rfl) ?_
        refine lv_imul hx hb d_Mo_keptRules_48 ?_
        obtain ⟨r49, μ49, hq, h⟩ := bd2 h
        refine m_call (r := some (.int r49)) (μ1 := μ49) (va_runV (C := "RecipePlansModel") (As := [.int ((2 : Int32) * x2)]) (rest := [.int x1]) ⟨hx, hb, hml, hown, hts⟩ (c_Mo_isKept l G N ((2 : Int32) * x2) μ hq _) (cwV 1 hts (gdV tw_592 tw_593 tw_30 tw_41 tw_594) rfl rfl rfl (by decide +kernel) ⟨Nat.le_of_ble_eq_true rfl, Nat.le_of_ble_eq_true rfl⟩) (m_preV (k := 7) (by decide) rfl hK hSt hw) rfl rfl hl.1 rfl (lv_room (Nat.le_of_ble_eq_true rfl)) d_Mo_keptRules_49 ⟨Nat.zero_le _, Nat.zero_le _⟩) hw (fun H locs hw => ?_)
        refine lv_if_eq (tgt := 73) hx hb d_Mo_keptRules_52 (by decide) (fun c52 => ?_) (fun c52 => ?_)
        · have h := ifp c52 h
          exact w_Mo_keptRules_73 C ih x2 x1 μ49 _ _ _ hw (lv_sub hl [0, 2] rfl) h
        · have h := ifn c52 h
          refine lv_aload_n hx hb d_Mo_keptRules_55 rfl (lv_at hl 0 rfl) ?_
          refine lv_iconst (v := 2) hx hb d_Mo_keptRules_56 (by decide) ?_
          refine lv_iload_n hx hb d_Mo_keptRules_57 rfl (lv_at hl 2 rfl) ?_
          refine lv_imul hx hb d_Mo_keptRules_58 ?_
          refine lv_iconst (v := 1) hx hb d_Mo_keptRules_59 (by decide) ?_
          refine lv_iadd hx hb d_Mo_keptRules_60 ?_
          obtain ⟨r61, μ61, hq, h⟩ := bd2 h
          refine m_call (r := some (.int r61)) (μ1 := μ61) (va_runV (C := "RecipePlansModel") (As := [.int (((2 : Int32) * x2) + (1 : Int32))]) (rest := [.int x1]) ⟨hx, hb, hml, hown, hts⟩ (c_Mo_isKept l G N (((2 : Int32) * x2) + (1 : Int32)) μ49 hq _) (cwV 1 hts (gdV tw_592 tw_593 tw_30 tw_41 tw_594) rfl rfl rfl (by decide +kernel) ⟨Nat.le_of_ble_eq_true rfl, Nat.le_of_ble_eq_true rfl⟩) (m_preV (k := 7) (by decide) rfl hK hSt hw) rfl rfl hl.1 rfl (lv_room (Nat.le_of_ble_eq_true rfl)) d_Mo_keptRules_61 ⟨Nat.zero_le _, Nat.zero_le _⟩) hw (fun H locs hw => ?_)
          refine lv_if_eq (tgt := 73) hx hb d_Mo_keptRules_64 (by decide) (fun c64 => ?_) (fun c64 => ?_)
          · have h := ifp c64 h
            exact w_Mo_keptRules_73 C ih x2 x1 μ61 _ _ _ hw (lv_sub hl [0, 2] rfl) h
          · have h := ifn c64 h
            exact w_Mo_keptRules_67 C ih x2 x1 μ61 _ _ _ hw (lv_sub hl [0, 2] rfl) h
set_option maxRecDepth 100000 in
set_option maxHeartbeats 4000000 in
theorem w_Mo_keptRules_3 {r : Int32} {μ' : Mem} {N : Nat} (C : CxA G p s m args meth c prog_9_method_25_code 3 (some .int) "RecipePlansModel" ws_Mo_keptRules) : ∀ (n : Nat) (x1 : Int32) (μ : Mem) (H : Heap) (locs : List Loc) (ls : Array Slot), Wk G s μ H locs → lv_has ls 3 [(0, .ref (G.2.1 7)), (1, .int x1)] → M_Mo_keptRules_3 N n x1 μ = some (r, μ') → WA G rm_Mo_keptRules p l e s m args below meth c (some (.int r)) μ' H locs 3 ls [] := by
  obtain ⟨hx, hb, hr, hml, hown, hts, hlk, hK, hSt⟩ := id C
  intro n
  induction n with
  | zero =>
    intro x1 μ H locs ls hw hl h
    rw [M_Mo_keptRules_3] at h
    cases h
  | succ n ih =>
    intro x1 μ H locs ls hw hl h
    rw [M_Mo_keptRules_3] at h
    refine lv_iload_n hx hb d_Mo_keptRules_3 rfl (lv_at hl 1 rfl) ?_
    refine lv_bipush (v := 24) hx hb d_Mo_keptRules_4 (by decide) ?_
    refine lv_icmp_ge (tgt := 25) hx hb d_Mo_keptRules_6 (by decide) (fun c6 => ?_) (fun c6 => ?_)
    · have h := ifp c6 h
      refine lv_iconst (v := 0) hx hb d_Mo_keptRules_25 (by decide) ?_
      refine lv_istore_n (lv' := [(1, .int (0 : Int32)), (0, .ref (G.2.1 7))]) hx hb d_Mo_keptRules_26 rfl hl (by decide) rfl (fun ls hl => ?_)
      refine lv_iconst (v := 0) hx hb d_Mo_keptRules_27 (by decide) ?_
      refine lv_istore_n (lv' := [(2, .int (0 : Int32)), (1, .int (0 : Int32)), (0, .ref (G.2.1 7))]) hx hb d_Mo_keptRules_28 rfl hl (by decide) rfl (fun ls hl => ?_)
      exact w_Mo_keptRules_29 C N (0 : Int32) (0 : Int32) μ _ _ _ hw (lv_sub hl [2, 1, 0] rfl) h
    · have h := ifn c6 h
      refine lv_aload_n hx hb d_Mo_keptRules_9 rfl (lv_at hl 0 rfl) ?_
      refine lv_iload_n hx hb d_Mo_keptRules_10 rfl (lv_at hl 1 rfl) ?_
      obtain ⟨r11, μ11, hq, h⟩ := bd2 h
      refine m_call (r := some (.int r11)) (μ1 := μ11) (va_runV (C := "RecipePlansModel") (As := [.int x1]) (rest := []) ⟨hx, hb, hml, hown, hts⟩ (c_Mo_isKept l G N x1 μ hq _) (cwV 1 hts (gdV tw_592 tw_593 tw_30 tw_41 tw_594) rfl rfl rfl (by decide +kernel) ⟨Nat.le_of_ble_eq_true rfl, Nat.le_of_ble_eq_true rfl⟩) (m_preV (k := 7) (by decide) rfl hK hSt hw) rfl rfl hl.1 rfl (lv_room (Nat.le_of_ble_eq_true rfl)) d_Mo_keptRules_11 ⟨Nat.zero_le _, Nat.zero_le _⟩) hw (fun H locs hw => ?_)
      refine lv_if_ne (tgt := 19) hx hb d_Mo_keptRules_14 (by decide) (fun c14 => ?_) (fun c14 => ?_)
      · have h := ifn c14 h
        refine lv_iinc (v := x1 + 1) (lv' := [(1, .int (x1 + 1)), (0, .ref (G.2.1 7))]) hx hb d_Mo_keptRules_19 hl (k := 1) rfl rfl (by decide) rfl (fun ls hl => ?_)
        refine lv_goto (tgt := 3) hx hb d_Mo_keptRules_22 (by decide) ?_
        exact ih (x1 + 1) μ11 _ _ _ hw (lv_sub hl [1, 0] rfl) h
      · have h := ifp c14 h
        refine lv_iconst (v := -1) hx hb d_Mo_keptRules_17 (by decide) ?_
        exact m_iret hx hb hr hlk hw h d_Mo_keptRules_18
set_option maxRecDepth 100000 in
set_option maxHeartbeats 4000000 in
theorem c_Mo_keptRules (l : Launch) (G : Gw) (N : Nat) (μ : Mem) {r : Int32} {μ' : Mem} (h : M_Mo_keptRules N μ = some (r, μ')) : CT l y_Mo_keptRules ws_Mo_keptRules rm_Mo_keptRules [.ref (G.2.1 7)] G μ (some (.int r)) μ' := by
  refine m_met (cc := prog_9_method_25_code) (maxL := 3) (ret := (some .int)) (by decide) rfl (Nat.le_of_ble_eq_true rfl) ?_
  intro p e s m args below meth c ls C hw hl
  obtain ⟨hx, hb, hr, hml, hown, hts, hlk, hK, hSt⟩ := id C
  have hl : lv_has ls 3 [(0, .ref (G.2.1 7))] := hl
  unfold M_Mo_keptRules at h
  refine lv_bipush (v := 16) hx hb d_Mo_keptRules_0 (by decide) ?_
  refine lv_istore_n (lv' := [(1, .int (16 : Int32)), (0, .ref (G.2.1 7))]) hx hb d_Mo_keptRules_2 rfl hl (by decide) rfl (fun ls hl => ?_)
  exact w_Mo_keptRules_3 C N (16 : Int32) μ _ _ _ hw (lv_sub hl [1, 0] rfl) h
set_option maxRecDepth 100000 in
set_option maxHeartbeats 4000000 in
theorem w_Mo_isLess_155 {r : Int32} {N : Nat} (C : CxP p s m args meth c prog_9_method_26_code 25 (some .boolean) "RecipePlansModel" ws_Mo_isLess) : ∀ (x16 : Int32) (y0 : Int32) (ls : Array Slot), lv_has ls 25 [(16, .int x16)] → M_Mo_isLess_155 N x16 y0 = some r → WP rm_Mo_isLess p l e s m args below meth c (.int r) 155 ls [.int y0] := by
  obtain ⟨hx, hb, hr, hml, hown, hts, hlk⟩ := id C
  intro x16 y0 ls hl h
  unfold M_Mo_isLess_155 at h
  refine lv_iload hx hb d_Mo_isLess_155 (lv_at hl 0 rfl) ?_
  refine lv_icmp_eq (tgt := 164) hx hb d_Mo_isLess_157 (by decide) (fun c157 => ?_) (fun c157 => ?_)
  · have h := ifp c157 h
    refine lv_iconst (v := 0) hx hb d_Mo_isLess_164 (by decide) ?_
    exact m_pzret hx hb hr hlk h d_Mo_isLess_165
  · have h := ifn c157 h
    refine lv_iconst (v := 1) hx hb d_Mo_isLess_160 (by decide) ?_
    refine lv_goto (tgt := 165) hx hb d_Mo_isLess_161 (by decide) ?_
    exact m_pzret hx hb hr hlk h d_Mo_isLess_165
set_option maxRecDepth 100000 in
set_option maxHeartbeats 4000000 in
theorem w_Mo_isLess_135 {r : Int32} {N : Nat} (C : CxP p s m args meth c prog_9_method_26_code 25 (some .boolean) "RecipePlansModel" ws_Mo_isLess) : ∀ (x16 : Int32) (x17 : Int64) (x19 : Int64) (ls : Array Slot), lv_has ls 25 [(16, .int x16), (17, .long x17), (19, .long x19)] → M_Mo_isLess_135 N x16 x17 x19 = some r → WP rm_Mo_isLess p l e s m args below meth c (.int r) 135 ls [] := by
  obtain ⟨hx, hb, hr, hml, hown, hts, hlk⟩ := id C
  intro x16 x17 x19 ls hl h
  unfold M_Mo_isLess_135 at h
  refine lv_lload hx hb d_Mo_isLess_135 (lv_at hl 1 rfl) ?_
  refine lv_lload hx hb d_Mo_isLess_137 (lv_at hl 2 rfl) ?_
  refine W.lcmp hx hb d_Mo_isLess_139 ?_
  refine lv_if_eq (tgt := 164) hx hb d_Mo_isLess_140 (by decide) (fun c140 => ?_) (fun c140 => ?_)
  · have h := ifp c140 h
    refine lv_iconst (v := 0) hx hb d_Mo_isLess_164 (by decide) ?_
    exact m_pzret hx hb hr hlk h d_Mo_isLess_165
  · have h := ifn c140 h
    refine lv_lload hx hb d_Mo_isLess_143 (lv_at hl 1 rfl) ?_
    refine lv_lconst (v := 0) hx hb d_Mo_isLess_145 (by decide) ?_
    refine W.lcmp hx hb d_Mo_isLess_146 ?_
    refine lv_if_ne (tgt := 154) hx hb d_Mo_isLess_147 (by decide) (fun c147 => ?_) (fun c147 => ?_)
    · have h := ifn c147 h
      refine lv_iconst (v := 0) hx hb d_Mo_isLess_154 (by decide) ?_
      exact w_Mo_isLess_155 C x16 (0 : Int32) _ (lv_sub hl [0] rfl) h
    · have h := ifp c147 h
      refine lv_iconst (v := 1) hx hb d_Mo_isLess_150 (by decide) ?_
      refine lv_goto (tgt := 155) hx hb d_Mo_isLess_151 (by decide) ?_
      exact w_Mo_isLess_155 C x16 (1 : Int32) _ (lv_sub hl [0] rfl) h
set_option maxRecDepth 100000 in
set_option maxHeartbeats 4000000 in
theorem w_Mo_isLess_110 {r : Int32} {N : Nat} (C : CxP p s m args meth c prog_9_method_26_code 25 (some .boolean) "RecipePlansModel" ws_Mo_isLess) : ∀ (x16 : Int32) (y0 : Int32) (ls : Array Slot), lv_has ls 25 [(16, .int x16)] → M_Mo_isLess_110 N x16 y0 = some r → WP rm_Mo_isLess p l e s m args below meth c (.int r) 110 ls [.int y0] := by
  obtain ⟨hx, hb, hr, hml, hown, hts, hlk⟩ := id C
  intro x16 y0 ls hl h
  unfold M_Mo_isLess_110 at h
  refine lv_iload hx hb d_Mo_isLess_110 (lv_at hl 0 rfl) ?_
  refine lv_icmp_eq (tgt := 119) hx hb d_Mo_isLess_112 (by decide) (fun c112 => ?_) (fun c112 => ?_)
  · have h := ifp c112 h
    refine lv_iconst (v := 0) hx hb d_Mo_isLess_119 (by decide) ?_
    exact m_pzret hx hb hr hlk h d_Mo_isLess_120
  · have h := ifn c112 h
    refine lv_iconst (v := 1) hx hb d_Mo_isLess_115 (by decide) ?_
    refine lv_goto (tgt := 120) hx hb d_Mo_isLess_116 (by decide) ?_
    exact m_pzret hx hb hr hlk h d_Mo_isLess_120
set_option maxRecDepth 100000 in
set_option maxHeartbeats 4000000 in
theorem w_Mo_isLess_67 {r : Int32} {N : Nat} (C : CxP p s m args meth c prog_9_method_26_code 25 (some .boolean) "RecipePlansModel" ws_Mo_isLess) {K17 : Int64 → Int64 → Int64 → Int64 → Int32 → Option Int32} (hK17 : ∀ (x8 : Int64) (x10 : Int64) (x12 : Int64) (x14 : Int64) (x16 : Int32) (ls : Array Slot), lv_has ls 25 [(8, .long x8), (10, .long x10), (12, .long x12), (14, .long x14), (16, .int x16)] → K17 x8 x10 x12 x14 x16 = some r → WP rm_Mo_isLess p l e s m args below meth c (.int r) 17 ls []) : ∀ (x8 : Int64) (x10 : Int64) (x12 : Int64) (x14 : Int64) (x16 : Int32) (x17 : Int64) (y0 : Int64) (ls : Array Slot), lv_has ls 25 [(8, .long x8), (10, .long x10), (12, .long x12), (14, .long x14), (16, .int x16), (17, .long x17)] → M_Mo_isLess_67 N K17 x8 x10 x12 x14 x16 x17 y0 = some r → WP rm_Mo_isLess p l e s m args below meth c (.int r) 67 ls [.long y0] := by
  obtain ⟨hx, hb, hr, hml, hown, hts, hlk⟩ := id C
  intro x8 x10 x12 x14 x16 x17 y0 ls hl h
  unfold M_Mo_isLess_67 at h
  refine lv_lstore (lv' := [(19, .long y0), (8, .long x8), (10, .long x10), (12, .long x12), (14, .long x14), (16, .int x16), (17, .long x17)]) hx hb d_Mo_isLess_67 hl (by decide) rfl (fun ls hl => ?_)
  refine lv_lload hx hb d_Mo_isLess_69 (lv_at hl 1 rfl) ?_
  refine lv_lload hx hb d_Mo_isLess_71 (lv_at hl 6 rfl) ?_
  refine lv_lsub hx hb d_Mo_isLess_73 ?_
  refine lv_lload hx hb d_Mo_isLess_74 (lv_at hl 2 rfl) ?_
  obtain ⟨v76, hv, h⟩ := bd h
  refine m_ldiv hx hb hv d_Mo_isLess_76 ?_
  refine lv_lstore (lv' := [(21, .long v76), (19, .long y0), (8, .long x8), (10, .long x10), (12, .long x12), (14, .long x14), (16, .int x16), (17, .long x17)]) hx hb d_Mo_isLess_77 hl (by decide) rfl (fun ls hl => ?_)
  refine lv_lload hx hb d_Mo_isLess_79 (lv_at hl 4 rfl) ?_
  refine lv_lload hx hb d_Mo_isLess_81 (lv_at hl 1 rfl) ?_
  refine lv_lsub hx hb d_Mo_isLess_83 ?_
  refine lv_lload hx hb d_Mo_isLess_84 (lv_at hl 5 rfl) ?_
  obtain ⟨v86, hv, h⟩ := bd h
  refine m_ldiv hx hb hv d_Mo_isLess_86 ?_
  refine lv_lstore (lv' := [(23, .long v86), (21, .long v76), (19, .long y0), (8, .long x8), (10, .long x10), (12, .long x12), (14, .long x14), (16, .int x16), (17, .long x17)]) hx hb d_Mo_isLess_87 hl (by decide) rfl (fun ls hl => ?_)
  refine lv_lload hx hb d_Mo_isLess_89 (lv_at hl 1 rfl) ?_
  refine lv_lload hx hb d_Mo_isLess_91 (lv_at hl 0 rfl) ?_
  refine W.lcmp hx hb d_Mo_isLess_93 ?_
  refine lv_if_eq (tgt := 121) hx hb d_Mo_isLess_94 (by decide) (fun c94 => ?_) (fun c94 => ?_)
  · have h := ifp c94 h
    refine lv_lload hx hb d_Mo_isLess_121 (lv_at hl 8 rfl) ?_
    refine lv_lconst (v := 0) hx hb d_Mo_isLess_123 (by decide) ?_
    refine W.lcmp hx hb d_Mo_isLess_124 ?_
    refine lv_if_eq (tgt := 135) hx hb d_Mo_isLess_125 (by decide) (fun c125 => ?_) (fun c125 => ?_)
    · have h := ifp c125 h
      exact w_Mo_isLess_135 C x16 x17 y0 _ (lv_sub hl [7, 8, 2] rfl) h
    · have h := ifn c125 h
      refine lv_lload hx hb d_Mo_isLess_128 (lv_at hl 2 rfl) ?_
      refine lv_lconst (v := 0) hx hb d_Mo_isLess_130 (by decide) ?_
      refine W.lcmp hx hb d_Mo_isLess_131 ?_
      refine lv_if_ne (tgt := 166) hx hb d_Mo_isLess_132 (by decide) (fun c132 => ?_) (fun c132 => ?_)
      · have h := ifn c132 h
        refine lv_lload hx hb d_Mo_isLess_166 (lv_at hl 4 rfl) ?_
        refine lv_lstore (lv' := [(8, .long x10), (23, .long v86), (21, .long v76), (19, .long y0), (10, .long x10), (12, .long x12), (14, .long x14), (16, .int x16), (17, .long x17)]) hx hb d_Mo_isLess_168 hl (by decide) rfl (fun ls hl => ?_)
        refine lv_lload hx hb d_Mo_isLess_170 (lv_at hl 8 rfl) ?_
        refine lv_lstore (lv' := [(10, .long x17), (8, .long x10), (23, .long v86), (21, .long v76), (19, .long y0), (12, .long x12), (14, .long x14), (16, .int x16), (17, .long x17)]) hx hb d_Mo_isLess_172 hl (by decide) rfl (fun ls hl => ?_)
        refine lv_lload hx hb d_Mo_isLess_174 (lv_at hl 6 rfl) ?_
        refine lv_lstore (lv' := [(12, .long x14), (10, .long x17), (8, .long x10), (23, .long v86), (21, .long v76), (19, .long y0), (14, .long x14), (16, .int x16), (17, .long x17)]) hx hb d_Mo_isLess_176 hl (by decide) rfl (fun ls hl => ?_)
        refine lv_lload hx hb d_Mo_isLess_178 (lv_at hl 5 rfl) ?_
        refine lv_lstore (lv' := [(14, .long y0), (12, .long x14), (10, .long x17), (8, .long x10), (23, .long v86), (21, .long v76), (19, .long y0), (16, .int x16), (17, .long x17)]) hx hb d_Mo_isLess_180 hl (by decide) rfl (fun ls hl => ?_)
        refine lv_iload hx hb d_Mo_isLess_182 (lv_at hl 7 rfl) ?_
        refine lv_if_ne (tgt := 191) hx hb d_Mo_isLess_184 (by decide) (fun c184 => ?_) (fun c184 => ?_)
        · have h := ifn c184 h
          refine lv_iconst (v := 0) hx hb d_Mo_isLess_191 (by decide) ?_
          refine lv_istore (lv' := [(16, .int (0 : Int32)), (14, .long y0), (12, .long x14), (10, .long x17), (8, .long x10), (23, .long v86), (21, .long v76), (19, .long y0), (17, .long x17)]) hx hb d_Mo_isLess_192 hl (by decide) rfl (fun ls hl => ?_)
          refine lv_goto (tgt := 17) hx hb d_Mo_isLess_194 (by decide) ?_
          exact hK17 x10 x17 x14 y0 (0 : Int32) _ (lv_sub hl [4, 3, 2, 1, 0] rfl) h
        · have h := ifp c184 h
          refine lv_iconst (v := 1) hx hb d_Mo_isLess_187 (by decide) ?_
          refine lv_goto (tgt := 192) hx hb d_Mo_isLess_188 (by decide) ?_
          refine lv_istore (lv' := [(16, .int (1 : Int32)), (14, .long y0), (12, .long x14), (10, .long x17), (8, .long x10), (23, .long v86), (21, .long v76), (19, .long y0), (17, .long x17)]) hx hb d_Mo_isLess_192 hl (by decide) rfl (fun ls hl => ?_)
          refine lv_goto (tgt := 17) hx hb d_Mo_isLess_194 (by decide) ?_
          exact hK17 x10 x17 x14 y0 (1 : Int32) _ (lv_sub hl [4, 3, 2, 1, 0] rfl) h
      · have h := ifp c132 h
        exact w_Mo_isLess_135 C x16 x17 y0 _ (lv_sub hl [7, 8, 2] rfl) h
  · have h := ifn c94 h
    refine lv_lload hx hb d_Mo_isLess_97 (lv_at hl 1 rfl) ?_
    refine lv_lload hx hb d_Mo_isLess_99 (lv_at hl 0 rfl) ?_
    refine W.lcmp hx hb d_Mo_isLess_101 ?_
    refine lv_if_ge (tgt := 109) hx hb d_Mo_isLess_102 (by decide) (fun c102 => ?_) (fun c102 => ?_)
    · have h := ifp c102 h
      refine lv_iconst (v := 0) hx hb d_Mo_isLess_109 (by decide) ?_
      exact w_Mo_isLess_110 C x16 (0 : Int32) _ (lv_sub hl [7] rfl) h
    · have h := ifn c102 h
      refine lv_iconst (v := 1) hx hb d_Mo_isLess_105 (by decide) ?_
      refine lv_goto (tgt := 110) hx hb d_Mo_isLess_106 (by decide) ?_
      exact w_Mo_isLess_110 C x16 (1 : Int32) _ (lv_sub hl [7] rfl) h
set_option maxRecDepth 100000 in
set_option maxHeartbeats 4000000 in
theorem w_Mo_isLess_41 {r : Int32} {N : Nat} (C : CxP p s m args meth c prog_9_method_26_code 25 (some .boolean) "RecipePlansModel" ws_Mo_isLess) {K17 : Int64 → Int64 → Int64 → Int64 → Int32 → Option Int32} (hK17 : ∀ (x8 : Int64) (x10 : Int64) (x12 : Int64) (x14 : Int64) (x16 : Int32) (ls : Array Slot), lv_has ls 25 [(8, .long x8), (10, .long x10), (12, .long x12), (14, .long x14), (16, .int x16)] → K17 x8 x10 x12 x14 x16 = some r → WP rm_Mo_isLess p l e s m args below meth c (.int r) 17 ls []) : ∀ (x8 : Int64) (x10 : Int64) (x12 : Int64) (x14 : Int64) (x16 : Int32) (y0 : Int64) (ls : Array Slot), lv_has ls 25 [(8, .long x8), (10, .long x10), (12, .long x12), (14, .long x14), (16, .int x16)] → M_Mo_isLess_41 N K17 x8 x10 x12 x14 x16 y0 = some r → WP rm_Mo_isLess p l e s m args below meth c (.int r) 41 ls [.long y0] := by
  obtain ⟨hx, hb, hr, hml, hown, hts, hlk⟩ := id C
  intro x8 x10 x12 x14 x16 y0 ls hl h
  unfold M_Mo_isLess_41 at h
  refine lv_lstore (lv' := [(17, .long y0), (8, .long x8), (10, .long x10), (12, .long x12), (14, .long x14), (16, .int x16)]) hx hb d_Mo_isLess_41 hl (by decide) rfl (fun ls hl => ?_)
  refine lv_lload hx hb d_Mo_isLess_43 (lv_at hl 3 rfl) ?_
  refine lv_lload hx hb d_Mo_isLess_45 (lv_at hl 4 rfl) ?_
  obtain ⟨v47, hv, h⟩ := bd h
  refine m_lrem hx hb hv d_Mo_isLess_47 ?_
  refine lv_lstore (lv' := [(19, .long v47), (17, .long y0), (8, .long x8), (10, .long x10), (12, .long x12), (14, .long x14), (16, .int x16)]) hx hb d_Mo_isLess_48 hl (by decide) rfl (fun ls hl => ?_)
  refine lv_lload hx hb d_Mo_isLess_50 (lv_at hl 0 rfl) ?_
  refine lv_lconst (v := 0) hx hb d_Mo_isLess_52 (by decide) ?_
  refine W.lcmp hx hb d_Mo_isLess_53 ?_
  refine lv_if_ge (tgt := 65) hx hb d_Mo_isLess_54 (by decide) (fun c54 => ?_) (fun c54 => ?_)
  · have h := ifp c54 h
    refine lv_lload hx hb d_Mo_isLess_65 (lv_at hl 0 rfl) ?_
    exact w_Mo_isLess_67 C hK17 x8 x10 x12 x14 x16 y0 v47 _ (lv_sub hl [2, 3, 4, 5, 6, 1] rfl) h
  · have h := ifn c54 h
    refine lv_lload hx hb d_Mo_isLess_57 (lv_at hl 0 rfl) ?_
    refine lv_lload hx hb d_Mo_isLess_59 (lv_at hl 5 rfl) ?_
    refine lv_ladd hx hb d_Mo_isLess_61 ?_
    refine lv_goto (tgt := 67) hx hb d_Mo_isLess_62 (by decide) ?_
    exact w_Mo_isLess_67 C hK17 x8 x10 x12 x14 x16 y0 (v47 + x14) _ (lv_sub hl [2, 3, 4, 5, 6, 1] rfl) h
set_option maxRecDepth 100000 in
set_option maxHeartbeats 4000000 in
theorem w_Mo_isLess_17 {r : Int32} {N : Nat} (C : CxP p s m args meth c prog_9_method_26_code 25 (some .boolean) "RecipePlansModel" ws_Mo_isLess) : ∀ (n : Nat) (x8 : Int64) (x10 : Int64) (x12 : Int64) (x14 : Int64) (x16 : Int32) (ls : Array Slot), lv_has ls 25 [(8, .long x8), (10, .long x10), (12, .long x12), (14, .long x14), (16, .int x16)] → M_Mo_isLess_17 N n x8 x10 x12 x14 x16 = some r → WP rm_Mo_isLess p l e s m args below meth c (.int r) 17 ls [] := by
  obtain ⟨hx, hb, hr, hml, hown, hts, hlk⟩ := id C
  intro n
  induction n with
  | zero =>
    intro x8 x10 x12 x14 x16 ls hl h
    rw [M_Mo_isLess_17] at h
    cases h
  | succ n ih =>
    intro x8 x10 x12 x14 x16 ls hl h
    rw [M_Mo_isLess_17] at h
    refine lv_lload hx hb d_Mo_isLess_17 (lv_at hl 0 rfl) ?_
    refine lv_lload hx hb d_Mo_isLess_19 (lv_at hl 1 rfl) ?_
    obtain ⟨v21, hv, h⟩ := bd h
    refine m_lrem hx hb hv d_Mo_isLess_21 ?_
    refine lv_lstore (lv' := [(17, .long v21), (8, .long x8), (10, .long x10), (12, .long x12), (14, .long x14), (16, .int x16)]) hx hb d_Mo_isLess_22 hl (by decide) rfl (fun ls hl => ?_)
    refine lv_lload hx hb d_Mo_isLess_24 (lv_at hl 0 rfl) ?_
    refine lv_lconst (v := 0) hx hb d_Mo_isLess_26 (by decide) ?_
    refine W.lcmp hx hb d_Mo_isLess_27 ?_
    refine lv_if_ge (tgt := 39) hx hb d_Mo_isLess_28 (by decide) (fun c28 => ?_) (fun c28 => ?_)
    · have h := ifp c28 h
      refine lv_lload hx hb d_Mo_isLess_39 (lv_at hl 0 rfl) ?_
      exact w_Mo_isLess_41 C ih x8 x10 x12 x14 x16 v21 _ (lv_sub hl [1, 2, 3, 4, 5] rfl) h
    · have h := ifn c28 h
      refine lv_lload hx hb d_Mo_isLess_31 (lv_at hl 0 rfl) ?_
      refine lv_lload hx hb d_Mo_isLess_33 (lv_at hl 2 rfl) ?_
      refine lv_ladd hx hb d_Mo_isLess_35 ?_
      refine lv_goto (tgt := 41) hx hb d_Mo_isLess_36 (by decide) ?_
      exact w_Mo_isLess_41 C ih x8 x10 x12 x14 x16 (v21 + x10) _ (lv_sub hl [1, 2, 3, 4, 5] rfl) h
set_option maxRecDepth 100000 in
set_option maxHeartbeats 4000000 in
theorem c_Mo_isLess (l : Launch) (N : Nat) (x0 : Int64) (x2 : Int64) (x4 : Int64) (x6 : Int64) {r : Int32} (h : M_Mo_isLess N x0 x2 x4 x6 = some r) : CTp l y_Mo_isLess ws_Mo_isLess rm_Mo_isLess [.long x0, .long x2, .long x4, .long x6] (.int r) := by
  refine m_metP (cc := prog_9_method_26_code) (maxL := 25) (ret := (some .boolean)) (by decide +kernel) rfl (Nat.le_of_ble_eq_true rfl) ?_
  intro p e s m args below meth c ls C hl
  obtain ⟨hx, hb, hr, hml, hown, hts, hlk⟩ := id C
  have hl : lv_has ls 25 [(0, .long x0), (2, .long x2), (4, .long x4), (6, .long x6)] := hl
  unfold M_Mo_isLess at h
  refine lv_lload_n hx hb d_Mo_isLess_0 rfl (lv_at hl 0 rfl) ?_
  refine lv_lstore (lv' := [(8, .long x0), (0, .long x0), (2, .long x2), (4, .long x4), (6, .long x6)]) hx hb d_Mo_isLess_1 hl (by decide) rfl (fun ls hl => ?_)
  refine lv_lload_n hx hb d_Mo_isLess_3 rfl (lv_at hl 2 rfl) ?_
  refine lv_lstore (lv' := [(10, .long x2), (8, .long x0), (0, .long x0), (2, .long x2), (4, .long x4), (6, .long x6)]) hx hb d_Mo_isLess_4 hl (by decide) rfl (fun ls hl => ?_)
  refine lv_lload hx hb d_Mo_isLess_6 (lv_at hl 4 rfl) ?_
  refine lv_lstore (lv' := [(12, .long x4), (10, .long x2), (8, .long x0), (0, .long x0), (2, .long x2), (4, .long x4), (6, .long x6)]) hx hb d_Mo_isLess_8 hl (by decide) rfl (fun ls hl => ?_)
  refine lv_lload hx hb d_Mo_isLess_10 (lv_at hl 6 rfl) ?_
  refine lv_lstore (lv' := [(14, .long x6), (12, .long x4), (10, .long x2), (8, .long x0), (0, .long x0), (2, .long x2), (4, .long x4), (6, .long x6)]) hx hb d_Mo_isLess_12 hl (by decide) rfl (fun ls hl => ?_)
  refine lv_iconst (v := 0) hx hb d_Mo_isLess_14 (by decide) ?_
  refine lv_istore (lv' := [(16, .int (0 : Int32)), (14, .long x6), (12, .long x4), (10, .long x2), (8, .long x0), (0, .long x0), (2, .long x2), (4, .long x4), (6, .long x6)]) hx hb d_Mo_isLess_15 hl (by decide) rfl (fun ls hl => ?_)
  exact w_Mo_isLess_17 C N x0 x2 x4 x6 (0 : Int32) _ (lv_sub hl [4, 3, 2, 1, 0] rfl) h
set_option maxRecDepth 100000 in
set_option maxHeartbeats 4000000 in
theorem w_Mo_lookAtCorner_102 {μ' : Mem} {N : Nat} (C : CxA G p s m args meth c prog_9_method_27_code 6 none "RecipePlansModel" ws_Mo_lookAtCorner) : ∀ (x2 : Int64) (μ : Mem) (H : Heap) (locs : List Loc) (ls : Array Slot), Wk G s μ H locs → lv_has ls 6 [(0, .ref (G.2.1 7)), (2, .long x2)] → M_Mo_lookAtCorner_102 N x2 μ = some μ' → WA G rm_Mo_lookAtCorner p l e s m args below meth c none μ' H locs 102 ls [] := by
  obtain ⟨hx, hb, hr, hml, hown, hts, hlk, hK, hSt⟩ := id C
  intro x2 μ H locs ls hw hl h
  unfold M_Mo_lookAtCorner_102 at h
  refine lv_lload_n hx hb d_Mo_lookAtCorner_102 rfl (lv_at hl 1 rfl) ?_
  refine lv_aload_n hx hb d_Mo_lookAtCorner_103 rfl (lv_at hl 0 rfl) ?_
  refine va_get (D := G.1) (ci := 7) (v := .long (μ.2 7 22)) (C := "RecipePlansModel") (T := T_Mo) (N := 24) hx hb hts (fun _ h9 => List.mem_cons_of_mem _ (inT_Mo _ h9)) hown hK hw.1 7 (WL_get (by decide)) rfl 22 (by decide) (hts _ (List.mem_cons_of_mem _ tw_475)) (fun _ h9 => h9) rfl d_Mo_lookAtCorner_104 ?_
  obtain ⟨r107, hq, h⟩ := bd h
  refine m_pcall (r := .long r107) (W.runS (As := [.long x2, .long (μ.2 7 22)]) (rest := []) ⟨hx, hb, hml, hown, hts⟩ (c_Mo_common l N x2 (μ.2 7 22) hq) (va_cwS 2 hts (gdS tw_586 tw_587 tw_41 tw_588) rfl rfl rfl (by decide +kernel) ⟨Nat.le_of_ble_eq_true rfl, Nat.le_of_ble_eq_true rfl⟩) preEq rfl rfl hl.1 rfl (lv_room (Nat.le_of_ble_eq_true rfl)) d_Mo_lookAtCorner_107 ⟨Nat.zero_le _, Nat.zero_le _⟩) ?_
  refine lv_lstore (lv' := [(4, .long r107), (0, .ref (G.2.1 7)), (2, .long x2)]) hx hb d_Mo_lookAtCorner_110 hl (by decide) rfl (fun ls hl => ?_)
  refine lv_aload_n hx hb d_Mo_lookAtCorner_112 rfl (lv_at hl 1 rfl) ?_
  refine lv_lload_n hx hb d_Mo_lookAtCorner_113 rfl (lv_at hl 2 rfl) ?_
  refine lv_lload hx hb d_Mo_lookAtCorner_114 (lv_at hl 0 rfl) ?_
  obtain ⟨v116, hv, h⟩ := bd h
  refine m_ldiv hx hb hv d_Mo_lookAtCorner_116 ?_
  obtain ⟨μ117, hm, h⟩ := bd h
  refine va_put (D := G.1) (ci := 7) (v := .long v116) (ty := .long) (C := "RecipePlansModel") (T := T_Mo) (N := 24) hx hb hts (fun _ h9 => List.mem_cons_of_mem _ (inT_Mo _ h9)) ty_Mo tyok_Mo nm_Mo hown hK hw.1 hw.2.1 hw.2.2 7 (WL_get (by decide)) rfl 14 (by decide) (hts _ (List.mem_cons_of_mem _ tw_467)) (fun _ h9 => h9) rfl (by decide +kernel) rfl rfl (Nat.le_of_ble_eq_true rfl) d_Mo_lookAtCorner_117 (fun H locs hP hD hS => ?_)
  have hw := wk_pJ hm (by decide) (by rfl) hP hD hS
  refine lv_aload_n hx hb d_Mo_lookAtCorner_120 rfl (lv_at hl 1 rfl) ?_
  refine lv_aload_n hx hb d_Mo_lookAtCorner_121 rfl (lv_at hl 1 rfl) ?_
  refine va_get (D := G.1) (ci := 7) (v := .long (μ117.2 7 22)) (C := "RecipePlansModel") (T := T_Mo) (N := 24) hx hb hts (fun _ h9 => List.mem_cons_of_mem _ (inT_Mo _ h9)) hown hK hw.1 7 (WL_get (by decide)) rfl 22 (by decide) (hts _ (List.mem_cons_of_mem _ tw_475)) (fun _ h9 => h9) rfl d_Mo_lookAtCorner_122 ?_
  refine lv_lload hx hb d_Mo_lookAtCorner_125 (lv_at hl 0 rfl) ?_
  obtain ⟨v127, hv, h⟩ := bd h
  refine m_ldiv hx hb hv d_Mo_lookAtCorner_127 ?_
  obtain ⟨μ128, hm, h⟩ := bd h
  refine va_put (D := G.1) (ci := 7) (v := .long v127) (ty := .long) (C := "RecipePlansModel") (T := T_Mo) (N := 24) hx hb hts (fun _ h9 => List.mem_cons_of_mem _ (inT_Mo _ h9)) ty_Mo tyok_Mo nm_Mo hown hK hw.1 hw.2.1 hw.2.2 7 (WL_get (by decide)) rfl 15 (by decide) (hts _ (List.mem_cons_of_mem _ tw_468)) (fun _ h9 => h9) rfl (by decide +kernel) rfl rfl (Nat.le_of_ble_eq_true rfl) d_Mo_lookAtCorner_128 (fun H locs hP hD hS => ?_)
  have hw := wk_pJ hm (by decide) (by rfl) hP hD hS
  exact m_vret hx hb hr hlk hw h d_Mo_lookAtCorner_131
set_option maxRecDepth 100000 in
set_option maxHeartbeats 4000000 in
theorem w_Mo_lookAtCorner_40 {μ' : Mem} {N : Nat} (C : CxA G p s m args meth c prog_9_method_27_code 6 none "RecipePlansModel" ws_Mo_lookAtCorner) : ∀ (n : Nat) (x2 : Int64) (x4 : Int32) (μ : Mem) (H : Heap) (locs : List Loc) (ls : Array Slot), Wk G s μ H locs → lv_has ls 6 [(0, .ref (G.2.1 7)), (2, .long x2), (4, .int x4)] → M_Mo_lookAtCorner_40 N n x2 x4 μ = some μ' → WA G rm_Mo_lookAtCorner p l e s m args below meth c none μ' H locs 40 ls [] := by
  obtain ⟨hx, hb, hr, hml, hown, hts, hlk, hK, hSt⟩ := id C
  intro n
  induction n with
  | zero =>
    intro x2 x4 μ H locs ls hw hl h
    rw [M_Mo_lookAtCorner_40] at h
    cases h
  | succ n ih =>
    intro x2 x4 μ H locs ls hw hl h
    rw [M_Mo_lookAtCorner_40] at h
    refine lv_iload hx hb d_Mo_lookAtCorner_40 (lv_at hl 2 rfl) ?_
    refine lv_aload_n hx hb d_Mo_lookAtCorner_42 rfl (lv_at hl 0 rfl) ?_
    refine va_get (D := G.1) (ci := 7) (v := .int (μ.1 7 0)) (C := "RecipePlansModel") (T := T_Mo) (N := 24) hx hb hts (fun _ h9 => List.mem_cons_of_mem _ (inT_Mo _ h9)) hown hK hw.1 7 (WL_get (by decide)) rfl 0 (by decide) (hts _ (List.mem_cons_of_mem _ tw_453)) (fun _ h9 => h9) rfl d_Mo_lookAtCorner_43 ?_
    refine lv_icmp_ge (tgt := 74) hx hb d_Mo_lookAtCorner_46 (by decide) (fun c46 => ?_) (fun c46 => ?_)
    · have h := ifp c46 h
      refine lv_aload_n hx hb d_Mo_lookAtCorner_74 rfl (lv_at hl 0 rfl) ?_
      refine va_get (D := G.1) (ci := 7) (v := .long (μ.2 7 15)) (C := "RecipePlansModel") (T := T_Mo) (N := 24) hx hb hts (fun _ h9 => List.mem_cons_of_mem _ (inT_Mo _ h9)) hown hK hw.1 7 (WL_get (by decide)) rfl 15 (by decide) (hts _ (List.mem_cons_of_mem _ tw_468)) (fun _ h9 => h9) rfl d_Mo_lookAtCorner_75 ?_
      refine lv_lconst (v := 0) hx hb d_Mo_lookAtCorner_78 (by decide) ?_
      refine W.lcmp hx hb d_Mo_lookAtCorner_79 ?_
      refine lv_if_eq (tgt := 102) hx hb d_Mo_lookAtCorner_80 (by decide) (fun c80 => ?_) (fun c80 => ?_)
      · have h := ifp c80 h
        exact w_Mo_lookAtCorner_102 C x2 μ _ _ _ hw (lv_sub hl [0, 1] rfl) h
      · have h := ifn c80 h
        refine lv_lload_n hx hb d_Mo_lookAtCorner_83 rfl (lv_at hl 1 rfl) ?_
        refine lv_aload_n hx hb d_Mo_lookAtCorner_84 rfl (lv_at hl 0 rfl) ?_
        refine va_get (D := G.1) (ci := 7) (v := .long (μ.2 7 22)) (C := "RecipePlansModel") (T := T_Mo) (N := 24) hx hb hts (fun _ h9 => List.mem_cons_of_mem _ (inT_Mo _ h9)) hown hK hw.1 7 (WL_get (by decide)) rfl 22 (by decide) (hts _ (List.mem_cons_of_mem _ tw_475)) (fun _ h9 => h9) rfl d_Mo_lookAtCorner_85 ?_
        refine lv_aload_n hx hb d_Mo_lookAtCorner_88 rfl (lv_at hl 0 rfl) ?_
        refine va_get (D := G.1) (ci := 7) (v := .long (μ.2 7 14)) (C := "RecipePlansModel") (T := T_Mo) (N := 24) hx hb hts (fun _ h9 => List.mem_cons_of_mem _ (inT_Mo _ h9)) hown hK hw.1 7 (WL_get (by decide)) rfl 14 (by decide) (hts _ (List.mem_cons_of_mem _ tw_467)) (fun _ h9 => h9) rfl d_Mo_lookAtCorner_89 ?_
        refine lv_aload_n hx hb d_Mo_lookAtCorner_92 rfl (lv_at hl 0 rfl) ?_
        refine va_get (D := G.1) (ci := 7) (v := .long (μ.2 7 15)) (C := "RecipePlansModel") (T := T_Mo) (N := 24) hx hb hts (fun _ h9 => List.mem_cons_of_mem _ (inT_Mo _ h9)) hown hK hw.1 7 (WL_get (by decide)) rfl 15 (by decide) (hts _ (List.mem_cons_of_mem _ tw_468)) (fun _ h9 => h9) rfl d_Mo_lookAtCorner_93 ?_
        obtain ⟨r96, hq, h⟩ := bd h
        refine m_pcall (r := .int r96) (W.runS (As := [.long x2, .long (μ.2 7 22), .long (μ.2 7 14), .long (μ.2 7 15)]) (rest := []) ⟨hx, hb, hml, hown, hts⟩ (c_Mo_isLess l N x2 (μ.2 7 22) (μ.2 7 14) (μ.2 7 15) hq) (va_cwS 4 hts (gdS tw_596 tw_597 tw_41 tw_598) rfl rfl rfl (by decide +kernel) ⟨Nat.le_of_ble_eq_true rfl, Nat.le_of_ble_eq_true rfl⟩) preEq rfl rfl hl.1 rfl (lv_room (Nat.le_of_ble_eq_true rfl)) d_Mo_lookAtCorner_96 ⟨Nat.zero_le _, Nat.zero_le _⟩) ?_
        refine lv_if_eq (tgt := 131) hx hb d_Mo_lookAtCorner_99 (by decide) (fun c99 => ?_) (fun c99 => ?_)
        · have h := ifp c99 h
          exact m_vret hx hb hr hlk hw h d_Mo_lookAtCorner_131
        · have h := ifn c99 h
          exact w_Mo_lookAtCorner_102 C x2 μ _ _ _ hw (lv_sub hl [0, 1] rfl) h
    · have h := ifn c46 h
      refine lv_lload_n hx hb d_Mo_lookAtCorner_49 rfl (lv_at hl 1 rfl) ?_
      refine lv_aload_n hx hb d_Mo_lookAtCorner_50 rfl (lv_at hl 0 rfl) ?_
      refine va_get (D := G.1) (ci := 7) (v := .ref (G.2.1 46)) (C := "RecipePlansModel") (T := T_Mo) (N := 24) hx hb hts (fun _ h9 => List.mem_cons_of_mem _ (inT_Mo _ h9)) hown hK hw.1 7 (WL_get (by decide)) rfl 21 (by decide) (hts _ (List.mem_cons_of_mem _ tw_474)) (fun _ h9 => h9) rfl d_Mo_lookAtCorner_51 ?_
      refine lv_iload hx hb d_Mo_lookAtCorner_54 (lv_at hl 2 rfl) ?_
      obtain ⟨v56, hv, h⟩ := bd h
      refine m_laload hx hb hK hw hv d_Mo_lookAtCorner_56 ?_
      refine lv_aload_n hx hb d_Mo_lookAtCorner_57 rfl (lv_at hl 0 rfl) ?_
      refine va_get (D := G.1) (ci := 7) (v := .ref (G.2.1 29)) (C := "RecipePlansModel") (T := T_Mo) (N := 24) hx hb hts (fun _ h9 => List.mem_cons_of_mem _ (inT_Mo _ h9)) hown hK hw.1 7 (WL_get (by decide)) rfl 2 (by decide) (hts _ (List.mem_cons_of_mem _ tw_455)) (fun _ h9 => h9) rfl d_Mo_lookAtCorner_58 ?_
      refine lv_iload hx hb d_Mo_lookAtCorner_61 (lv_at hl 2 rfl) ?_
      obtain ⟨v63, hv, h⟩ := bd h
      refine m_iaload hx hb hK hw hv d_Mo_lookAtCorner_63 ?_
      refine lv_i2l hx hb d_Mo_lookAtCorner_64 rfl ?_
      refine lv_lmul hx hb d_Mo_lookAtCorner_65 ?_
      refine lv_ladd hx hb d_Mo_lookAtCorner_66 ?_
      obtain ⟨x2_67, ex2_67, h⟩ := nmx h
      refine m_eql ex2_67 ?_
      refine lv_lstore_n (lv' := [(2, .long x2_67), (0, .ref (G.2.1 7)), (4, .int x4)]) hx hb d_Mo_lookAtCorner_67 rfl hl (by decide) rfl (fun ls hl => ?_)
      refine lv_iinc (v := x4 + 1) (lv' := [(4, .int (x4 + 1)), (2, .long x2_67), (0, .ref (G.2.1 7))]) hx hb d_Mo_lookAtCorner_68 hl (k := 2) rfl rfl (by decide) rfl (fun ls hl => ?_)
      refine lv_goto (tgt := 40) hx hb d_Mo_lookAtCorner_71 (by decide) ?_
      exact ih x2_67 (x4 + 1) μ _ _ _ hw (lv_sub hl [2, 1, 0] rfl) h
set_option maxRecDepth 100000 in
set_option maxHeartbeats 4000000 in
theorem w_Mo_lookAtCorner_15 {μ' : Mem} {N : Nat} (C : CxA G p s m args meth c prog_9_method_27_code 6 none "RecipePlansModel" ws_Mo_lookAtCorner) : ∀ (y0 : Int32) (μ : Mem) (H : Heap) (locs : List Loc) (ls : Array Slot), Wk G s μ H locs → lv_has ls 6 [(0, .ref (G.2.1 7))] → M_Mo_lookAtCorner_15 N y0 μ = some μ' → WA G rm_Mo_lookAtCorner p l e s m args below meth c none μ' H locs 15 ls [.int y0] := by
  obtain ⟨hx, hb, hr, hml, hown, hts, hlk, hK, hSt⟩ := id C
  intro y0 μ H locs ls hw hl h
  unfold M_Mo_lookAtCorner_15 at h
  refine lv_istore_n (lv' := [(1, .int y0), (0, .ref (G.2.1 7))]) hx hb d_Mo_lookAtCorner_15 rfl hl (by decide) rfl (fun ls hl => ?_)
  refine lv_iload_n hx hb d_Mo_lookAtCorner_16 rfl (lv_at hl 0 rfl) ?_
  refine lv_if_ge (tgt := 21) hx hb d_Mo_lookAtCorner_17 (by decide) (fun c17 => ?_) (fun c17 => ?_)
  · have h := ifp c17 h
    refine lv_aload_n hx hb d_Mo_lookAtCorner_21 rfl (lv_at hl 1 rfl) ?_
    refine va_get (D := G.1) (ci := 7) (v := .ref (G.2.1 16)) (C := "RecipePlansModel") (T := T_Mo) (N := 24) hx hb hts (fun _ h9 => List.mem_cons_of_mem _ (inT_Mo _ h9)) hown hK hw.1 7 (WL_get (by decide)) rfl 23 (by decide) (hts _ (List.mem_cons_of_mem _ tw_476)) (fun _ h9 => h9) rfl d_Mo_lookAtCorner_22 ?_
    refine lv_iload_n hx hb d_Mo_lookAtCorner_25 rfl (lv_at hl 0 rfl) ?_
    refine lv_iconst (v := 1) hx hb d_Mo_lookAtCorner_26 (by decide) ?_
    obtain ⟨μ27, hm, h⟩ := bd h
    refine m_bastore hx hb hK hw hm d_Mo_lookAtCorner_27 (fun H locs hw => ?_)
    refine lv_iload_n hx hb d_Mo_lookAtCorner_28 rfl (lv_at hl 0 rfl) ?_
    refine lv_sipush (v := 255) hx hb d_Mo_lookAtCorner_29 (by decide) ?_
    refine lv_icmp_ne (tgt := 131) hx hb d_Mo_lookAtCorner_32 (by decide) (fun c32 => ?_) (fun c32 => ?_)
    · have h := ifn c32 h
      exact m_vret hx hb hr hlk hw h d_Mo_lookAtCorner_131
    · have h := ifp c32 h
      refine lv_lconst (v := 0) hx hb d_Mo_lookAtCorner_35 (by decide) ?_
      refine lv_lstore_n (lv' := [(2, .long (0 : Int64)), (1, .int y0), (0, .ref (G.2.1 7))]) hx hb d_Mo_lookAtCorner_36 rfl hl (by decide) rfl (fun ls hl => ?_)
      refine lv_iconst (v := 0) hx hb d_Mo_lookAtCorner_37 (by decide) ?_
      refine lv_istore (lv' := [(4, .int (0 : Int32)), (2, .long (0 : Int64)), (1, .int y0), (0, .ref (G.2.1 7))]) hx hb d_Mo_lookAtCorner_38 hl (by decide) rfl (fun ls hl => ?_)
      exact w_Mo_lookAtCorner_40 C N (0 : Int64) (0 : Int32) μ27 _ _ _ hw (lv_sub hl [3, 1, 0] rfl) h
  · have h := ifn c17 h
    exact m_vret hx hb hr hlk hw h d_Mo_lookAtCorner_20
set_option maxRecDepth 100000 in
set_option maxHeartbeats 4000000 in
theorem c_Mo_lookAtCorner (l : Launch) (G : Gw) (N : Nat) (μ : Mem) {μ' : Mem} (h : M_Mo_lookAtCorner N μ = some μ') : CT l y_Mo_lookAtCorner ws_Mo_lookAtCorner rm_Mo_lookAtCorner [.ref (G.2.1 7)] G μ none μ' := by
  refine m_met (cc := prog_9_method_27_code) (maxL := 6) (ret := none) (by decide) rfl (Nat.le_of_ble_eq_true rfl) ?_
  intro p e s m args below meth c ls C hw hl
  obtain ⟨hx, hb, hr, hml, hown, hts, hlk, hK, hSt⟩ := id C
  have hl : lv_has ls 6 [(0, .ref (G.2.1 7))] := hl
  unfold M_Mo_lookAtCorner at h
  refine lv_aload_n hx hb d_Mo_lookAtCorner_0 rfl (lv_at hl 0 rfl) ?_
  obtain ⟨r1, μ1, hq, h⟩ := bd2 h
  refine m_call (r := some (.int r1)) (μ1 := μ1) (va_runV (C := "RecipePlansModel") (As := []) (rest := []) ⟨hx, hb, hml, hown, hts⟩ (c_Mo_meet l G N μ hq _) (cwV 0 hts (gdV tw_574 tw_575 tw_25 tw_41 tw_576) rfl rfl rfl (by decide +kernel) ⟨Nat.le_of_ble_eq_true rfl, Nat.le_of_ble_eq_true rfl⟩) (m_preV (k := 7) (by decide) rfl hK hSt hw) rfl rfl hl.1 rfl (lv_room (Nat.le_of_ble_eq_true rfl)) d_Mo_lookAtCorner_1 ⟨Nat.zero_le _, Nat.zero_le _⟩) hw (fun H locs hw => ?_)
  refine lv_if_eq (tgt := 14) hx hb d_Mo_lookAtCorner_4 (by decide) (fun c4 => ?_) (fun c4 => ?_)
  · have h := ifp c4 h
    refine lv_iconst (v := -1) hx hb d_Mo_lookAtCorner_14 (by decide) ?_
    exact w_Mo_lookAtCorner_15 C (-1 : Int32) μ1 _ _ _ hw hl h
  · have h := ifn c4 h
    refine lv_aload_n hx hb d_Mo_lookAtCorner_7 rfl (lv_at hl 0 rfl) ?_
    obtain ⟨r8, μ8, hq, h⟩ := bd2 h
    refine m_call (r := some (.int r8)) (μ1 := μ8) (va_runV (C := "RecipePlansModel") (As := []) (rest := []) ⟨hx, hb, hml, hown, hts⟩ (c_Mo_keptRules l G N μ1 hq _) (cwV 0 hts (gdV tw_589 tw_590 tw_29 tw_41 tw_591) rfl rfl rfl (by decide +kernel) ⟨Nat.le_of_ble_eq_true rfl, Nat.le_of_ble_eq_true rfl⟩) (m_preV (k := 7) (by decide) rfl hK hSt hw) rfl rfl hl.1 rfl (lv_room (Nat.le_of_ble_eq_true rfl)) d_Mo_lookAtCorner_8 ⟨Nat.zero_le _, Nat.zero_le _⟩) hw (fun H locs hw => ?_)
    refine lv_goto (tgt := 15) hx hb d_Mo_lookAtCorner_11 (by decide) ?_
    exact w_Mo_lookAtCorner_15 C r8 μ8 _ _ _ hw hl h
set_option maxRecDepth 100000 in
set_option maxHeartbeats 4000000 in
theorem w_Mo_lookAtCorners_78 {μ' : Mem} {N : Nat} (C : CxA G p s m args meth c prog_9_method_28_code 5 none "RecipePlansModel" ws_Mo_lookAtCorners) {K29 : Int32 → Mem → Option Mem} (hK29 : ∀ (x1 : Int32) (μ : Mem) (H : Heap) (locs : List Loc) (ls : Array Slot), Wk G s μ H locs → lv_has ls 5 [(0, .ref (G.2.1 7)), (1, .int x1)] → K29 x1 μ = some μ' → WA G rm_Mo_lookAtCorners p l e s m args below meth c none μ' H locs 29 ls []) {K39 : Int32 → Int32 → Mem → Option Mem} (hK39 : ∀ (x1 : Int32) (x2 : Int32) (μ : Mem) (H : Heap) (locs : List Loc) (ls : Array Slot), Wk G s μ H locs → lv_has ls 5 [(0, .ref (G.2.1 7)), (1, .int x1), (2, .int x2)] → K39 x1 x2 μ = some μ' → WA G rm_Mo_lookAtCorners p l e s m args below meth c none μ' H locs 39 ls []) {K58 : Int32 → Int32 → Int32 → Mem → Option Mem} (hK58 : ∀ (x1 : Int32) (x2 : Int32) (x3 : Int32) (μ : Mem) (H : Heap) (locs : List Loc) (ls : Array Slot), Wk G s μ H locs → lv_has ls 5 [(0, .ref (G.2.1 7)), (1, .int x1), (2, .int x2), (3, .int x3)] → K58 x1 x2 x3 μ = some μ' → WA G rm_Mo_lookAtCorners p l e s m args below meth c none μ' H locs 58 ls []) : ∀ (n : Nat) (x1 : Int32) (x2 : Int32) (x3 : Int32) (x4 : Int32) (μ : Mem) (H : Heap) (locs : List Loc) (ls : Array Slot), Wk G s μ H locs → lv_has ls 5 [(0, .ref (G.2.1 7)), (1, .int x1), (2, .int x2), (3, .int x3), (4, .int x4)] → M_Mo_lookAtCorners_78 N K29 K39 K58 n x1 x2 x3 x4 μ = some μ' → WA G rm_Mo_lookAtCorners p l e s m args below meth c none μ' H locs 78 ls [] := by
  obtain ⟨hx, hb, hr, hml, hown, hts, hlk, hK, hSt⟩ := id C
  intro n
  induction n with
  | zero =>
    intro x1 x2 x3 x4 μ H locs ls hw hl h
    rw [M_Mo_lookAtCorners_78] at h
    cases h
  | succ n ih =>
    intro x1 x2 x3 x4 μ H locs ls hw hl h
    rw [M_Mo_lookAtCorners_78] at h
    refine lv_iload hx hb d_Mo_lookAtCorners_78 (lv_at hl 4 rfl) ?_
    refine lv_bipush (v := 24) hx hb d_Mo_lookAtCorners_80 (by decide) ?_
    refine lv_icmp_ge (tgt := 143) hx hb d_Mo_lookAtCorners_82 (by decide) (fun c82 => ?_) (fun c82 => ?_)
    · have h := ifp c82 h
      refine lv_iinc (v := x3 + 1) (lv' := [(3, .int (x3 + 1)), (0, .ref (G.2.1 7)), (1, .int x1), (2, .int x2), (4, .int x4)]) hx hb d_Mo_lookAtCorners_143 hl (k := 3) rfl rfl (by decide) rfl (fun ls hl => ?_)
      refine lv_goto (tgt := 58) hx hb d_Mo_lookAtCorners_146 (by decide) ?_
      exact hK58 x1 x2 (x3 + 1) μ _ _ _ hw (lv_sub hl [1, 2, 3, 0] rfl) h
    · have h := ifn c82 h
      refine lv_aload_n hx hb d_Mo_lookAtCorners_85 rfl (lv_at hl 0 rfl) ?_
      refine va_get (D := G.1) (ci := 7) (v := .ref (G.2.1 15)) (C := "RecipePlansModel") (T := T_Mo) (N := 24) hx hb hts (fun _ h9 => List.mem_cons_of_mem _ (inT_Mo _ h9)) hown hK hw.1 7 (WL_get (by decide)) rfl 19 (by decide) (hts _ (List.mem_cons_of_mem _ tw_472)) (fun _ h9 => h9) rfl d_Mo_lookAtCorners_86 ?_
      refine lv_iload_n hx hb d_Mo_lookAtCorners_89 rfl (lv_at hl 3 rfl) ?_
      obtain ⟨v90, hv, h⟩ := bd h
      refine m_baload hx hb hK hw hv d_Mo_lookAtCorners_90 ?_
      refine lv_if_eq (tgt := 143) hx hb d_Mo_lookAtCorners_91 (by decide) (fun c91 => ?_) (fun c91 => ?_)
      · have h := ifp c91 h
        refine lv_iinc (v := x3 + 1) (lv' := [(3, .int (x3 + 1)), (0, .ref (G.2.1 7)), (1, .int x1), (2, .int x2), (4, .int x4)]) hx hb d_Mo_lookAtCorners_143 hl (k := 3) rfl rfl (by decide) rfl (fun ls hl => ?_)
        refine lv_goto (tgt := 58) hx hb d_Mo_lookAtCorners_146 (by decide) ?_
        exact hK58 x1 x2 (x3 + 1) μ _ _ _ hw (lv_sub hl [1, 2, 3, 0] rfl) h
      · have h := ifn c91 h
        refine lv_aload_n hx hb d_Mo_lookAtCorners_94 rfl (lv_at hl 0 rfl) ?_
        refine va_get (D := G.1) (ci := 7) (v := .ref (G.2.1 15)) (C := "RecipePlansModel") (T := T_Mo) (N := 24) hx hb hts (fun _ h9 => List.mem_cons_of_mem _ (inT_Mo _ h9)) hown hK hw.1 7 (WL_get (by decide)) rfl 19 (by decide) (hts _ (List.mem_cons_of_mem _ tw_472)) (fun _ h9 => h9) rfl d_Mo_lookAtCorners_95 ?_
        refine lv_iload hx hb d_Mo_lookAtCorners_98 (lv_at hl 4 rfl) ?_
        obtain ⟨v100, hv, h⟩ := bd h
        refine m_baload hx hb hK hw hv d_Mo_lookAtCorners_100 ?_
        refine lv_if_eq (tgt := 137) hx hb d_Mo_lookAtCorners_101 (by decide) (fun c101 => ?_) (fun c101 => ?_)
        · have h := ifp c101 h
          refine lv_iinc (v := x4 + 1) (lv' := [(4, .int (x4 + 1)), (0, .ref (G.2.1 7)), (1, .int x1), (2, .int x2), (3, .int x3)]) hx hb d_Mo_lookAtCorners_137 hl (k := 4) rfl rfl (by decide) rfl (fun ls hl => ?_)
          refine lv_goto (tgt := 78) hx hb d_Mo_lookAtCorners_140 (by decide) ?_
          exact ih x1 x2 x3 (x4 + 1) μ _ _ _ hw (lv_sub hl [1, 2, 3, 4, 0] rfl) h
        · have h := ifn c101 h
          refine lv_aload_n hx hb d_Mo_lookAtCorners_104 rfl (lv_at hl 0 rfl) ?_
          refine va_get (D := G.1) (ci := 7) (v := .ref (G.2.1 39)) (C := "RecipePlansModel") (T := T_Mo) (N := 24) hx hb hts (fun _ h9 => List.mem_cons_of_mem _ (inT_Mo _ h9)) hown hK hw.1 7 (WL_get (by decide)) rfl 20 (by decide) (hts _ (List.mem_cons_of_mem _ tw_473)) (fun _ h9 => h9) rfl d_Mo_lookAtCorners_105 ?_
          refine lv_iconst (v := 0) hx hb d_Mo_lookAtCorners_108 (by decide) ?_
          refine lv_iload_n hx hb d_Mo_lookAtCorners_109 rfl (lv_at hl 1 rfl) ?_
          obtain ⟨μ110, hm, h⟩ := bd h
          refine m_iastore hx hb hK hw hm d_Mo_lookAtCorners_110 (fun H locs hw => ?_)
          refine lv_aload_n hx hb d_Mo_lookAtCorners_111 rfl (lv_at hl 0 rfl) ?_
          refine va_get (D := G.1) (ci := 7) (v := .ref (G.2.1 39)) (C := "RecipePlansModel") (T := T_Mo) (N := 24) hx hb hts (fun _ h9 => List.mem_cons_of_mem _ (inT_Mo _ h9)) hown hK hw.1 7 (WL_get (by decide)) rfl 20 (by decide) (hts _ (List.mem_cons_of_mem _ tw_473)) (fun _ h9 => h9) rfl d_Mo_lookAtCorners_112 ?_
          refine lv_iconst (v := 1) hx hb d_Mo_lookAtCorners_115 (by decide) ?_
          refine lv_iload_n hx hb d_Mo_lookAtCorners_116 rfl (lv_at hl 2 rfl) ?_
          obtain ⟨μ117, hm, h⟩ := bd h
          refine m_iastore hx hb hK hw hm d_Mo_lookAtCorners_117 (fun H locs hw => ?_)
          refine lv_aload_n hx hb d_Mo_lookAtCorners_118 rfl (lv_at hl 0 rfl) ?_
          refine va_get (D := G.1) (ci := 7) (v := .ref (G.2.1 39)) (C := "RecipePlansModel") (T := T_Mo) (N := 24) hx hb hts (fun _ h9 => List.mem_cons_of_mem _ (inT_Mo _ h9)) hown hK hw.1 7 (WL_get (by decide)) rfl 20 (by decide) (hts _ (List.mem_cons_of_mem _ tw_473)) (fun _ h9 => h9) rfl d_Mo_lookAtCorners_119 ?_
          refine lv_iconst (v := 2) hx hb d_Mo_lookAtCorners_122 (by decide) ?_
          refine lv_iload_n hx hb d_Mo_lookAtCorners_123 rfl (lv_at hl 3 rfl) ?_
          obtain ⟨μ124, hm, h⟩ := bd h
          refine m_iastore hx hb hK hw hm d_Mo_lookAtCorners_124 (fun H locs hw => ?_)
          refine lv_aload_n hx hb d_Mo_lookAtCorners_125 rfl (lv_at hl 0 rfl) ?_
          refine va_get (D := G.1) (ci := 7) (v := .ref (G.2.1 39)) (C := "RecipePlansModel") (T := T_Mo) (N := 24) hx hb hts (fun _ h9 => List.mem_cons_of_mem _ (inT_Mo _ h9)) hown hK hw.1 7 (WL_get (by decide)) rfl 20 (by decide) (hts _ (List.mem_cons_of_mem _ tw_473)) (fun _ h9 => h9) rfl d_Mo_lookAtCorners_126 ?_
          refine lv_iconst (v := 3) hx hb d_Mo_lookAtCorners_129 (by decide) ?_
          refine lv_iload hx hb d_Mo_lookAtCorners_130 (lv_at hl 4 rfl) ?_
          obtain ⟨μ132, hm, h⟩ := bd h
          refine m_iastore hx hb hK hw hm d_Mo_lookAtCorners_132 (fun H locs hw => ?_)
          refine lv_aload_n hx hb d_Mo_lookAtCorners_133 rfl (lv_at hl 0 rfl) ?_
          obtain ⟨μ134, hq, h⟩ := bd h
          refine m_call (r := none) (μ1 := μ134) (va_runV (C := "RecipePlansModel") (As := []) (rest := []) ⟨hx, hb, hml, hown, hts⟩ (c_Mo_lookAtCorner l G N μ132 hq _) (cwV 0 hts (gdV tw_571 tw_572 tw_24 tw_41 tw_573) rfl rfl rfl (by decide +kernel) ⟨Nat.le_of_ble_eq_true rfl, Nat.le_of_ble_eq_true rfl⟩) (m_preV (k := 7) (by decide) rfl hK hSt hw) rfl rfl hl.1 rfl (lv_room (Nat.le_of_ble_eq_true rfl)) d_Mo_lookAtCorners_134 ⟨Nat.zero_le _, Nat.zero_le _⟩) hw (fun H locs hw => ?_)
          refine lv_iinc (v := x4 + 1) (lv' := [(4, .int (x4 + 1)), (0, .ref (G.2.1 7)), (1, .int x1), (2, .int x2), (3, .int x3)]) hx hb d_Mo_lookAtCorners_137 hl (k := 4) rfl rfl (by decide) rfl (fun ls hl => ?_)
          refine lv_goto (tgt := 78) hx hb d_Mo_lookAtCorners_140 (by decide) ?_
          exact ih x1 x2 x3 (x4 + 1) μ134 _ _ _ hw (lv_sub hl [1, 2, 3, 4, 0] rfl) h
set_option maxRecDepth 100000 in
set_option maxHeartbeats 4000000 in
theorem w_Mo_lookAtCorners_58 {μ' : Mem} {N : Nat} (C : CxA G p s m args meth c prog_9_method_28_code 5 none "RecipePlansModel" ws_Mo_lookAtCorners) {K29 : Int32 → Mem → Option Mem} (hK29 : ∀ (x1 : Int32) (μ : Mem) (H : Heap) (locs : List Loc) (ls : Array Slot), Wk G s μ H locs → lv_has ls 5 [(0, .ref (G.2.1 7)), (1, .int x1)] → K29 x1 μ = some μ' → WA G rm_Mo_lookAtCorners p l e s m args below meth c none μ' H locs 29 ls []) {K39 : Int32 → Int32 → Mem → Option Mem} (hK39 : ∀ (x1 : Int32) (x2 : Int32) (μ : Mem) (H : Heap) (locs : List Loc) (ls : Array Slot), Wk G s μ H locs → lv_has ls 5 [(0, .ref (G.2.1 7)), (1, .int x1), (2, .int x2)] → K39 x1 x2 μ = some μ' → WA G rm_Mo_lookAtCorners p l e s m args below meth c none μ' H locs 39 ls []) : ∀ (n : Nat) (x1 : Int32) (x2 : Int32) (x3 : Int32) (μ : Mem) (H : Heap) (locs : List Loc) (ls : Array Slot), Wk G s μ H locs → lv_has ls 5 [(0, .ref (G.2.1 7)), (1, .int x1), (2, .int x2), (3, .int x3)] → M_Mo_lookAtCorners_58 N K29 K39 n x1 x2 x3 μ = some μ' → WA G rm_Mo_lookAtCorners p l e s m args below meth c none μ' H locs 58 ls [] := by
  obtain ⟨hx, hb, hr, hml, hown, hts, hlk, hK, hSt⟩ := id C
  intro n
  induction n with
  | zero =>
    intro x1 x2 x3 μ H locs ls hw hl h
    rw [M_Mo_lookAtCorners_58] at h
    cases h
  | succ n ih =>
    intro x1 x2 x3 μ H locs ls hw hl h
    rw [M_Mo_lookAtCorners_58] at h
    refine lv_iload_n hx hb d_Mo_lookAtCorners_58 rfl (lv_at hl 3 rfl) ?_
    refine lv_bipush (v := 24) hx hb d_Mo_lookAtCorners_59 (by decide) ?_
    refine lv_icmp_ge (tgt := 149) hx hb d_Mo_lookAtCorners_61 (by decide) (fun c61 => ?_) (fun c61 => ?_)
    · have h := ifp c61 h
      refine lv_iinc (v := x2 + 1) (lv' := [(2, .int (x2 + 1)), (0, .ref (G.2.1 7)), (1, .int x1), (3, .int x3)]) hx hb d_Mo_lookAtCorners_149 hl (k := 2) rfl rfl (by decide) rfl (fun ls hl => ?_)
      refine lv_goto (tgt := 39) hx hb d_Mo_lookAtCorners_152 (by decide) ?_
      exact hK39 x1 (x2 + 1) μ _ _ _ hw (lv_sub hl [1, 2, 0] rfl) h
    · have h := ifn c61 h
      refine lv_aload_n hx hb d_Mo_lookAtCorners_64 rfl (lv_at hl 0 rfl) ?_
      refine va_get (D := G.1) (ci := 7) (v := .ref (G.2.1 15)) (C := "RecipePlansModel") (T := T_Mo) (N := 24) hx hb hts (fun _ h9 => List.mem_cons_of_mem _ (inT_Mo _ h9)) hown hK hw.1 7 (WL_get (by decide)) rfl 19 (by decide) (hts _ (List.mem_cons_of_mem _ tw_472)) (fun _ h9 => h9) rfl d_Mo_lookAtCorners_65 ?_
      refine lv_iload_n hx hb d_Mo_lookAtCorners_68 rfl (lv_at hl 2 rfl) ?_
      obtain ⟨v69, hv, h⟩ := bd h
      refine m_baload hx hb hK hw hv d_Mo_lookAtCorners_69 ?_
      refine lv_if_eq (tgt := 149) hx hb d_Mo_lookAtCorners_70 (by decide) (fun c70 => ?_) (fun c70 => ?_)
      · have h := ifp c70 h
        refine lv_iinc (v := x2 + 1) (lv' := [(2, .int (x2 + 1)), (0, .ref (G.2.1 7)), (1, .int x1), (3, .int x3)]) hx hb d_Mo_lookAtCorners_149 hl (k := 2) rfl rfl (by decide) rfl (fun ls hl => ?_)
        refine lv_goto (tgt := 39) hx hb d_Mo_lookAtCorners_152 (by decide) ?_
        exact hK39 x1 (x2 + 1) μ _ _ _ hw (lv_sub hl [1, 2, 0] rfl) h
      · have h := ifn c70 h
        refine lv_iload_n hx hb d_Mo_lookAtCorners_73 rfl (lv_at hl 3 rfl) ?_
        refine lv_iconst (v := 1) hx hb d_Mo_lookAtCorners_74 (by decide) ?_
        refine lv_iadd hx hb d_Mo_lookAtCorners_75 ?_
        obtain ⟨x4_76, ex4_76, h⟩ := nmx h
        refine m_eqi ex4_76 ?_
        refine lv_istore (lv' := [(4, .int x4_76), (0, .ref (G.2.1 7)), (1, .int x1), (2, .int x2), (3, .int x3)]) hx hb d_Mo_lookAtCorners_76 hl (by decide) rfl (fun ls hl => ?_)
        exact w_Mo_lookAtCorners_78 C hK29 hK39 ih N x1 x2 x3 x4_76 μ _ _ _ hw (lv_sub hl [1, 2, 3, 4, 0] rfl) h
set_option maxRecDepth 100000 in
set_option maxHeartbeats 4000000 in
theorem w_Mo_lookAtCorners_39 {μ' : Mem} {N : Nat} (C : CxA G p s m args meth c prog_9_method_28_code 5 none "RecipePlansModel" ws_Mo_lookAtCorners) {K29 : Int32 → Mem → Option Mem} (hK29 : ∀ (x1 : Int32) (μ : Mem) (H : Heap) (locs : List Loc) (ls : Array Slot), Wk G s μ H locs → lv_has ls 5 [(0, .ref (G.2.1 7)), (1, .int x1)] → K29 x1 μ = some μ' → WA G rm_Mo_lookAtCorners p l e s m args below meth c none μ' H locs 29 ls []) : ∀ (n : Nat) (x1 : Int32) (x2 : Int32) (μ : Mem) (H : Heap) (locs : List Loc) (ls : Array Slot), Wk G s μ H locs → lv_has ls 5 [(0, .ref (G.2.1 7)), (1, .int x1), (2, .int x2)] → M_Mo_lookAtCorners_39 N K29 n x1 x2 μ = some μ' → WA G rm_Mo_lookAtCorners p l e s m args below meth c none μ' H locs 39 ls [] := by
  obtain ⟨hx, hb, hr, hml, hown, hts, hlk, hK, hSt⟩ := id C
  intro n
  induction n with
  | zero =>
    intro x1 x2 μ H locs ls hw hl h
    rw [M_Mo_lookAtCorners_39] at h
    cases h
  | succ n ih =>
    intro x1 x2 μ H locs ls hw hl h
    rw [M_Mo_lookAtCorners_39] at h
    refine lv_iload_n hx hb d_Mo_lookAtCorners_39 rfl (lv_at hl 2 rfl) ?_
    refine lv_bipush (v := 24) hx hb d_Mo_lookAtCorners_40 (by decide) ?_
    refine lv_icmp_ge (tgt := 155) hx hb d_Mo_lookAtCorners_42 (by decide) (fun c42 => ?_) (fun c42 => ?_)
    · have h := ifp c42 h
      refine lv_iinc (v := x1 + 1) (lv' := [(1, .int (x1 + 1)), (0, .ref (G.2.1 7)), (2, .int x2)]) hx hb d_Mo_lookAtCorners_155 hl (k := 1) rfl rfl (by decide) rfl (fun ls hl => ?_)
      refine lv_goto (tgt := 29) hx hb d_Mo_lookAtCorners_158 (by decide) ?_
      exact hK29 (x1 + 1) μ _ _ _ hw (lv_sub hl [1, 0] rfl) h
    · have h := ifn c42 h
      refine lv_aload_n hx hb d_Mo_lookAtCorners_45 rfl (lv_at hl 0 rfl) ?_
      refine va_get (D := G.1) (ci := 7) (v := .ref (G.2.1 15)) (C := "RecipePlansModel") (T := T_Mo) (N := 24) hx hb hts (fun _ h9 => List.mem_cons_of_mem _ (inT_Mo _ h9)) hown hK hw.1 7 (WL_get (by decide)) rfl 19 (by decide) (hts _ (List.mem_cons_of_mem _ tw_472)) (fun _ h9 => h9) rfl d_Mo_lookAtCorners_46 ?_
      refine lv_iload_n hx hb d_Mo_lookAtCorners_49 rfl (lv_at hl 1 rfl) ?_
      obtain ⟨v50, hv, h⟩ := bd h
      refine m_baload hx hb hK hw hv d_Mo_lookAtCorners_50 ?_
      refine lv_if_eq (tgt := 155) hx hb d_Mo_lookAtCorners_51 (by decide) (fun c51 => ?_) (fun c51 => ?_)
      · have h := ifp c51 h
        refine lv_iinc (v := x1 + 1) (lv' := [(1, .int (x1 + 1)), (0, .ref (G.2.1 7)), (2, .int x2)]) hx hb d_Mo_lookAtCorners_155 hl (k := 1) rfl rfl (by decide) rfl (fun ls hl => ?_)
        refine lv_goto (tgt := 29) hx hb d_Mo_lookAtCorners_158 (by decide) ?_
        exact hK29 (x1 + 1) μ _ _ _ hw (lv_sub hl [1, 0] rfl) h
      · have h := ifn c51 h
        refine lv_iload_n hx hb d_Mo_lookAtCorners_54 rfl (lv_at hl 2 rfl) ?_
        refine lv_iconst (v := 1) hx hb d_Mo_lookAtCorners_55 (by decide) ?_
        refine lv_iadd hx hb d_Mo_lookAtCorners_56 ?_
        obtain ⟨x3_57, ex3_57, h⟩ := nmx h
        refine m_eqi ex3_57 ?_
        refine lv_istore_n (lv' := [(3, .int x3_57), (0, .ref (G.2.1 7)), (1, .int x1), (2, .int x2)]) hx hb d_Mo_lookAtCorners_57 rfl hl (by decide) rfl (fun ls hl => ?_)
        exact w_Mo_lookAtCorners_58 C hK29 ih N x1 x2 x3_57 μ _ _ _ hw (lv_sub hl [1, 2, 3, 0] rfl) h
set_option maxRecDepth 100000 in
set_option maxHeartbeats 4000000 in
theorem w_Mo_lookAtCorners_29 {μ' : Mem} {N : Nat} (C : CxA G p s m args meth c prog_9_method_28_code 5 none "RecipePlansModel" ws_Mo_lookAtCorners) : ∀ (n : Nat) (x1 : Int32) (μ : Mem) (H : Heap) (locs : List Loc) (ls : Array Slot), Wk G s μ H locs → lv_has ls 5 [(0, .ref (G.2.1 7)), (1, .int x1)] → M_Mo_lookAtCorners_29 N n x1 μ = some μ' → WA G rm_Mo_lookAtCorners p l e s m args below meth c none μ' H locs 29 ls [] := by
  obtain ⟨hx, hb, hr, hml, hown, hts, hlk, hK, hSt⟩ := id C
  intro n
  induction n with
  | zero =>
    intro x1 μ H locs ls hw hl h
    rw [M_Mo_lookAtCorners_29] at h
    cases h
  | succ n ih =>
    intro x1 μ H locs ls hw hl h
    rw [M_Mo_lookAtCorners_29] at h
    refine lv_iload_n hx hb d_Mo_lookAtCorners_29 rfl (lv_at hl 1 rfl) ?_
    refine lv_bipush (v := 24) hx hb d_Mo_lookAtCorners_30 (by decide) ?_
    refine lv_icmp_ge (tgt := 161) hx hb d_Mo_lookAtCorners_32 (by decide) (fun c32 => ?_) (fun c32 => ?_)
    · have h := ifp c32 h
      exact m_vret hx hb hr hlk hw h d_Mo_lookAtCorners_161
    · have h := ifn c32 h
      refine lv_iload_n hx hb d_Mo_lookAtCorners_35 rfl (lv_at hl 1 rfl) ?_
      refine lv_iconst (v := 1) hx hb d_Mo_lookAtCorners_36 (by decide) ?_
      refine lv_iadd hx hb d_Mo_lookAtCorners_37 ?_
      obtain ⟨x2_38, ex2_38, h⟩ := nmx h
      refine m_eqi ex2_38 ?_
      refine lv_istore_n (lv' := [(2, .int x2_38), (0, .ref (G.2.1 7)), (1, .int x1)]) hx hb d_Mo_lookAtCorners_38 rfl hl (by decide) rfl (fun ls hl => ?_)
      exact w_Mo_lookAtCorners_39 C ih N x1 x2_38 μ _ _ _ hw (lv_sub hl [1, 2, 0] rfl) h
set_option maxRecDepth 100000 in
set_option maxHeartbeats 4000000 in
theorem w_Mo_lookAtCorners_2 {μ' : Mem} {N : Nat} (C : CxA G p s m args meth c prog_9_method_28_code 5 none "RecipePlansModel" ws_Mo_lookAtCorners) : ∀ (n : Nat) (x1 : Int32) (μ : Mem) (H : Heap) (locs : List Loc) (ls : Array Slot), Wk G s μ H locs → lv_has ls 5 [(0, .ref (G.2.1 7)), (1, .int x1)] → M_Mo_lookAtCorners_2 N n x1 μ = some μ' → WA G rm_Mo_lookAtCorners p l e s m args below meth c none μ' H locs 2 ls [] := by
  obtain ⟨hx, hb, hr, hml, hown, hts, hlk, hK, hSt⟩ := id C
  intro n
  induction n with
  | zero =>
    intro x1 μ H locs ls hw hl h
    rw [M_Mo_lookAtCorners_2] at h
    cases h
  | succ n ih =>
    intro x1 μ H locs ls hw hl h
    rw [M_Mo_lookAtCorners_2] at h
    refine lv_iload_n hx hb d_Mo_lookAtCorners_2 rfl (lv_at hl 1 rfl) ?_
    refine lv_sipush (v := 256) hx hb d_Mo_lookAtCorners_3 (by decide) ?_
    refine lv_icmp_ge (tgt := 22) hx hb d_Mo_lookAtCorners_6 (by decide) (fun c6 => ?_) (fun c6 => ?_)
    · have h := ifp c6 h
      refine lv_aload_n hx hb d_Mo_lookAtCorners_22 rfl (lv_at hl 0 rfl) ?_
      refine lv_lconst (v := 0) hx hb d_Mo_lookAtCorners_23 (by decide) ?_
      obtain ⟨μ24, hm, h⟩ := bd h
      refine va_put (D := G.1) (ci := 7) (v := .long (0 : Int64)) (ty := .long) (C := "RecipePlansModel") (T := T_Mo) (N := 24) hx hb hts (fun _ h9 => List.mem_cons_of_mem _ (inT_Mo _ h9)) ty_Mo tyok_Mo nm_Mo hown hK hw.1 hw.2.1 hw.2.2 7 (WL_get (by decide)) rfl 15 (by decide) (hts _ (List.mem_cons_of_mem _ tw_468)) (fun _ h9 => h9) rfl (by decide +kernel) rfl rfl (Nat.le_of_ble_eq_true rfl) d_Mo_lookAtCorners_24 (fun H locs hP hD hS => ?_)
      have hw := wk_pJ hm (by decide) (by rfl) hP hD hS
      refine lv_iconst (v := 0) hx hb d_Mo_lookAtCorners_27 (by decide) ?_
      refine lv_istore_n (lv' := [(1, .int (0 : Int32)), (0, .ref (G.2.1 7))]) hx hb d_Mo_lookAtCorners_28 rfl hl (by decide) rfl (fun ls hl => ?_)
      exact w_Mo_lookAtCorners_29 C N (0 : Int32) μ24 _ _ _ hw (lv_sub hl [1, 0] rfl) h
    · have h := ifn c6 h
      refine lv_aload_n hx hb d_Mo_lookAtCorners_9 rfl (lv_at hl 0 rfl) ?_
      refine va_get (D := G.1) (ci := 7) (v := .ref (G.2.1 16)) (C := "RecipePlansModel") (T := T_Mo) (N := 24) hx hb hts (fun _ h9 => List.mem_cons_of_mem _ (inT_Mo _ h9)) hown hK hw.1 7 (WL_get (by decide)) rfl 23 (by decide) (hts _ (List.mem_cons_of_mem _ tw_476)) (fun _ h9 => h9) rfl d_Mo_lookAtCorners_10 ?_
      refine lv_iload_n hx hb d_Mo_lookAtCorners_13 rfl (lv_at hl 1 rfl) ?_
      refine lv_iconst (v := 0) hx hb d_Mo_lookAtCorners_14 (by decide) ?_
      obtain ⟨μ15, hm, h⟩ := bd h
      refine m_bastore hx hb hK hw hm d_Mo_lookAtCorners_15 (fun H locs hw => ?_)
      refine lv_iinc (v := x1 + 1) (lv' := [(1, .int (x1 + 1)), (0, .ref (G.2.1 7))]) hx hb d_Mo_lookAtCorners_16 hl (k := 1) rfl rfl (by decide) rfl (fun ls hl => ?_)
      refine lv_goto (tgt := 2) hx hb d_Mo_lookAtCorners_19 (by decide) ?_
      exact ih (x1 + 1) μ15 _ _ _ hw (lv_sub hl [1, 0] rfl) h
set_option maxRecDepth 100000 in
set_option maxHeartbeats 4000000 in
theorem c_Mo_lookAtCorners (l : Launch) (G : Gw) (N : Nat) (μ : Mem) {μ' : Mem} (h : M_Mo_lookAtCorners N μ = some μ') : CT l y_Mo_lookAtCorners ws_Mo_lookAtCorners rm_Mo_lookAtCorners [.ref (G.2.1 7)] G μ none μ' := by
  refine m_met (cc := prog_9_method_28_code) (maxL := 5) (ret := none) (by decide) rfl (Nat.le_of_ble_eq_true rfl) ?_
  intro p e s m args below meth c ls C hw hl
  obtain ⟨hx, hb, hr, hml, hown, hts, hlk, hK, hSt⟩ := id C
  have hl : lv_has ls 5 [(0, .ref (G.2.1 7))] := hl
  unfold M_Mo_lookAtCorners at h
  refine lv_iconst (v := 0) hx hb d_Mo_lookAtCorners_0 (by decide) ?_
  refine lv_istore_n (lv' := [(1, .int (0 : Int32)), (0, .ref (G.2.1 7))]) hx hb d_Mo_lookAtCorners_1 rfl hl (by decide) rfl (fun ls hl => ?_)
  exact w_Mo_lookAtCorners_2 C N (0 : Int32) μ _ _ _ hw (lv_sub hl [1, 0] rfl) h
set_option maxRecDepth 100000 in
set_option maxHeartbeats 4000000 in
theorem w_Mo_canBeKept_2 {r : Int32} {μ' : Mem} {N : Nat} (C : CxA G p s m args meth c prog_9_method_29_code 3 (some .boolean) "RecipePlansModel" ws_Mo_canBeKept) : ∀ (n : Nat) (x1 : Int32) (x2 : Int32) (μ : Mem) (H : Heap) (locs : List Loc) (ls : Array Slot), Wk G s μ H locs → lv_has ls 3 [(0, .ref (G.2.1 7)), (1, .int x1), (2, .int x2)] → M_Mo_canBeKept_2 N n x1 x2 μ = some (r, μ') → WA G rm_Mo_canBeKept p l e s m args below meth c (some (.int r)) μ' H locs 2 ls [] := by
  obtain ⟨hx, hb, hr, hml, hown, hts, hlk, hK, hSt⟩ := id C
  intro n
  induction n with
  | zero =>
    intro x1 x2 μ H locs ls hw hl h
    rw [M_Mo_canBeKept_2] at h
    cases h
  | succ n ih =>
    intro x1 x2 μ H locs ls hw hl h
    rw [M_Mo_canBeKept_2] at h
    refine lv_iload_n hx hb d_Mo_canBeKept_2 rfl (lv_at hl 2 rfl) ?_
    refine lv_sipush (v := 256) hx hb d_Mo_canBeKept_3 (by decide) ?_
    refine lv_icmp_ge (tgt := 33) hx hb d_Mo_canBeKept_6 (by decide) (fun c6 => ?_) (fun c6 => ?_)
    · have h := ifp c6 h
      refine lv_iconst (v := 0) hx hb d_Mo_canBeKept_33 (by decide) ?_
      exact m_zret hx hb hr hlk hw h d_Mo_canBeKept_34
    · have h := ifn c6 h
      refine lv_aload_n hx hb d_Mo_canBeKept_9 rfl (lv_at hl 0 rfl) ?_
      refine va_get (D := G.1) (ci := 7) (v := .ref (G.2.1 16)) (C := "RecipePlansModel") (T := T_Mo) (N := 24) hx hb hts (fun _ h9 => List.mem_cons_of_mem _ (inT_Mo _ h9)) hown hK hw.1 7 (WL_get (by decide)) rfl 23 (by decide) (hts _ (List.mem_cons_of_mem _ tw_476)) (fun _ h9 => h9) rfl d_Mo_canBeKept_10 ?_
      refine lv_iload_n hx hb d_Mo_canBeKept_13 rfl (lv_at hl 2 rfl) ?_
      obtain ⟨v14, hv, h⟩ := bd h
      refine m_baload hx hb hK hw hv d_Mo_canBeKept_14 ?_
      refine lv_if_eq (tgt := 27) hx hb d_Mo_canBeKept_15 (by decide) (fun c15 => ?_) (fun c15 => ?_)
      · have h := ifp c15 h
        refine lv_iinc (v := x2 + 1) (lv' := [(2, .int (x2 + 1)), (0, .ref (G.2.1 7)), (1, .int x1)]) hx hb d_Mo_canBeKept_27 hl (k := 2) rfl rfl (by decide) rfl (fun ls hl => ?_)
        refine lv_goto (tgt := 2) hx hb d_Mo_canBeKept_30 (by decide) ?_
        exact ih x1 (x2 + 1) μ _ _ _ hw (lv_sub hl [1, 2, 0] rfl) h
      · have h := ifn c15 h
        refine lv_iload_n hx hb d_Mo_canBeKept_18 rfl (lv_at hl 2 rfl) ?_
        refine lv_iload_n hx hb d_Mo_canBeKept_19 rfl (lv_at hl 1 rfl) ?_
        refine lv_iand hx hb d_Mo_canBeKept_20 ?_
        refine lv_iload_n hx hb d_Mo_canBeKept_21 rfl (lv_at hl 1 rfl) ?_
        refine lv_icmp_ne (tgt := 27) hx hb d_Mo_canBeKept_22 (by decide) (fun c22 => ?_) (fun c22 => ?_)
        · have h := ifn c22 h
          refine lv_iinc (v := x2 + 1) (lv' := [(2, .int (x2 + 1)), (0, .ref (G.2.1 7)), (1, .int x1)]) hx hb d_Mo_canBeKept_27 hl (k := 2) rfl rfl (by decide) rfl (fun ls hl => ?_)
          refine lv_goto (tgt := 2) hx hb d_Mo_canBeKept_30 (by decide) ?_
          exact ih x1 (x2 + 1) μ _ _ _ hw (lv_sub hl [1, 2, 0] rfl) h
        · have h := ifp c22 h
          refine lv_iconst (v := 1) hx hb d_Mo_canBeKept_25 (by decide) ?_
          exact m_zret hx hb hr hlk hw h d_Mo_canBeKept_26
set_option maxRecDepth 100000 in
set_option maxHeartbeats 4000000 in
theorem c_Mo_canBeKept (l : Launch) (G : Gw) (N : Nat) (x1 : Int32) (μ : Mem) {r : Int32} {μ' : Mem} (h : M_Mo_canBeKept N x1 μ = some (r, μ')) : CT l y_Mo_canBeKept ws_Mo_canBeKept rm_Mo_canBeKept [.ref (G.2.1 7), .int x1] G μ (some (.int r)) μ' := by
  refine m_met (cc := prog_9_method_29_code) (maxL := 3) (ret := (some .boolean)) (by decide) rfl (Nat.le_of_ble_eq_true rfl) ?_
  intro p e s m args below meth c ls C hw hl
  obtain ⟨hx, hb, hr, hml, hown, hts, hlk, hK, hSt⟩ := id C
  have hl : lv_has ls 3 [(0, .ref (G.2.1 7)), (1, .int x1)] := hl
  unfold M_Mo_canBeKept at h
  refine lv_iconst (v := 0) hx hb d_Mo_canBeKept_0 (by decide) ?_
  refine lv_istore_n (lv' := [(2, .int (0 : Int32)), (0, .ref (G.2.1 7)), (1, .int x1)]) hx hb d_Mo_canBeKept_1 rfl hl (by decide) rfl (fun ls hl => ?_)
  exact w_Mo_canBeKept_2 C N x1 (0 : Int32) μ _ _ _ hw (lv_sub hl [1, 2, 0] rfl) h
set_option maxRecDepth 100000 in
set_option maxHeartbeats 4000000 in
theorem w_Mo_sizeOf_4 {r : Int32} {N : Nat} (C : CxP p s m args meth c prog_9_method_30_code 3 (some .int) "RecipePlansModel" ws_Mo_sizeOf) : ∀ (n : Nat) (x0 : Int32) (x1 : Int32) (x2 : Int32) (ls : Array Slot), lv_has ls 3 [(0, .int x0), (1, .int x1), (2, .int x2)] → M_Mo_sizeOf_4 N n x0 x1 x2 = some r → WP rm_Mo_sizeOf p l e s m args below meth c (.int r) 4 ls [] := by
  obtain ⟨hx, hb, hr, hml, hown, hts, hlk⟩ := id C
  intro n
  induction n with
  | zero =>
    intro x0 x1 x2 ls hl h
    rw [M_Mo_sizeOf_4] at h
    cases h
  | succ n ih =>
    intro x0 x1 x2 ls hl h
    rw [M_Mo_sizeOf_4] at h
    refine lv_iload_n hx hb d_Mo_sizeOf_4 rfl (lv_at hl 2 rfl) ?_
    refine lv_bipush (v := 8) hx hb d_Mo_sizeOf_5 (by decide) ?_
    refine lv_icmp_ge (tgt := 24) hx hb d_Mo_sizeOf_7 (by decide) (fun c7 => ?_) (fun c7 => ?_)
    · have h := ifp c7 h
      refine lv_iload_n hx hb d_Mo_sizeOf_24 rfl (lv_at hl 1 rfl) ?_
      exact m_piret hx hb hr hlk h d_Mo_sizeOf_25
    · have h := ifn c7 h
      refine lv_iload_n hx hb d_Mo_sizeOf_10 rfl (lv_at hl 1 rfl) ?_
      refine lv_iload_n hx hb d_Mo_sizeOf_11 rfl (lv_at hl 0 rfl) ?_
      refine lv_iload_n hx hb d_Mo_sizeOf_12 rfl (lv_at hl 2 rfl) ?_
      refine lv_ishr hx hb d_Mo_sizeOf_13 ?_
      refine lv_iconst (v := 1) hx hb d_Mo_sizeOf_14 (by decide) ?_
      refine lv_iand hx hb d_Mo_sizeOf_15 ?_
      refine lv_iadd hx hb d_Mo_sizeOf_16 ?_
      obtain ⟨x1_17, ex1_17, h⟩ := nmx h
      refine m_eqi ex1_17 ?_
      refine lv_istore_n (lv' := [(1, .int x1_17), (0, .int x0), (2, .int x2)]) hx hb d_Mo_sizeOf_17 rfl hl (by decide) rfl (fun ls hl => ?_)
      refine lv_iinc (v := x2 + 1) (lv' := [(2, .int (x2 + 1)), (1, .int x1_17), (0, .int x0)]) hx hb d_Mo_sizeOf_18 hl (k := 2) rfl rfl (by decide) rfl (fun ls hl => ?_)
      refine lv_goto (tgt := 4) hx hb d_Mo_sizeOf_21 (by decide) ?_
      exact ih x0 x1_17 (x2 + 1) _ (lv_sub hl [2, 1, 0] rfl) h
set_option maxRecDepth 100000 in
set_option maxHeartbeats 4000000 in
theorem c_Mo_sizeOf (l : Launch) (N : Nat) (x0 : Int32) {r : Int32} (h : M_Mo_sizeOf N x0 = some r) : CTp l y_Mo_sizeOf ws_Mo_sizeOf rm_Mo_sizeOf [.int x0] (.int r) := by
  refine m_metP (cc := prog_9_method_30_code) (maxL := 3) (ret := (some .int)) (by decide +kernel) rfl (Nat.le_of_ble_eq_true rfl) ?_
  intro p e s m args below meth c ls C hl
  obtain ⟨hx, hb, hr, hml, hown, hts, hlk⟩ := id C
  have hl : lv_has ls 3 [(0, .int x0)] := hl
  unfold M_Mo_sizeOf at h
  refine lv_iconst (v := 0) hx hb d_Mo_sizeOf_0 (by decide) ?_
  refine lv_istore_n (lv' := [(1, .int (0 : Int32)), (0, .int x0)]) hx hb d_Mo_sizeOf_1 rfl hl (by decide) rfl (fun ls hl => ?_)
  refine lv_iconst (v := 0) hx hb d_Mo_sizeOf_2 (by decide) ?_
  refine lv_istore_n (lv' := [(2, .int (0 : Int32)), (1, .int (0 : Int32)), (0, .int x0)]) hx hb d_Mo_sizeOf_3 rfl hl (by decide) rfl (fun ls hl => ?_)
  exact w_Mo_sizeOf_4 C N x0 (0 : Int32) (0 : Int32) _ (lv_sub hl [2, 1, 0] rfl) h
set_option maxRecDepth 100000 in
set_option maxHeartbeats 4000000 in
theorem w_Mo_findClash_45 {μ' : Mem} {N : Nat} (C : CxA G p s m args meth c prog_9_method_31_code 4 none "RecipePlansModel" ws_Mo_findClash) : ∀ (n : Nat) (x1 : Int32) (x2 : Int32) (x3 : Int32) (μ : Mem) (H : Heap) (locs : List Loc) (ls : Array Slot), Wk G s μ H locs → lv_has ls 4 [(0, .ref (G.2.1 7)), (1, .int x1), (2, .int x2), (3, .int x3)] → M_Mo_findClash_45 N n x1 x2 x3 μ = some μ' → WA G rm_Mo_findClash p l e s m args below meth c none μ' H locs 45 ls [] := by
  obtain ⟨hx, hb, hr, hml, hown, hts, hlk, hK, hSt⟩ := id C
  intro n
  induction n with
  | zero =>
    intro x1 x2 x3 μ H locs ls hw hl h
    rw [M_Mo_findClash_45] at h
    cases h
  | succ n ih =>
    intro x1 x2 x3 μ H locs ls hw hl h
    rw [M_Mo_findClash_45] at h
    refine lv_iload_n hx hb d_Mo_findClash_45 rfl (lv_at hl 3 rfl) ?_
    refine lv_sipush (v := 256) hx hb d_Mo_findClash_46 (by decide) ?_
    refine lv_icmp_ge (tgt := 91) hx hb d_Mo_findClash_49 (by decide) (fun c49 => ?_) (fun c49 => ?_)
    · have h := ifp c49 h
      exact m_vret hx hb hr hlk hw h d_Mo_findClash_91
    · have h := ifn c49 h
      refine lv_iload_n hx hb d_Mo_findClash_52 rfl (lv_at hl 3 rfl) ?_
      refine lv_iload_n hx hb d_Mo_findClash_53 rfl (lv_at hl 2 rfl) ?_
      refine lv_iand hx hb d_Mo_findClash_54 ?_
      refine lv_iload_n hx hb d_Mo_findClash_55 rfl (lv_at hl 3 rfl) ?_
      refine lv_icmp_ne (tgt := 85) hx hb d_Mo_findClash_56 (by decide) (fun c56 => ?_) (fun c56 => ?_)
      · have h := ifn c56 h
        refine lv_iinc (v := x3 + 1) (lv' := [(3, .int (x3 + 1)), (0, .ref (G.2.1 7)), (1, .int x1), (2, .int x2)]) hx hb d_Mo_findClash_85 hl (k := 3) rfl rfl (by decide) rfl (fun ls hl => ?_)
        refine lv_goto (tgt := 45) hx hb d_Mo_findClash_88 (by decide) ?_
        exact ih x1 x2 (x3 + 1) μ _ _ _ hw (lv_sub hl [1, 2, 3, 0] rfl) h
      · have h := ifp c56 h
        refine lv_iload_n hx hb d_Mo_findClash_59 rfl (lv_at hl 3 rfl) ?_
        obtain ⟨r60, hq, h⟩ := bd h
        refine m_pcall (r := .int r60) (W.runS (As := [.int x3]) (rest := []) ⟨hx, hb, hml, hown, hts⟩ (c_Mo_sizeOf l N x3 hq) (va_cwS 1 hts (gdS tw_602 tw_603 tw_41 tw_604) rfl rfl rfl (by decide +kernel) ⟨Nat.le_of_ble_eq_true rfl, Nat.le_of_ble_eq_true rfl⟩) preEq rfl rfl hl.1 rfl (lv_room (Nat.le_of_ble_eq_true rfl)) d_Mo_findClash_60 ⟨Nat.zero_le _, Nat.zero_le _⟩) ?_
        refine lv_iload_n hx hb d_Mo_findClash_63 rfl (lv_at hl 1 rfl) ?_
        refine lv_icmp_ge (tgt := 85) hx hb d_Mo_findClash_64 (by decide) (fun c64 => ?_) (fun c64 => ?_)
        · have h := ifp c64 h
          refine lv_iinc (v := x3 + 1) (lv' := [(3, .int (x3 + 1)), (0, .ref (G.2.1 7)), (1, .int x1), (2, .int x2)]) hx hb d_Mo_findClash_85 hl (k := 3) rfl rfl (by decide) rfl (fun ls hl => ?_)
          refine lv_goto (tgt := 45) hx hb d_Mo_findClash_88 (by decide) ?_
          exact ih x1 x2 (x3 + 1) μ _ _ _ hw (lv_sub hl [1, 2, 3, 0] rfl) h
        · have h := ifn c64 h
          refine lv_aload_n hx hb d_Mo_findClash_67 rfl (lv_at hl 0 rfl) ?_
          refine lv_iload_n hx hb d_Mo_findClash_68 rfl (lv_at hl 3 rfl) ?_
          obtain ⟨r69, μ69, hq, h⟩ := bd2 h
          refine m_call (r := some (.int r69)) (μ1 := μ69) (va_runV (C := "RecipePlansModel") (As := [.int x3]) (rest := []) ⟨hx, hb, hml, hown, hts⟩ (c_Mo_canBeKept l G N x3 μ hq _) (cwV 1 hts (gdV tw_605 tw_606 tw_32 tw_41 tw_607) rfl rfl rfl (by decide +kernel) ⟨Nat.le_of_ble_eq_true rfl, Nat.le_of_ble_eq_true rfl⟩) (m_preV (k := 7) (by decide) rfl hK hSt hw) rfl rfl hl.1 rfl (lv_room (Nat.le_of_ble_eq_true rfl)) d_Mo_findClash_69 ⟨Nat.zero_le _, Nat.zero_le _⟩) hw (fun H locs hw => ?_)
          refine lv_if_ne (tgt := 85) hx hb d_Mo_findClash_72 (by decide) (fun c72 => ?_) (fun c72 => ?_)
          · have h := ifn c72 h
            refine lv_iinc (v := x3 + 1) (lv' := [(3, .int (x3 + 1)), (0, .ref (G.2.1 7)), (1, .int x1), (2, .int x2)]) hx hb d_Mo_findClash_85 hl (k := 3) rfl rfl (by decide) rfl (fun ls hl => ?_)
            refine lv_goto (tgt := 45) hx hb d_Mo_findClash_88 (by decide) ?_
            exact ih x1 x2 (x3 + 1) μ69 _ _ _ hw (lv_sub hl [1, 2, 3, 0] rfl) h
          · have h := ifp c72 h
            refine lv_aload_n hx hb d_Mo_findClash_75 rfl (lv_at hl 0 rfl) ?_
            refine lv_iload_n hx hb d_Mo_findClash_76 rfl (lv_at hl 3 rfl) ?_
            obtain ⟨μ77, hm, h⟩ := bd h
            refine va_put (D := G.1) (ci := 7) (v := .int x3) (ty := .int) (C := "RecipePlansModel") (T := T_Mo) (N := 24) hx hb hts (fun _ h9 => List.mem_cons_of_mem _ (inT_Mo _ h9)) ty_Mo tyok_Mo nm_Mo hown hK hw.1 hw.2.1 hw.2.2 7 (WL_get (by decide)) rfl 16 (by decide) (hts _ (List.mem_cons_of_mem _ tw_469)) (fun _ h9 => h9) rfl (by decide +kernel) rfl rfl (Nat.le_of_ble_eq_true rfl) d_Mo_findClash_77 (fun H locs hP hD hS => ?_)
            have hw := wk_pI hm (by decide) (by rfl) hP hD hS
            refine lv_iload_n hx hb d_Mo_findClash_80 rfl (lv_at hl 3 rfl) ?_
            obtain ⟨r81, hq, h⟩ := bd h
            refine m_pcall (r := .int r81) (W.runS (As := [.int x3]) (rest := []) ⟨hx, hb, hml, hown, hts⟩ (c_Mo_sizeOf l N x3 hq) (va_cwS 1 hts (gdS tw_602 tw_603 tw_41 tw_604) rfl rfl rfl (by decide +kernel) ⟨Nat.le_of_ble_eq_true rfl, Nat.le_of_ble_eq_true rfl⟩) preEq rfl rfl hl.1 rfl (lv_room (Nat.le_of_ble_eq_true rfl)) d_Mo_findClash_81 ⟨Nat.zero_le _, Nat.zero_le _⟩) ?_
            refine lv_istore_n (lv' := [(1, .int r81), (0, .ref (G.2.1 7)), (2, .int x2), (3, .int x3)]) hx hb d_Mo_findClash_84 rfl hl (by decide) rfl (fun ls hl => ?_)
            refine lv_iinc (v := x3 + 1) (lv' := [(3, .int (x3 + 1)), (1, .int r81), (0, .ref (G.2.1 7)), (2, .int x2)]) hx hb d_Mo_findClash_85 hl (k := 3) rfl rfl (by decide) rfl (fun ls hl => ?_)
            refine lv_goto (tgt := 45) hx hb d_Mo_findClash_88 (by decide) ?_
            exact ih r81 x2 (x3 + 1) μ77 _ _ _ hw (lv_sub hl [2, 1, 3, 0] rfl) h
set_option maxRecDepth 100000 in
set_option maxHeartbeats 4000000 in
theorem w_Mo_findClash_35 {μ' : Mem} {N : Nat} (C : CxA G p s m args meth c prog_9_method_31_code 4 none "RecipePlansModel" ws_Mo_findClash) {K12 : Int32 → Int32 → Int32 → Mem → Option Mem} (hK12 : ∀ (x1 : Int32) (x2 : Int32) (x3 : Int32) (μ : Mem) (H : Heap) (locs : List Loc) (ls : Array Slot), Wk G s μ H locs → lv_has ls 4 [(0, .ref (G.2.1 7)), (1, .int x1), (2, .int x2), (3, .int x3)] → K12 x1 x2 x3 μ = some μ' → WA G rm_Mo_findClash p l e s m args below meth c none μ' H locs 12 ls []) : ∀ (x1 : Int32) (x3 : Int32) (y0 : Int32) (y1 : Int32) (μ : Mem) (H : Heap) (locs : List Loc) (ls : Array Slot), Wk G s μ H locs → lv_has ls 4 [(0, .ref (G.2.1 7)), (1, .int x1), (3, .int x3)] → M_Mo_findClash_35 N K12 x1 x3 y0 y1 μ = some μ' → WA G rm_Mo_findClash p l e s m args below meth c none μ' H locs 35 ls [.int y1, .int y0] := by
  obtain ⟨hx, hb, hr, hml, hown, hts, hlk, hK, hSt⟩ := id C
  intro x1 x3 y0 y1 μ H locs ls hw hl h
  unfold M_Mo_findClash_35 at h
  refine lv_ior hx hb d_Mo_findClash_35 ?_
  obtain ⟨x2_36, ex2_36, h⟩ := nmx h
  refine m_eqi ex2_36 ?_
  refine lv_istore_n (lv' := [(2, .int x2_36), (0, .ref (G.2.1 7)), (1, .int x1), (3, .int x3)]) hx hb d_Mo_findClash_36 rfl hl (by decide) rfl (fun ls hl => ?_)
  refine lv_iinc (v := x3 + 1) (lv' := [(3, .int (x3 + 1)), (2, .int x2_36), (0, .ref (G.2.1 7)), (1, .int x1)]) hx hb d_Mo_findClash_37 hl (k := 3) rfl rfl (by decide) rfl (fun ls hl => ?_)
  refine lv_goto (tgt := 12) hx hb d_Mo_findClash_40 (by decide) ?_
  exact hK12 x1 x2_36 (x3 + 1) μ _ _ _ hw (lv_sub hl [2, 3, 1, 0] rfl) h
set_option maxRecDepth 100000 in
set_option maxHeartbeats 4000000 in
theorem w_Mo_findClash_12 {μ' : Mem} {N : Nat} (C : CxA G p s m args meth c prog_9_method_31_code 4 none "RecipePlansModel" ws_Mo_findClash) : ∀ (n : Nat) (x1 : Int32) (x2 : Int32) (x3 : Int32) (μ : Mem) (H : Heap) (locs : List Loc) (ls : Array Slot), Wk G s μ H locs → lv_has ls 4 [(0, .ref (G.2.1 7)), (1, .int x1), (2, .int x2), (3, .int x3)] → M_Mo_findClash_12 N n x1 x2 x3 μ = some μ' → WA G rm_Mo_findClash p l e s m args below meth c none μ' H locs 12 ls [] := by
  obtain ⟨hx, hb, hr, hml, hown, hts, hlk, hK, hSt⟩ := id C
  intro n
  induction n with
  | zero =>
    intro x1 x2 x3 μ H locs ls hw hl h
    rw [M_Mo_findClash_12] at h
    cases h
  | succ n ih =>
    intro x1 x2 x3 μ H locs ls hw hl h
    rw [M_Mo_findClash_12] at h
    refine lv_iload_n hx hb d_Mo_findClash_12 rfl (lv_at hl 3 rfl) ?_
    refine lv_bipush (v := 8) hx hb d_Mo_findClash_13 (by decide) ?_
    refine lv_icmp_ge (tgt := 43) hx hb d_Mo_findClash_15 (by decide) (fun c15 => ?_) (fun c15 => ?_)
    · have h := ifp c15 h
      refine lv_iconst (v := 1) hx hb d_Mo_findClash_43 (by decide) ?_
      refine lv_istore_n (lv' := [(3, .int (1 : Int32)), (0, .ref (G.2.1 7)), (1, .int x1), (2, .int x2)]) hx hb d_Mo_findClash_44 rfl hl (by decide) rfl (fun ls hl => ?_)
      exact w_Mo_findClash_45 C N x1 x2 (1 : Int32) μ _ _ _ hw (lv_sub hl [1, 2, 3, 0] rfl) h
    · have h := ifn c15 h
      refine lv_iload_n hx hb d_Mo_findClash_18 rfl (lv_at hl 2 rfl) ?_
      refine lv_aload_n hx hb d_Mo_findClash_19 rfl (lv_at hl 0 rfl) ?_
      refine va_get (D := G.1) (ci := 7) (v := .ref (G.2.1 14)) (C := "RecipePlansModel") (T := T_Mo) (N := 24) hx hb hts (fun _ h9 => List.mem_cons_of_mem _ (inT_Mo _ h9)) hown hK hw.1 7 (WL_get (by decide)) rfl 4 (by decide) (hts _ (List.mem_cons_of_mem _ tw_457)) (fun _ h9 => h9) rfl d_Mo_findClash_20 ?_
      refine lv_iload_n hx hb d_Mo_findClash_23 rfl (lv_at hl 3 rfl) ?_
      obtain ⟨v24, hv, h⟩ := bd h
      refine m_baload hx hb hK hw hv d_Mo_findClash_24 ?_
      refine lv_if_eq (tgt := 34) hx hb d_Mo_findClash_25 (by decide) (fun c25 => ?_) (fun c25 => ?_)
      · have h := ifp c25 h
        refine lv_iconst (v := 0) hx hb d_Mo_findClash_34 (by decide) ?_
        exact w_Mo_findClash_35 C ih x1 x3 x2 (0 : Int32) μ _ _ _ hw (lv_sub hl [0, 1, 3] rfl) h
      · have h := ifn c25 h
        refine lv_iconst (v := 1) hx hb d_Mo_findClash_28 (by decide) ?_
        refine lv_iload_n hx hb d_Mo_findClash_29 rfl (lv_at hl 3 rfl) ?_
        refine lv_ishl hx hb d_Mo_findClash_30 ?_
        refine lv_goto (tgt := 35) hx hb d_Mo_findClash_31 (by decide) ?_
        exact w_Mo_findClash_35 C ih x1 x3 x2 ((1 : Int32) <<< (x3 &&& 31)) μ _ _ _ hw (lv_sub hl [0, 1, 3] rfl) h
set_option maxRecDepth 100000 in
set_option maxHeartbeats 4000000 in
theorem c_Mo_findClash (l : Launch) (G : Gw) (N : Nat) (μ : Mem) {μ' : Mem} (h : M_Mo_findClash N μ = some μ') : CT l y_Mo_findClash ws_Mo_findClash rm_Mo_findClash [.ref (G.2.1 7)] G μ none μ' := by
  refine m_met (cc := prog_9_method_31_code) (maxL := 4) (ret := none) (by decide) rfl (Nat.le_of_ble_eq_true rfl) ?_
  intro p e s m args below meth c ls C hw hl
  obtain ⟨hx, hb, hr, hml, hown, hts, hlk, hK, hSt⟩ := id C
  have hl : lv_has ls 4 [(0, .ref (G.2.1 7))] := hl
  unfold M_Mo_findClash at h
  refine lv_aload_n hx hb d_Mo_findClash_0 rfl (lv_at hl 0 rfl) ?_
  refine lv_iconst (v := 0) hx hb d_Mo_findClash_1 (by decide) ?_
  obtain ⟨μ2, hm, h⟩ := bd h
  refine va_put (D := G.1) (ci := 7) (v := .int (0 : Int32)) (ty := .int) (C := "RecipePlansModel") (T := T_Mo) (N := 24) hx hb hts (fun _ h9 => List.mem_cons_of_mem _ (inT_Mo _ h9)) ty_Mo tyok_Mo nm_Mo hown hK hw.1 hw.2.1 hw.2.2 7 (WL_get (by decide)) rfl 16 (by decide) (hts _ (List.mem_cons_of_mem _ tw_469)) (fun _ h9 => h9) rfl (by decide +kernel) rfl rfl (Nat.le_of_ble_eq_true rfl) d_Mo_findClash_2 (fun H locs hP hD hS => ?_)
  have hw := wk_pI hm (by decide) (by rfl) hP hD hS
  refine lv_bipush (v := 9) hx hb d_Mo_findClash_5 (by decide) ?_
  refine lv_istore_n (lv' := [(1, .int (9 : Int32)), (0, .ref (G.2.1 7))]) hx hb d_Mo_findClash_7 rfl hl (by decide) rfl (fun ls hl => ?_)
  refine lv_iconst (v := 0) hx hb d_Mo_findClash_8 (by decide) ?_
  refine lv_istore_n (lv' := [(2, .int (0 : Int32)), (1, .int (9 : Int32)), (0, .ref (G.2.1 7))]) hx hb d_Mo_findClash_9 rfl hl (by decide) rfl (fun ls hl => ?_)
  refine lv_iconst (v := 0) hx hb d_Mo_findClash_10 (by decide) ?_
  refine lv_istore_n (lv' := [(3, .int (0 : Int32)), (2, .int (0 : Int32)), (1, .int (9 : Int32)), (0, .ref (G.2.1 7))]) hx hb d_Mo_findClash_11 rfl hl (by decide) rfl (fun ls hl => ?_)
  exact w_Mo_findClash_12 C N (9 : Int32) (0 : Int32) (0 : Int32) μ2 _ _ _ hw (lv_sub hl [3, 2, 1, 0] rfl) h
set_option maxRecDepth 100000 in
set_option maxHeartbeats 4000000 in
theorem w_Mo_run_64 {r : Int32} {μ' : Mem} {N : Nat} (C : CxA G p s m args meth c prog_9_method_32_code 2 (some .int) "RecipePlansModel" ws_Mo_run) : ∀ (μ : Mem) (H : Heap) (locs : List Loc) (ls : Array Slot), Wk G s μ H locs → lv_has ls 2 [(0, .ref (G.2.1 7))] → M_Mo_run_64 N μ = some (r, μ') → WA G rm_Mo_run p l e s m args below meth c (some (.int r)) μ' H locs 64 ls [] := by
  obtain ⟨hx, hb, hr, hml, hown, hts, hlk, hK, hSt⟩ := id C
  intro  μ H locs ls hw hl h
  unfold M_Mo_run_64 at h
  refine lv_aload_n hx hb d_Mo_run_64 rfl (lv_at hl 0 rfl) ?_
  refine va_get (D := G.1) (ci := 7) (v := .int (μ.1 7 10)) (C := "RecipePlansModel") (T := T_Mo) (N := 24) hx hb hts (fun _ h9 => List.mem_cons_of_mem _ (inT_Mo _ h9)) hown hK hw.1 7 (WL_get (by decide)) rfl 10 (by decide) (hts _ (List.mem_cons_of_mem _ tw_463)) (fun _ h9 => h9) rfl d_Mo_run_65 ?_
  exact m_iret hx hb hr hlk hw h d_Mo_run_68
set_option maxRecDepth 100000 in
set_option maxHeartbeats 4000000 in
theorem c_Mo_run (l : Launch) (G : Gw) (N : Nat) (μ : Mem) {r : Int32} {μ' : Mem} (h : M_Mo_run N μ = some (r, μ')) : CT l y_Mo_run ws_Mo_run rm_Mo_run [.ref (G.2.1 7)] G μ (some (.int r)) μ' := by
  refine m_met (cc := prog_9_method_32_code) (maxL := 2) (ret := (some .int)) (by decide) rfl (Nat.le_of_ble_eq_true rfl) ?_
  intro p e s m args below meth c ls C hw hl
  obtain ⟨hx, hb, hr, hml, hown, hts, hlk, hK, hSt⟩ := id C
  have hl : lv_has ls 2 [(0, .ref (G.2.1 7))] := hl
  unfold M_Mo_run at h
  refine lv_aload_n hx hb d_Mo_run_0 rfl (lv_at hl 0 rfl) ?_
  obtain ⟨r1, μ1, hq, h⟩ := bd2 h
  refine m_call (r := some (.int r1)) (μ1 := μ1) (va_runV (C := "RecipePlansModel") (As := []) (rest := []) ⟨hx, hb, hml, hown, hts⟩ (c_Mo_findWhole l G N μ hq _) (cwV 0 hts (gdV tw_559 tw_560 tw_20 tw_41 tw_561) rfl rfl rfl (by decide +kernel) ⟨Nat.le_of_ble_eq_true rfl, Nat.le_of_ble_eq_true rfl⟩) (m_preV (k := 7) (by decide) rfl hK hSt hw) rfl rfl hl.1 rfl (lv_room (Nat.le_of_ble_eq_true rfl)) d_Mo_run_1 ⟨Nat.zero_le _, Nat.zero_le _⟩) hw (fun H locs hw => ?_)
  refine lv_istore_n (lv' := [(1, .int r1), (0, .ref (G.2.1 7))]) hx hb d_Mo_run_4 rfl hl (by decide) rfl (fun ls hl => ?_)
  refine lv_aload_n hx hb d_Mo_run_5 rfl (lv_at hl 1 rfl) ?_
  obtain ⟨μ6, hq, h⟩ := bd h
  refine m_call (r := none) (μ1 := μ6) (va_runV (C := "RecipePlansModel") (As := []) (rest := []) ⟨hx, hb, hml, hown, hts⟩ (c_Mo_setLimits l G N μ1 hq _) (cwV 0 hts (gdV tw_562 tw_563 tw_21 tw_41 tw_564) rfl rfl rfl (by decide +kernel) ⟨Nat.le_of_ble_eq_true rfl, Nat.le_of_ble_eq_true rfl⟩) (m_preV (k := 7) (by decide) rfl hK hSt hw) rfl rfl hl.1 rfl (lv_room (Nat.le_of_ble_eq_true rfl)) d_Mo_run_6 ⟨Nat.zero_le _, Nat.zero_le _⟩) hw (fun H locs hw => ?_)
  refine lv_aload_n hx hb d_Mo_run_9 rfl (lv_at hl 1 rfl) ?_
  obtain ⟨μ10, hq, h⟩ := bd h
  refine m_call (r := none) (μ1 := μ10) (va_runV (C := "RecipePlansModel") (As := []) (rest := []) ⟨hx, hb, hml, hown, hts⟩ (c_Mo_lookAtCorners l G N μ6 hq _) (cwV 0 hts (gdV tw_568 tw_569 tw_23 tw_41 tw_570) rfl rfl rfl (by decide +kernel) ⟨Nat.le_of_ble_eq_true rfl, Nat.le_of_ble_eq_true rfl⟩) (m_preV (k := 7) (by decide) rfl hK hSt hw) rfl rfl hl.1 rfl (lv_room (Nat.le_of_ble_eq_true rfl)) d_Mo_run_10 ⟨Nat.zero_le _, Nat.zero_le _⟩) hw (fun H locs hw => ?_)
  refine lv_aload_n hx hb d_Mo_run_13 rfl (lv_at hl 1 rfl) ?_
  refine lv_aload_n hx hb d_Mo_run_14 rfl (lv_at hl 1 rfl) ?_
  refine va_get (D := G.1) (ci := 7) (v := .int (μ10.1 7 0)) (C := "RecipePlansModel") (T := T_Mo) (N := 24) hx hb hts (fun _ h9 => List.mem_cons_of_mem _ (inT_Mo _ h9)) hown hK hw.1 7 (WL_get (by decide)) rfl 0 (by decide) (hts _ (List.mem_cons_of_mem _ tw_453)) (fun _ h9 => h9) rfl d_Mo_run_15 ?_
  obtain ⟨μ18, hm, h⟩ := bd h
  refine va_put (D := G.1) (ci := 7) (v := .int (μ10.1 7 0)) (ty := .int) (C := "RecipePlansModel") (T := T_Mo) (N := 24) hx hb hts (fun _ h9 => List.mem_cons_of_mem _ (inT_Mo _ h9)) ty_Mo tyok_Mo nm_Mo hown hK hw.1 hw.2.1 hw.2.2 7 (WL_get (by decide)) rfl 11 (by decide) (hts _ (List.mem_cons_of_mem _ tw_464)) (fun _ h9 => h9) rfl (by decide +kernel) rfl rfl (Nat.le_of_ble_eq_true rfl) d_Mo_run_18 (fun H locs hP hD hS => ?_)
  have hw := wk_pI hm (by decide) (by rfl) hP hD hS
  refine lv_aload_n hx hb d_Mo_run_21 rfl (lv_at hl 1 rfl) ?_
  refine lv_iconst (v := 0) hx hb d_Mo_run_22 (by decide) ?_
  obtain ⟨μ23, hm, h⟩ := bd h
  refine va_put (D := G.1) (ci := 7) (v := .int (0 : Int32)) (ty := .int) (C := "RecipePlansModel") (T := T_Mo) (N := 24) hx hb hts (fun _ h9 => List.mem_cons_of_mem _ (inT_Mo _ h9)) ty_Mo tyok_Mo nm_Mo hown hK hw.1 hw.2.1 hw.2.2 7 (WL_get (by decide)) rfl 16 (by decide) (hts _ (List.mem_cons_of_mem _ tw_469)) (fun _ h9 => h9) rfl (by decide +kernel) rfl rfl (Nat.le_of_ble_eq_true rfl) d_Mo_run_23 (fun H locs hP hD hS => ?_)
  have hw := wk_pI hm (by decide) (by rfl) hP hD hS
  refine lv_iload_n hx hb d_Mo_run_26 rfl (lv_at hl 0 rfl) ?_
  refine lv_if_eq (tgt := 38) hx hb d_Mo_run_27 (by decide) (fun c27 => ?_) (fun c27 => ?_)
  · have h := ifp c27 h
    refine lv_aload_n hx hb d_Mo_run_38 rfl (lv_at hl 1 rfl) ?_
    refine va_get (D := G.1) (ci := 7) (v := .long (μ23.2 7 15)) (C := "RecipePlansModel") (T := T_Mo) (N := 24) hx hb hts (fun _ h9 => List.mem_cons_of_mem _ (inT_Mo _ h9)) hown hK hw.1 7 (WL_get (by decide)) rfl 15 (by decide) (hts _ (List.mem_cons_of_mem _ tw_468)) (fun _ h9 => h9) rfl d_Mo_run_39 ?_
    refine lv_lconst (v := 0) hx hb d_Mo_run_42 (by decide) ?_
    refine W.lcmp hx hb d_Mo_run_43 ?_
    refine lv_if_le (tgt := 55) hx hb d_Mo_run_44 (by decide) (fun c44 => ?_) (fun c44 => ?_)
    · have h := ifp c44 h
      refine lv_aload_n hx hb d_Mo_run_55 rfl (lv_at hl 1 rfl) ?_
      refine lv_iconst (v := 2) hx hb d_Mo_run_56 (by decide) ?_
      obtain ⟨μ57, hm, h⟩ := bd h
      refine va_put (D := G.1) (ci := 7) (v := .int (2 : Int32)) (ty := .int) (C := "RecipePlansModel") (T := T_Mo) (N := 24) hx hb hts (fun _ h9 => List.mem_cons_of_mem _ (inT_Mo _ h9)) ty_Mo tyok_Mo nm_Mo hown hK hw.1 hw.2.1 hw.2.2 7 (WL_get (by decide)) rfl 10 (by decide) (hts _ (List.mem_cons_of_mem _ tw_463)) (fun _ h9 => h9) rfl (by decide +kernel) rfl rfl (Nat.le_of_ble_eq_true rfl) d_Mo_run_57 (fun H locs hP hD hS => ?_)
      have hw := wk_pI hm (by decide) (by rfl) hP hD hS
      refine lv_aload_n hx hb d_Mo_run_60 rfl (lv_at hl 1 rfl) ?_
      obtain ⟨μ61, hq, h⟩ := bd h
      refine m_call (r := none) (μ1 := μ61) (va_runV (C := "RecipePlansModel") (As := []) (rest := []) ⟨hx, hb, hml, hown, hts⟩ (c_Mo_findClash l G N μ57 hq _) (cwV 0 hts (gdV tw_599 tw_600 tw_31 tw_41 tw_601) rfl rfl rfl (by decide +kernel) ⟨Nat.le_of_ble_eq_true rfl, Nat.le_of_ble_eq_true rfl⟩) (m_preV (k := 7) (by decide) rfl hK hSt hw) rfl rfl hl.1 rfl (lv_room (Nat.le_of_ble_eq_true rfl)) d_Mo_run_61 ⟨Nat.zero_le _, Nat.zero_le _⟩) hw (fun H locs hw => ?_)
      exact w_Mo_run_64 C μ61 _ _ _ hw (lv_sub hl [1] rfl) h
    · have h := ifn c44 h
      refine lv_aload_n hx hb d_Mo_run_47 rfl (lv_at hl 1 rfl) ?_
      refine lv_iconst (v := 1) hx hb d_Mo_run_48 (by decide) ?_
      obtain ⟨μ49, hm, h⟩ := bd h
      refine va_put (D := G.1) (ci := 7) (v := .int (1 : Int32)) (ty := .int) (C := "RecipePlansModel") (T := T_Mo) (N := 24) hx hb hts (fun _ h9 => List.mem_cons_of_mem _ (inT_Mo _ h9)) ty_Mo tyok_Mo nm_Mo hown hK hw.1 hw.2.1 hw.2.2 7 (WL_get (by decide)) rfl 10 (by decide) (hts _ (List.mem_cons_of_mem _ tw_463)) (fun _ h9 => h9) rfl (by decide +kernel) rfl rfl (Nat.le_of_ble_eq_true rfl) d_Mo_run_49 (fun H locs hP hD hS => ?_)
      have hw := wk_pI hm (by decide) (by rfl) hP hD hS
      refine lv_goto (tgt := 64) hx hb d_Mo_run_52 (by decide) ?_
      exact w_Mo_run_64 C μ49 _ _ _ hw (lv_sub hl [1] rfl) h
  · have h := ifn c27 h
    refine lv_aload_n hx hb d_Mo_run_30 rfl (lv_at hl 1 rfl) ?_
    refine lv_iconst (v := 0) hx hb d_Mo_run_31 (by decide) ?_
    obtain ⟨μ32, hm, h⟩ := bd h
    refine va_put (D := G.1) (ci := 7) (v := .int (0 : Int32)) (ty := .int) (C := "RecipePlansModel") (T := T_Mo) (N := 24) hx hb hts (fun _ h9 => List.mem_cons_of_mem _ (inT_Mo _ h9)) ty_Mo tyok_Mo nm_Mo hown hK hw.1 hw.2.1 hw.2.2 7 (WL_get (by decide)) rfl 10 (by decide) (hts _ (List.mem_cons_of_mem _ tw_463)) (fun _ h9 => h9) rfl (by decide +kernel) rfl rfl (Nat.le_of_ble_eq_true rfl) d_Mo_run_32 (fun H locs hP hD hS => ?_)
    have hw := wk_pI hm (by decide) (by rfl) hP hD hS
    refine lv_goto (tgt := 64) hx hb d_Mo_run_35 (by decide) ?_
    exact w_Mo_run_64 C μ32 _ _ _ hw (lv_sub hl [1] rfl) h
set_option maxRecDepth 100000 in
set_option maxHeartbeats 4000000 in
theorem c_Mo_best (l : Launch) (G : Gw) (N : Nat) (x1 : Int32) (μ : Mem) {r : Int32} {μ' : Mem} (h : M_Mo_best N x1 μ = some (r, μ')) : CT l y_Mo_best ws_Mo_best rm_Mo_best [.ref (G.2.1 7), .int x1] G μ (some (.int r)) μ' := by
  refine m_met (cc := prog_9_method_33_code) (maxL := 2) (ret := (some .int)) (by decide) rfl (Nat.le_of_ble_eq_true rfl) ?_
  intro p e s m args below meth c ls C hw hl
  obtain ⟨hx, hb, hr, hml, hown, hts, hlk, hK, hSt⟩ := id C
  have hl : lv_has ls 2 [(0, .ref (G.2.1 7)), (1, .int x1)] := hl
  unfold M_Mo_best at h
  refine lv_aload_n hx hb d_Mo_best_0 rfl (lv_at hl 0 rfl) ?_
  refine va_get (D := G.1) (ci := 7) (v := .int (μ.1 7 10)) (C := "RecipePlansModel") (T := T_Mo) (N := 24) hx hb hts (fun _ h9 => List.mem_cons_of_mem _ (inT_Mo _ h9)) hown hK hw.1 7 (WL_get (by decide)) rfl 10 (by decide) (hts _ (List.mem_cons_of_mem _ tw_463)) (fun _ h9 => h9) rfl d_Mo_best_1 ?_
  refine lv_if_ne (tgt := 28) hx hb d_Mo_best_4 (by decide) (fun c4 => ?_) (fun c4 => ?_)
  · have h := ifn c4 h
    refine lv_iconst (v := -1) hx hb d_Mo_best_28 (by decide) ?_
    exact m_iret hx hb hr hlk hw h d_Mo_best_29
  · have h := ifp c4 h
    refine lv_iload_n hx hb d_Mo_best_7 rfl (lv_at hl 1 rfl) ?_
    refine lv_if_lt (tgt := 28) hx hb d_Mo_best_8 (by decide) (fun c8 => ?_) (fun c8 => ?_)
    · have h := ifp c8 h
      refine lv_iconst (v := -1) hx hb d_Mo_best_28 (by decide) ?_
      exact m_iret hx hb hr hlk hw h d_Mo_best_29
    · have h := ifn c8 h
      refine lv_iload_n hx hb d_Mo_best_11 rfl (lv_at hl 1 rfl) ?_
      refine lv_aload_n hx hb d_Mo_best_12 rfl (lv_at hl 0 rfl) ?_
      refine va_get (D := G.1) (ci := 7) (v := .int (μ.1 7 11)) (C := "RecipePlansModel") (T := T_Mo) (N := 24) hx hb hts (fun _ h9 => List.mem_cons_of_mem _ (inT_Mo _ h9)) hown hK hw.1 7 (WL_get (by decide)) rfl 11 (by decide) (hts _ (List.mem_cons_of_mem _ tw_464)) (fun _ h9 => h9) rfl d_Mo_best_13 ?_
      refine lv_icmp_ge (tgt := 28) hx hb d_Mo_best_16 (by decide) (fun c16 => ?_) (fun c16 => ?_)
      · have h := ifp c16 h
        refine lv_iconst (v := -1) hx hb d_Mo_best_28 (by decide) ?_
        exact m_iret hx hb hr hlk hw h d_Mo_best_29
      · have h := ifn c16 h
        refine lv_aload_n hx hb d_Mo_best_19 rfl (lv_at hl 0 rfl) ?_
        refine va_get (D := G.1) (ci := 7) (v := .ref (G.2.1 36)) (C := "RecipePlansModel") (T := T_Mo) (N := 24) hx hb hts (fun _ h9 => List.mem_cons_of_mem _ (inT_Mo _ h9)) hown hK hw.1 7 (WL_get (by decide)) rfl 12 (by decide) (hts _ (List.mem_cons_of_mem _ tw_465)) (fun _ h9 => h9) rfl d_Mo_best_20 ?_
        refine lv_iload_n hx hb d_Mo_best_23 rfl (lv_at hl 1 rfl) ?_
        obtain ⟨v24, hv, h⟩ := bd h
        refine m_iaload hx hb hK hw hv d_Mo_best_24 ?_
        refine lv_goto (tgt := 29) hx hb d_Mo_best_25 (by decide) ?_
        exact m_iret hx hb hr hlk hw h d_Mo_best_29
set_option maxRecDepth 100000 in
set_option maxHeartbeats 4000000 in
theorem c_Mo_cost (l : Launch) (G : Gw) (N : Nat) (μ : Mem) {r : Int64} {μ' : Mem} (h : M_Mo_cost N μ = some (r, μ')) : CT l y_Mo_cost ws_Mo_cost rm_Mo_cost [.ref (G.2.1 7)] G μ (some (.long r)) μ' := by
  refine m_met (cc := prog_9_method_34_code) (maxL := 1) (ret := (some .long)) (by decide) rfl (Nat.le_of_ble_eq_true rfl) ?_
  intro p e s m args below meth c ls C hw hl
  obtain ⟨hx, hb, hr, hml, hown, hts, hlk, hK, hSt⟩ := id C
  have hl : lv_has ls 1 [(0, .ref (G.2.1 7))] := hl
  unfold M_Mo_cost at h
  refine lv_aload_n hx hb d_Mo_cost_0 rfl (lv_at hl 0 rfl) ?_
  refine va_get (D := G.1) (ci := 7) (v := .int (μ.1 7 10)) (C := "RecipePlansModel") (T := T_Mo) (N := 24) hx hb hts (fun _ h9 => List.mem_cons_of_mem _ (inT_Mo _ h9)) hown hK hw.1 7 (WL_get (by decide)) rfl 10 (by decide) (hts _ (List.mem_cons_of_mem _ tw_463)) (fun _ h9 => h9) rfl d_Mo_cost_1 ?_
  refine lv_if_ne (tgt := 14) hx hb d_Mo_cost_4 (by decide) (fun c4 => ?_) (fun c4 => ?_)
  · have h := ifn c4 h
    refine lv_ldc2 (v := -9223372036854775808) hx hb hown (hts _ (List.mem_cons_of_mem _ tw_616)) d_Mo_cost_14 ?_
    exact m_lret hx hb hr hlk hw h d_Mo_cost_17
  · have h := ifp c4 h
    refine lv_aload_n hx hb d_Mo_cost_7 rfl (lv_at hl 0 rfl) ?_
    refine va_get (D := G.1) (ci := 7) (v := .long (μ.2 7 13)) (C := "RecipePlansModel") (T := T_Mo) (N := 24) hx hb hts (fun _ h9 => List.mem_cons_of_mem _ (inT_Mo _ h9)) hown hK hw.1 7 (WL_get (by decide)) rfl 13 (by decide) (hts _ (List.mem_cons_of_mem _ tw_466)) (fun _ h9 => h9) rfl d_Mo_cost_8 ?_
    refine lv_goto (tgt := 17) hx hb d_Mo_cost_11 (by decide) ?_
    exact m_lret hx hb hr hlk hw h d_Mo_cost_17
set_option maxRecDepth 100000 in
set_option maxHeartbeats 4000000 in
theorem w_Mo_cut_19 {r : Int64} {μ' : Mem} {N : Nat} (C : CxA G p s m args meth c prog_9_method_35_code 2 (some .long) "RecipePlansModel" ws_Mo_cut) : ∀ (x1 : Int32) (μ : Mem) (H : Heap) (locs : List Loc) (ls : Array Slot), Wk G s μ H locs → lv_has ls 2 [(0, .ref (G.2.1 7)), (1, .int x1)] → M_Mo_cut_19 N x1 μ = some (r, μ') → WA G rm_Mo_cut p l e s m args below meth c (some (.long r)) μ' H locs 19 ls [] := by
  obtain ⟨hx, hb, hr, hml, hown, hts, hlk, hK, hSt⟩ := id C
  intro x1 μ H locs ls hw hl h
  unfold M_Mo_cut_19 at h
  refine lv_aload_n hx hb d_Mo_cut_19 rfl (lv_at hl 0 rfl) ?_
  refine va_get (D := G.1) (ci := 7) (v := .int (μ.1 7 10)) (C := "RecipePlansModel") (T := T_Mo) (N := 24) hx hb hts (fun _ h9 => List.mem_cons_of_mem _ (inT_Mo _ h9)) hown hK hw.1 7 (WL_get (by decide)) rfl 10 (by decide) (hts _ (List.mem_cons_of_mem _ tw_463)) (fun _ h9 => h9) rfl d_Mo_cut_20 ?_
  refine lv_iconst (v := 2) hx hb d_Mo_cut_23 (by decide) ?_
  refine lv_icmp_ge (tgt := 39) hx hb d_Mo_cut_24 (by decide) (fun c24 => ?_) (fun c24 => ?_)
  · have h := ifp c24 h
    refine lv_ldc2 (v := -9223372036854775808) hx hb hown (hts _ (List.mem_cons_of_mem _ tw_616)) d_Mo_cut_39 ?_
    exact m_lret hx hb hr hlk hw h d_Mo_cut_42
  · have h := ifn c24 h
    refine lv_iload_n hx hb d_Mo_cut_27 rfl (lv_at hl 1 rfl) ?_
    refine lv_iconst (v := 1) hx hb d_Mo_cut_28 (by decide) ?_
    refine lv_icmp_ne (tgt := 39) hx hb d_Mo_cut_29 (by decide) (fun c29 => ?_) (fun c29 => ?_)
    · have h := ifn c29 h
      refine lv_ldc2 (v := -9223372036854775808) hx hb hown (hts _ (List.mem_cons_of_mem _ tw_616)) d_Mo_cut_39 ?_
      exact m_lret hx hb hr hlk hw h d_Mo_cut_42
    · have h := ifp c29 h
      refine lv_aload_n hx hb d_Mo_cut_32 rfl (lv_at hl 0 rfl) ?_
      refine va_get (D := G.1) (ci := 7) (v := .long (μ.2 7 15)) (C := "RecipePlansModel") (T := T_Mo) (N := 24) hx hb hts (fun _ h9 => List.mem_cons_of_mem _ (inT_Mo _ h9)) hown hK hw.1 7 (WL_get (by decide)) rfl 15 (by decide) (hts _ (List.mem_cons_of_mem _ tw_468)) (fun _ h9 => h9) rfl d_Mo_cut_33 ?_
      refine lv_goto (tgt := 42) hx hb d_Mo_cut_36 (by decide) ?_
      exact m_lret hx hb hr hlk hw h d_Mo_cut_42
set_option maxRecDepth 100000 in
set_option maxHeartbeats 4000000 in
theorem c_Mo_cut (l : Launch) (G : Gw) (N : Nat) (x1 : Int32) (μ : Mem) {r : Int64} {μ' : Mem} (h : M_Mo_cut N x1 μ = some (r, μ')) : CT l y_Mo_cut ws_Mo_cut rm_Mo_cut [.ref (G.2.1 7), .int x1] G μ (some (.long r)) μ' := by
  refine m_met (cc := prog_9_method_35_code) (maxL := 2) (ret := (some .long)) (by decide) rfl (Nat.le_of_ble_eq_true rfl) ?_
  intro p e s m args below meth c ls C hw hl
  obtain ⟨hx, hb, hr, hml, hown, hts, hlk, hK, hSt⟩ := id C
  have hl : lv_has ls 2 [(0, .ref (G.2.1 7)), (1, .int x1)] := hl
  unfold M_Mo_cut at h
  refine lv_aload_n hx hb d_Mo_cut_0 rfl (lv_at hl 0 rfl) ?_
  refine va_get (D := G.1) (ci := 7) (v := .int (μ.1 7 10)) (C := "RecipePlansModel") (T := T_Mo) (N := 24) hx hb hts (fun _ h9 => List.mem_cons_of_mem _ (inT_Mo _ h9)) hown hK hw.1 7 (WL_get (by decide)) rfl 10 (by decide) (hts _ (List.mem_cons_of_mem _ tw_463)) (fun _ h9 => h9) rfl d_Mo_cut_1 ?_
  refine lv_iconst (v := 2) hx hb d_Mo_cut_4 (by decide) ?_
  refine lv_icmp_ge (tgt := 19) hx hb d_Mo_cut_5 (by decide) (fun c5 => ?_) (fun c5 => ?_)
  · have h := ifp c5 h
    exact w_Mo_cut_19 C x1 μ _ _ _ hw hl h
  · have h := ifn c5 h
    refine lv_iload_n hx hb d_Mo_cut_8 rfl (lv_at hl 1 rfl) ?_
    refine lv_if_ne (tgt := 19) hx hb d_Mo_cut_9 (by decide) (fun c9 => ?_) (fun c9 => ?_)
    · have h := ifn c9 h
      exact w_Mo_cut_19 C x1 μ _ _ _ hw hl h
    · have h := ifp c9 h
      refine lv_aload_n hx hb d_Mo_cut_12 rfl (lv_at hl 0 rfl) ?_
      refine va_get (D := G.1) (ci := 7) (v := .long (μ.2 7 14)) (C := "RecipePlansModel") (T := T_Mo) (N := 24) hx hb hts (fun _ h9 => List.mem_cons_of_mem _ (inT_Mo _ h9)) hown hK hw.1 7 (WL_get (by decide)) rfl 14 (by decide) (hts _ (List.mem_cons_of_mem _ tw_467)) (fun _ h9 => h9) rfl d_Mo_cut_13 ?_
      refine lv_goto (tgt := 42) hx hb d_Mo_cut_16 (by decide) ?_
      exact m_lret hx hb hr hlk hw h d_Mo_cut_42
set_option maxRecDepth 100000 in
set_option maxHeartbeats 4000000 in
theorem c_Mo_clashes (l : Launch) (G : Gw) (N : Nat) (μ : Mem) {r : Int32} {μ' : Mem} (h : M_Mo_clashes N μ = some (r, μ')) : CT l y_Mo_clashes ws_Mo_clashes rm_Mo_clashes [.ref (G.2.1 7)] G μ (some (.int r)) μ' := by
  refine m_met (cc := prog_9_method_36_code) (maxL := 1) (ret := (some .int)) (by decide) rfl (Nat.le_of_ble_eq_true rfl) ?_
  intro p e s m args below meth c ls C hw hl
  obtain ⟨hx, hb, hr, hml, hown, hts, hlk, hK, hSt⟩ := id C
  have hl : lv_has ls 1 [(0, .ref (G.2.1 7))] := hl
  unfold M_Mo_clashes at h
  refine lv_aload_n hx hb d_Mo_clashes_0 rfl (lv_at hl 0 rfl) ?_
  refine va_get (D := G.1) (ci := 7) (v := .int (μ.1 7 10)) (C := "RecipePlansModel") (T := T_Mo) (N := 24) hx hb hts (fun _ h9 => List.mem_cons_of_mem _ (inT_Mo _ h9)) hown hK hw.1 7 (WL_get (by decide)) rfl 10 (by decide) (hts _ (List.mem_cons_of_mem _ tw_463)) (fun _ h9 => h9) rfl d_Mo_clashes_1 ?_
  refine lv_iconst (v := 2) hx hb d_Mo_clashes_4 (by decide) ?_
  refine lv_icmp_ne (tgt := 18) hx hb d_Mo_clashes_5 (by decide) (fun c5 => ?_) (fun c5 => ?_)
  · have h := ifn c5 h
    refine lv_iconst (v := -1) hx hb d_Mo_clashes_18 (by decide) ?_
    exact m_iret hx hb hr hlk hw h d_Mo_clashes_19
  · have h := ifp c5 h
    refine lv_aload_n hx hb d_Mo_clashes_8 rfl (lv_at hl 0 rfl) ?_
    refine va_get (D := G.1) (ci := 7) (v := .int (μ.1 7 16)) (C := "RecipePlansModel") (T := T_Mo) (N := 24) hx hb hts (fun _ h9 => List.mem_cons_of_mem _ (inT_Mo _ h9)) hown hK hw.1 7 (WL_get (by decide)) rfl 16 (by decide) (hts _ (List.mem_cons_of_mem _ tw_469)) (fun _ h9 => h9) rfl d_Mo_clashes_9 ?_
    obtain ⟨r12, hq, h⟩ := bd h
    refine m_pcall (r := .int r12) (W.runS (As := [.int (μ.1 7 16)]) (rest := []) ⟨hx, hb, hml, hown, hts⟩ (c_Mo_sizeOf l N (μ.1 7 16) hq) (va_cwS 1 hts (gdS tw_602 tw_603 tw_41 tw_604) rfl rfl rfl (by decide +kernel) ⟨Nat.le_of_ble_eq_true rfl, Nat.le_of_ble_eq_true rfl⟩) preEq rfl rfl hl.1 rfl (lv_room (Nat.le_of_ble_eq_true rfl)) d_Mo_clashes_12 ⟨Nat.zero_le _, Nat.zero_le _⟩) ?_
    refine lv_goto (tgt := 19) hx hb d_Mo_clashes_15 (by decide) ?_
    exact m_iret hx hb hr hlk hw h d_Mo_clashes_19
set_option maxRecDepth 100000 in
set_option maxHeartbeats 4000000 in
theorem c_Mo_clash (l : Launch) (G : Gw) (N : Nat) (x1 : Int32) (μ : Mem) {r : Int32} {μ' : Mem} (h : M_Mo_clash N x1 μ = some (r, μ')) : CT l y_Mo_clash ws_Mo_clash rm_Mo_clash [.ref (G.2.1 7), .int x1] G μ (some (.int r)) μ' := by
  refine m_met (cc := prog_9_method_37_code) (maxL := 2) (ret := (some .boolean)) (by decide) rfl (Nat.le_of_ble_eq_true rfl) ?_
  intro p e s m args below meth c ls C hw hl
  obtain ⟨hx, hb, hr, hml, hown, hts, hlk, hK, hSt⟩ := id C
  have hl : lv_has ls 2 [(0, .ref (G.2.1 7)), (1, .int x1)] := hl
  unfold M_Mo_clash at h
  refine lv_aload_n hx hb d_Mo_clash_0 rfl (lv_at hl 0 rfl) ?_
  refine va_get (D := G.1) (ci := 7) (v := .int (μ.1 7 10)) (C := "RecipePlansModel") (T := T_Mo) (N := 24) hx hb hts (fun _ h9 => List.mem_cons_of_mem _ (inT_Mo _ h9)) hown hK hw.1 7 (WL_get (by decide)) rfl 10 (by decide) (hts _ (List.mem_cons_of_mem _ tw_463)) (fun _ h9 => h9) rfl d_Mo_clash_1 ?_
  refine lv_iconst (v := 2) hx hb d_Mo_clash_4 (by decide) ?_
  refine lv_icmp_ne (tgt := 34) hx hb d_Mo_clash_5 (by decide) (fun c5 => ?_) (fun c5 => ?_)
  · have h := ifn c5 h
    refine lv_iconst (v := 0) hx hb d_Mo_clash_34 (by decide) ?_
    exact m_zret hx hb hr hlk hw h d_Mo_clash_35
  · have h := ifp c5 h
    refine lv_iload_n hx hb d_Mo_clash_8 rfl (lv_at hl 1 rfl) ?_
    refine lv_if_lt (tgt := 34) hx hb d_Mo_clash_9 (by decide) (fun c9 => ?_) (fun c9 => ?_)
    · have h := ifp c9 h
      refine lv_iconst (v := 0) hx hb d_Mo_clash_34 (by decide) ?_
      exact m_zret hx hb hr hlk hw h d_Mo_clash_35
    · have h := ifn c9 h
      refine lv_iload_n hx hb d_Mo_clash_12 rfl (lv_at hl 1 rfl) ?_
      refine lv_bipush (v := 8) hx hb d_Mo_clash_13 (by decide) ?_
      refine lv_icmp_ge (tgt := 34) hx hb d_Mo_clash_15 (by decide) (fun c15 => ?_) (fun c15 => ?_)
      · have h := ifp c15 h
        refine lv_iconst (v := 0) hx hb d_Mo_clash_34 (by decide) ?_
        exact m_zret hx hb hr hlk hw h d_Mo_clash_35
      · have h := ifn c15 h
        refine lv_aload_n hx hb d_Mo_clash_18 rfl (lv_at hl 0 rfl) ?_
        refine va_get (D := G.1) (ci := 7) (v := .int (μ.1 7 16)) (C := "RecipePlansModel") (T := T_Mo) (N := 24) hx hb hts (fun _ h9 => List.mem_cons_of_mem _ (inT_Mo _ h9)) hown hK hw.1 7 (WL_get (by decide)) rfl 16 (by decide) (hts _ (List.mem_cons_of_mem _ tw_469)) (fun _ h9 => h9) rfl d_Mo_clash_19 ?_
        refine lv_iload_n hx hb d_Mo_clash_22 rfl (lv_at hl 1 rfl) ?_
        refine lv_ishr hx hb d_Mo_clash_23 ?_
        refine lv_iconst (v := 1) hx hb d_Mo_clash_24 (by decide) ?_
        refine lv_iand hx hb d_Mo_clash_25 ?_
        refine lv_iconst (v := 1) hx hb d_Mo_clash_26 (by decide) ?_
        refine lv_icmp_ne (tgt := 34) hx hb d_Mo_clash_27 (by decide) (fun c27 => ?_) (fun c27 => ?_)
        · have h := ifn c27 h
          refine lv_iconst (v := 0) hx hb d_Mo_clash_34 (by decide) ?_
          exact m_zret hx hb hr hlk hw h d_Mo_clash_35
        · have h := ifp c27 h
          refine lv_iconst (v := 1) hx hb d_Mo_clash_30 (by decide) ?_
          refine lv_goto (tgt := 35) hx hb d_Mo_clash_31 (by decide) ?_
          exact m_zret hx hb hr hlk hw h d_Mo_clash_35
end WK
