def z_0 : Mem := (fun _ _ => 0, fun _ _ => 0)
def z_1 : Mem := (upI z_0.1 1 101 1, z_0.2)
def z_2 : Mem := (upI z_1.1 1 102 1, z_1.2)
def z_3 : Mem := (upI z_2.1 1 103 1, z_2.2)
def z_4 : Mem := (z_3.1, upJ z_3.2 52 0 1)
def z_5 : Mem := (z_4.1, upJ z_4.2 52 1 1)
def z_6 : Mem := (z_5.1, upJ z_5.2 52 2 1)
def z_7 : Mem := (z_6.1, upJ z_6.2 52 3 1)
def z_8 : Mem := (z_7.1, upJ z_7.2 53 4 1)
def z_9 : Mem := (upI z_8.1 0 100 1, z_8.2)
def z_10 : Mem := (upI z_9.1 2 101 1, z_9.2)
def z_11 : Mem := (upI z_10.1 2 102 1, z_10.2)
def z_12 : Mem := (upI z_11.1 2 103 1, z_11.2)
def z_13 : Mem := (upI z_12.1 2 104 1, z_12.2)
def z_14 : Mem := (upI z_13.1 2 105 1, z_13.2)
def z_15 : Mem := (upI z_14.1 0 101 1, z_14.2)
def z_16 : Mem := (upI z_15.1 3 101 1, z_15.2)
def z_17 : Mem := (upI z_16.1 3 102 1, z_16.2)
def z_18 : Mem := (upI z_17.1 0 102 1, z_17.2)
def z_19 : Mem := (upI z_18.1 4 100 1, z_18.2)
def z_20 : Mem := (upI z_19.1 4 101 1, z_19.2)
def z_21 : Mem := (upI z_20.1 4 102 1, z_20.2)
def z_22 : Mem := (upI z_21.1 4 103 1, z_21.2)
def z_23 : Mem := (upI z_22.1 4 104 1, z_22.2)
def z_24 : Mem := (upI z_23.1 4 105 1, z_23.2)
def z_25 : Mem := (upI z_24.1 4 106 1, z_24.2)
def z_26 : Mem := (upI z_25.1 4 107 1, z_25.2)
def z_27 : Mem := (upI z_26.1 0 103 1, z_26.2)
def z_28 : Mem := (upI z_27.1 5 100 1, z_27.2)
def z_29 : Mem := (upI z_28.1 5 101 1, z_28.2)
def z_30 : Mem := (upI z_29.1 5 102 1, z_29.2)
def z_31 : Mem := (upI z_30.1 5 103 1, z_30.2)
def z_32 : Mem := (upI z_31.1 5 104 1, z_31.2)
def z_33 : Mem := (upI z_32.1 5 105 1, z_32.2)
def z_34 : Mem := (upI z_33.1 5 108 1, z_33.2)
def z_35 : Mem := (upI z_34.1 0 104 1, z_34.2)
def z_36 : Mem := (upI z_35.1 6 102 1, z_35.2)
def z_37 : Mem := (upI z_36.1 0 105 1, z_36.2)
def z_38 : Mem := (upI z_37.1 0 106 1, z_37.2)
def z_39 : Mem := (upI z_38.1 0 107 1, z_38.2)
def z_40 : Mem := (upI z_39.1 7 101 1, z_39.2)
def z_41 : Mem := (upI z_40.1 7 102 1, z_40.2)
def z_42 : Mem := (upI z_41.1 7 103 1, z_41.2)
def z_43 : Mem := (upI z_42.1 7 104 1, z_42.2)
def z_44 : Mem := (upI z_43.1 7 105 1, z_43.2)
def z_45 : Mem := (upI z_44.1 7 106 1, z_44.2)
def z_46 : Mem := (upI z_45.1 7 107 1, z_45.2)
def z_47 : Mem := (upI z_46.1 7 108 1, z_46.2)
def z_48 : Mem := (upI z_47.1 7 109 1, z_47.2)
def z_49 : Mem := (upI z_48.1 7 10 3, z_48.2)
def z_50 : Mem := (upI z_49.1 7 112 1, z_49.2)
def z_51 : Mem := (upI z_50.1 7 117 1, z_50.2)
def z_52 : Mem := (upI z_51.1 7 118 1, z_51.2)
def z_53 : Mem := (upI z_52.1 7 119 1, z_52.2)
def z_54 : Mem := (upI z_53.1 7 120 1, z_53.2)
def z_55 : Mem := (upI z_54.1 7 121 1, z_54.2)
def z_56 : Mem := (upI z_55.1 7 123 1, z_55.2)
theorem ob_0_0 (G : Gw) (μ : Mem) : (obK G μ 0).set 0 (.ref (G.2.1 0 + 1)) = obK G (upI μ.1 0 100 1, μ.2) 0 := by simp [obK, rfc, upI]
theorem ob_0_1 (G : Gw) (μ : Mem) : (obK G μ 0).set 1 (.ref (G.2.1 0 + 12)) = obK G (upI μ.1 0 101 1, μ.2) 0 := by simp [obK, rfc, upI]
theorem ob_0_2 (G : Gw) (μ : Mem) : (obK G μ 0).set 2 (.ref (G.2.1 0 + 18)) = obK G (upI μ.1 0 102 1, μ.2) 0 := by simp [obK, rfc, upI]
theorem ob_0_3 (G : Gw) (μ : Mem) : (obK G μ 0).set 3 (.ref (G.2.1 0 + 37)) = obK G (upI μ.1 0 103 1, μ.2) 0 := by simp [obK, rfc, upI]
theorem ob_0_4 (G : Gw) (μ : Mem) : (obK G μ 0).set 4 (.ref (G.2.1 0 + 48)) = obK G (upI μ.1 0 104 1, μ.2) 0 := by simp [obK, rfc, upI]
theorem ob_0_5 (G : Gw) (μ : Mem) : (obK G μ 0).set 5 (.ref (G.2.1 0 + 64)) = obK G (upI μ.1 0 105 1, μ.2) 0 := by simp [obK, rfc, upI]
theorem ob_0_6 (G : Gw) (μ : Mem) : (obK G μ 0).set 6 (.ref (G.2.1 0 + 66)) = obK G (upI μ.1 0 106 1, μ.2) 0 := by simp [obK, rfc, upI]
theorem ob_0_7 (G : Gw) (μ : Mem) : (obK G μ 0).set 7 (.ref (G.2.1 0 + 67)) = obK G (upI μ.1 0 107 1, μ.2) 0 := by simp [obK, rfc, upI]
theorem ob_1_1 (G : Gw) (μ : Mem) : (obK G μ 1).set 1 (.ref (G.2.1 0 + 2)) = obK G (upI μ.1 1 101 1, μ.2) 1 := by simp [obK, rfc, upI]
theorem ob_1_2 (G : Gw) (μ : Mem) : (obK G μ 1).set 2 (.ref (G.2.1 0 + 3)) = obK G (upI μ.1 1 102 1, μ.2) 1 := by simp [obK, rfc, upI]
theorem ob_1_3 (G : Gw) (μ : Mem) : (obK G μ 1).set 3 (.ref (G.2.1 0 + 4)) = obK G (upI μ.1 1 103 1, μ.2) 1 := by simp [obK, rfc, upI]
theorem ob_2_1 (G : Gw) (μ : Mem) : (obK G μ 2).set 1 (.ref (G.2.1 0 + 13)) = obK G (upI μ.1 2 101 1, μ.2) 2 := by simp [obK, rfc, upI]
theorem ob_2_2 (G : Gw) (μ : Mem) : (obK G μ 2).set 2 (.ref (G.2.1 0 + 14)) = obK G (upI μ.1 2 102 1, μ.2) 2 := by simp [obK, rfc, upI]
theorem ob_2_3 (G : Gw) (μ : Mem) : (obK G μ 2).set 3 (.ref (G.2.1 0 + 15)) = obK G (upI μ.1 2 103 1, μ.2) 2 := by simp [obK, rfc, upI]
theorem ob_2_4 (G : Gw) (μ : Mem) : (obK G μ 2).set 4 (.ref (G.2.1 0 + 16)) = obK G (upI μ.1 2 104 1, μ.2) 2 := by simp [obK, rfc, upI]
theorem ob_2_5 (G : Gw) (μ : Mem) : (obK G μ 2).set 5 (.ref (G.2.1 0 + 17)) = obK G (upI μ.1 2 105 1, μ.2) 2 := by simp [obK, rfc, upI]
theorem ob_3_1 (G : Gw) (μ : Mem) : (obK G μ 3).set 1 (.ref (G.2.1 0 + 19)) = obK G (upI μ.1 3 101 1, μ.2) 3 := by simp [obK, rfc, upI]
theorem ob_3_2 (G : Gw) (μ : Mem) : (obK G μ 3).set 2 (.ref (G.2.1 0 + 20)) = obK G (upI μ.1 3 102 1, μ.2) 3 := by simp [obK, rfc, upI]
theorem ob_4_0 (G : Gw) (μ : Mem) : (obK G μ 4).set 0 (.ref (G.2.1 0 + 1)) = obK G (upI μ.1 4 100 1, μ.2) 4 := by simp [obK, rfc, upI]
theorem ob_4_1 (G : Gw) (μ : Mem) : (obK G μ 4).set 1 (.ref (G.2.1 0 + 12)) = obK G (upI μ.1 4 101 1, μ.2) 4 := by simp [obK, rfc, upI]
theorem ob_4_2 (G : Gw) (μ : Mem) : (obK G μ 4).set 2 (.ref (G.2.1 0 + 18)) = obK G (upI μ.1 4 102 1, μ.2) 4 := by simp [obK, rfc, upI]
theorem ob_4_3 (G : Gw) (μ : Mem) : (obK G μ 4).set 3 (.ref (G.2.1 0 + 38)) = obK G (upI μ.1 4 103 1, μ.2) 4 := by simp [obK, rfc, upI]
theorem ob_4_4 (G : Gw) (μ : Mem) : (obK G μ 4).set 4 (.ref (G.2.1 0 + 44)) = obK G (upI μ.1 4 104 1, μ.2) 4 := by simp [obK, rfc, upI]
theorem ob_4_5 (G : Gw) (μ : Mem) : (obK G μ 4).set 5 (.ref (G.2.1 0 + 45)) = obK G (upI μ.1 4 105 1, μ.2) 4 := by simp [obK, rfc, upI]
theorem ob_4_6 (G : Gw) (μ : Mem) : (obK G μ 4).set 6 (.ref (G.2.1 0 + 46)) = obK G (upI μ.1 4 106 1, μ.2) 4 := by simp [obK, rfc, upI]
theorem ob_4_7 (G : Gw) (μ : Mem) : (obK G μ 4).set 7 (.ref (G.2.1 0 + 47)) = obK G (upI μ.1 4 107 1, μ.2) 4 := by simp [obK, rfc, upI]
theorem ob_5_0 (G : Gw) (μ : Mem) : (obK G μ 5).set 0 (.ref (G.2.1 0 + 1)) = obK G (upI μ.1 5 100 1, μ.2) 5 := by simp [obK, rfc, upI]
theorem ob_5_1 (G : Gw) (μ : Mem) : (obK G μ 5).set 1 (.ref (G.2.1 0 + 18)) = obK G (upI μ.1 5 101 1, μ.2) 5 := by simp [obK, rfc, upI]
theorem ob_5_2 (G : Gw) (μ : Mem) : (obK G μ 5).set 2 (.ref (G.2.1 0 + 49)) = obK G (upI μ.1 5 102 1, μ.2) 5 := by simp [obK, rfc, upI]
theorem ob_5_3 (G : Gw) (μ : Mem) : (obK G μ 5).set 3 (.ref (G.2.1 0 + 55)) = obK G (upI μ.1 5 103 1, μ.2) 5 := by simp [obK, rfc, upI]
theorem ob_5_4 (G : Gw) (μ : Mem) : (obK G μ 5).set 4 (.ref (G.2.1 0 + 61)) = obK G (upI μ.1 5 104 1, μ.2) 5 := by simp [obK, rfc, upI]
theorem ob_5_5 (G : Gw) (μ : Mem) : (obK G μ 5).set 5 (.ref (G.2.1 0 + 62)) = obK G (upI μ.1 5 105 1, μ.2) 5 := by simp [obK, rfc, upI]
theorem ob_5_8 (G : Gw) (μ : Mem) : (obK G μ 5).set 8 (.ref (G.2.1 0 + 63)) = obK G (upI μ.1 5 108 1, μ.2) 5 := by simp [obK, rfc, upI]
theorem ob_6_2 (G : Gw) (μ : Mem) : (obK G μ 6).set 2 (.ref (G.2.1 0 + 65)) = obK G (upI μ.1 6 102 1, μ.2) 6 := by simp [obK, rfc, upI]
theorem ob_7_1 (G : Gw) (μ : Mem) : (obK G μ 7).set 1 (.ref (G.2.1 0 + 69)) = obK G (upI μ.1 7 101 1, μ.2) 7 := by simp [obK, rfc, upI]
theorem ob_7_2 (G : Gw) (μ : Mem) : (obK G μ 7).set 2 (.ref (G.2.1 0 + 70)) = obK G (upI μ.1 7 102 1, μ.2) 7 := by simp [obK, rfc, upI]
theorem ob_7_3 (G : Gw) (μ : Mem) : (obK G μ 7).set 3 (.ref (G.2.1 0 + 71)) = obK G (upI μ.1 7 103 1, μ.2) 7 := by simp [obK, rfc, upI]
theorem ob_7_4 (G : Gw) (μ : Mem) : (obK G μ 7).set 4 (.ref (G.2.1 0 + 72)) = obK G (upI μ.1 7 104 1, μ.2) 7 := by simp [obK, rfc, upI]
theorem ob_7_5 (G : Gw) (μ : Mem) : (obK G μ 7).set 5 (.ref (G.2.1 0 + 73)) = obK G (upI μ.1 7 105 1, μ.2) 7 := by simp [obK, rfc, upI]
theorem ob_7_6 (G : Gw) (μ : Mem) : (obK G μ 7).set 6 (.ref (G.2.1 0 + 74)) = obK G (upI μ.1 7 106 1, μ.2) 7 := by simp [obK, rfc, upI]
theorem ob_7_7 (G : Gw) (μ : Mem) : (obK G μ 7).set 7 (.ref (G.2.1 0 + 75)) = obK G (upI μ.1 7 107 1, μ.2) 7 := by simp [obK, rfc, upI]
theorem ob_7_8 (G : Gw) (μ : Mem) : (obK G μ 7).set 8 (.ref (G.2.1 0 + 76)) = obK G (upI μ.1 7 108 1, μ.2) 7 := by simp [obK, rfc, upI]
theorem ob_7_9 (G : Gw) (μ : Mem) : (obK G μ 7).set 9 (.ref (G.2.1 0 + 77)) = obK G (upI μ.1 7 109 1, μ.2) 7 := by simp [obK, rfc, upI]
theorem ob_7_12 (G : Gw) (μ : Mem) : (obK G μ 7).set 12 (.ref (G.2.1 0 + 78)) = obK G (upI μ.1 7 112 1, μ.2) 7 := by simp [obK, rfc, upI]
theorem ob_7_17 (G : Gw) (μ : Mem) : (obK G μ 7).set 17 (.ref (G.2.1 0 + 79)) = obK G (upI μ.1 7 117 1, μ.2) 7 := by simp [obK, rfc, upI]
theorem ob_7_18 (G : Gw) (μ : Mem) : (obK G μ 7).set 18 (.ref (G.2.1 0 + 80)) = obK G (upI μ.1 7 118 1, μ.2) 7 := by simp [obK, rfc, upI]
theorem ob_7_19 (G : Gw) (μ : Mem) : (obK G μ 7).set 19 (.ref (G.2.1 0 + 81)) = obK G (upI μ.1 7 119 1, μ.2) 7 := by simp [obK, rfc, upI]
theorem ob_7_20 (G : Gw) (μ : Mem) : (obK G μ 7).set 20 (.ref (G.2.1 0 + 82)) = obK G (upI μ.1 7 120 1, μ.2) 7 := by simp [obK, rfc, upI]
theorem ob_7_21 (G : Gw) (μ : Mem) : (obK G μ 7).set 21 (.ref (G.2.1 0 + 83)) = obK G (upI μ.1 7 121 1, μ.2) 7 := by simp [obK, rfc, upI]
theorem ob_7_23 (G : Gw) (μ : Mem) : (obK G μ 7).set 23 (.ref (G.2.1 0 + 84)) = obK G (upI μ.1 7 123 1, μ.2) 7 := by simp [obK, rfc, upI]
theorem df_RP {G : Gw} {μ : Mem} (hz : ∀ b, μ.1 0 b = 0 ∧ μ.2 0 b = 0) : ∀ j, j < 8 → defaultValue (ty_RP j) = vp_V (obK G μ 0) j := by
  intro j hj
  have h1 := fun b => (hz b).1
  have h2 := fun b => (hz b).2
  rcases (show j = 0 ∨ j = 1 ∨ j = 2 ∨ j = 3 ∨ j = 4 ∨ j = 5 ∨ j = 6 ∨ j = 7 by omega) with rfl | rfl | rfl | rfl | rfl | rfl | rfl | rfl <;> simp [obK, rfc, vp_V, ty_RP, defaultValue, h1, h2]
theorem df_Lo {G : Gw} {μ : Mem} (hz : ∀ b, μ.1 1 b = 0 ∧ μ.2 1 b = 0) : ∀ j, j < 4 → defaultValue (ty_Lo j) = vp_V (obK G μ 1) j := by
  intro j hj
  have h1 := fun b => (hz b).1
  have h2 := fun b => (hz b).2
  rcases (show j = 0 ∨ j = 1 ∨ j = 2 ∨ j = 3 by omega) with rfl | rfl | rfl | rfl <;> simp [obK, rfc, vp_V, ty_Lo, defaultValue, h1, h2]
theorem df_Ru {G : Gw} {μ : Mem} (hz : ∀ b, μ.1 2 b = 0 ∧ μ.2 2 b = 0) : ∀ j, j < 6 → defaultValue (ty_Ru j) = vp_V (obK G μ 2) j := by
  intro j hj
  have h1 := fun b => (hz b).1
  have h2 := fun b => (hz b).2
  rcases (show j = 0 ∨ j = 1 ∨ j = 2 ∨ j = 3 ∨ j = 4 ∨ j = 5 by omega) with rfl | rfl | rfl | rfl | rfl | rfl <;> simp [obK, rfc, vp_V, ty_Ru, defaultValue, h1, h2]
theorem df_Si {G : Gw} {μ : Mem} (hz : ∀ b, μ.1 3 b = 0 ∧ μ.2 3 b = 0) : ∀ j, j < 3 → defaultValue (ty_Si j) = vp_V (obK G μ 3) j := by
  intro j hj
  have h1 := fun b => (hz b).1
  have h2 := fun b => (hz b).2
  rcases (show j = 0 ∨ j = 1 ∨ j = 2 by omega) with rfl | rfl | rfl <;> simp [obK, rfc, vp_V, ty_Si, defaultValue, h1, h2]
theorem df_CS {G : Gw} {μ : Mem} (hz : ∀ b, μ.1 4 b = 0 ∧ μ.2 4 b = 0) : ∀ j, j < 13 → defaultValue (ty_CS j) = vp_V (obK G μ 4) j := by
  intro j hj
  have h1 := fun b => (hz b).1
  have h2 := fun b => (hz b).2
  rcases (show j = 0 ∨ j = 1 ∨ j = 2 ∨ j = 3 ∨ j = 4 ∨ j = 5 ∨ j = 6 ∨ j = 7 ∨ j = 8 ∨ j = 9 ∨ j = 10 ∨ j = 11 ∨ j = 12 by omega) with rfl | rfl | rfl | rfl | rfl | rfl | rfl | rfl | rfl | rfl | rfl | rfl | rfl <;> simp [obK, rfc, vp_V, ty_CS, defaultValue, h1, h2]
theorem df_WS {G : Gw} {μ : Mem} (hz : ∀ b, μ.1 5 b = 0 ∧ μ.2 5 b = 0) : ∀ j, j < 9 → defaultValue (ty_WS j) = vp_V (obK G μ 5) j := by
  intro j hj
  have h1 := fun b => (hz b).1
  have h2 := fun b => (hz b).2
  rcases (show j = 0 ∨ j = 1 ∨ j = 2 ∨ j = 3 ∨ j = 4 ∨ j = 5 ∨ j = 6 ∨ j = 7 ∨ j = 8 by omega) with rfl | rfl | rfl | rfl | rfl | rfl | rfl | rfl | rfl <;> simp [obK, rfc, vp_V, ty_WS, defaultValue, h1, h2]
theorem df_Fo {G : Gw} {μ : Mem} (hz : ∀ b, μ.1 6 b = 0 ∧ μ.2 6 b = 0) : ∀ j, j < 8 → defaultValue (ty_Fo j) = vp_V (obK G μ 6) j := by
  intro j hj
  have h1 := fun b => (hz b).1
  have h2 := fun b => (hz b).2
  rcases (show j = 0 ∨ j = 1 ∨ j = 2 ∨ j = 3 ∨ j = 4 ∨ j = 5 ∨ j = 6 ∨ j = 7 by omega) with rfl | rfl | rfl | rfl | rfl | rfl | rfl | rfl <;> simp [obK, rfc, vp_V, ty_Fo, defaultValue, h1, h2]
theorem df_Mo {G : Gw} {μ : Mem} (hz : ∀ b, μ.1 7 b = 0 ∧ μ.2 7 b = 0) : ∀ j, j < 24 → defaultValue (ty_Mo j) = vp_V (obK G μ 7) j := by
  intro j hj
  have h1 := fun b => (hz b).1
  have h2 := fun b => (hz b).2
  rcases (show j = 0 ∨ j = 1 ∨ j = 2 ∨ j = 3 ∨ j = 4 ∨ j = 5 ∨ j = 6 ∨ j = 7 ∨ j = 8 ∨ j = 9 ∨ j = 10 ∨ j = 11 ∨ j = 12 ∨ j = 13 ∨ j = 14 ∨ j = 15 ∨ j = 16 ∨ j = 17 ∨ j = 18 ∨ j = 19 ∨ j = 20 ∨ j = 21 ∨ j = 22 ∨ j = 23 by omega) with rfl | rfl | rfl | rfl | rfl | rfl | rfl | rfl | rfl | rfl | rfl | rfl | rfl | rfl | rfl | rfl | rfl | rfl | rfl | rfl | rfl | rfl | rfl | rfl <;> simp [obK, rfc, vp_V, ty_Mo, defaultValue, h1, h2]
set_option maxRecDepth 100000 in
set_option maxHeartbeats 4000000 in
theorem k_Lo_init (l : Launch) (G : Gw) : CTc l y_Lo_init ws_Lo_init { frames := 1, cells := 10, slots := 50, locals := 30 } [.ref (G.2.1 0 + 1)] G 2 z_0 12 z_8 10 50 := by
  refine m_cmet (cc := prog_4_method_1_code) (maxL := 2) (by decide) rfl rfl (Nat.le_of_ble_eq_true rfl) ?_
  intro p e s m args below meth c ls C hw hl
  obtain ⟨hx, hb, hr, hml, hown, hts, hlk, hK, hsz, hO, hin⟩ := id C
  have hs : G.2.1 0 ≤ s.heap.size := by rw [hsz]; exact Nat.le_add_right _ _
  have hl : lv_has ls 2 [(0, .ref (G.2.1 0 + 1))] := hl
  refine lv_aload_n hx hb d_Lo_init_0 rfl (lv_at hl 0 rfl) ?_
  refine W.objInit hx hb hown (hts _ (List.mem_cons_of_mem _ tw_57)) (hts _ (List.mem_cons_of_mem _ tw_50)) (hts _ (List.mem_cons_of_mem _ tw_51)) rfl (by rw [hml]; exact hl.1) rfl d_Lo_init_1 (Nat.le_of_ble_eq_true rfl) (Nat.le_of_ble_eq_true rfl) ?_
  refine W.eq (g2 := F0 m 4 ls []) rfl ?_
  refine lv_aload_n hx hb d_Lo_init_4 rfl (lv_at hl 0 rfl) ?_
  refine lv_iconst (v := 4) hx hb d_Lo_init_5 (by decide) ?_
  refine m_cnewi (n := 2) (k := 17) (N := 4) hx hb (hts _ (List.mem_cons_of_mem _ tw_75)) hK hw hs (by decide) rfl (by decide) (by decide) rfl (by decide) rfl (by decide) (Nat.le_of_ble_eq_true rfl) (Nat.le_of_ble_eq_true rfl) d_Lo_init_6 (fun H hw => ?_)
  refine m_cputF (n := 3) (μ1 := z_1) (i := 1) (ci := 1) (v := .ref (G.2.1 0 + 2)) (ty := .array .int) (C := "RecipePlans$Lots") (T := T_Lo) (N := 4) hx hb hts (fun _ h9 => List.mem_cons_of_mem _ (inT_Lo _ h9)) ty_Lo tyok_Lo nm_Lo hown hK hw (by decide) (by decide) rfl (by decide) rfl 1 (by decide) (hts _ (List.mem_cons_of_mem _ tw_60)) (fun _ h9 => h9) rfl hin rfl (by decide +kernel) rfl rfl (Nat.le_of_ble_eq_true rfl) (ob_1_1 G _) (fun a ha => ⟨upI_ne ha, fun _ => rfl⟩) d_Lo_init_8 (fun H locs hw => ?_)
  refine lv_aload_n hx hb d_Lo_init_11 rfl (lv_at hl 0 rfl) ?_
  refine lv_iconst (v := 4) hx hb d_Lo_init_12 (by decide) ?_
  refine m_cnewj (n := 3) (k := 42) (N := 4) hx hb (hts _ (List.mem_cons_of_mem _ tw_76)) hK hw hs (by decide) rfl (by decide) rfl (by decide) rfl (by decide) (Nat.le_of_ble_eq_true rfl) (Nat.le_of_ble_eq_true rfl) d_Lo_init_13 (fun H hw => ?_)
  refine m_cputF (n := 4) (μ1 := z_2) (i := 1) (ci := 1) (v := .ref (G.2.1 0 + 3)) (ty := .array .long) (C := "RecipePlans$Lots") (T := T_Lo) (N := 4) hx hb hts (fun _ h9 => List.mem_cons_of_mem _ (inT_Lo _ h9)) ty_Lo tyok_Lo nm_Lo hown hK hw (by decide) (by decide) rfl (by decide) rfl 2 (by decide) (hts _ (List.mem_cons_of_mem _ tw_64)) (fun _ h9 => h9) rfl hin rfl (by decide +kernel) rfl rfl (Nat.le_of_ble_eq_true rfl) (ob_1_2 G _) (fun a ha => ⟨upI_ne ha, fun _ => rfl⟩) d_Lo_init_15 (fun H locs hw => ?_)
  refine lv_aload_n hx hb d_Lo_init_18 rfl (lv_at hl 0 rfl) ?_
  refine lv_bipush (v := 7) hx hb d_Lo_init_19 (by decide) ?_
  refine lv_iconst (v := 5) hx hb d_Lo_init_21 (by decide) ?_
  refine m_cmulti (n := 4) (k := 8) (N := 7) (K := 5) hx hb hown (hts _ (List.mem_cons_of_mem _ tw_58)) hO (hts _ (List.mem_cons_of_mem _ tw_76)) hK hw hs (by decide) rfl (by decide) (by decide) rfl rfl (by decide) (by decide) (by decide) rfl rfl (by decide) (by decide) (Nat.le_of_ble_eq_true rfl) (Nat.le_of_ble_eq_true rfl) d_Lo_init_22 (fun H hw => ?_)
  have hw : Wc G s 12 z_2 H _ := hw
  refine m_cputF (n := 12) (μ1 := z_3) (i := 1) (ci := 1) (v := .ref (G.2.1 0 + 4)) (ty := .array (.array .long)) (C := "RecipePlans$Lots") (T := T_Lo) (N := 4) hx hb hts (fun _ h9 => List.mem_cons_of_mem _ (inT_Lo _ h9)) ty_Lo tyok_Lo nm_Lo hown hK hw (by decide) (by decide) rfl (by decide) rfl 3 (by decide) (hts _ (List.mem_cons_of_mem _ tw_67)) (fun _ h9 => h9) rfl hin rfl (by decide +kernel) rfl rfl (Nat.le_of_ble_eq_true rfl) (ob_1_3 G _) (fun a ha => ⟨upI_ne ha, fun _ => rfl⟩) d_Lo_init_26 (fun H locs hw => ?_)
  refine lv_iconst (v := 0) hx hb d_Lo_init_29 (by decide) ?_
  refine lv_istore_n (lv' := [(1, .int 0), (0, .ref (G.2.1 0 + 1))]) hx hb d_Lo_init_30 rfl hl (by decide) rfl (fun ls hl => ?_)
  refine lv_iload_n hx hb d_Lo_init_31 rfl (lv_at hl 0 rfl) ?_
  refine lv_iconst (v := 4) hx hb d_Lo_init_32 (by decide) ?_
  refine lv_icmp_ge (tgt := 51) hx hb d_Lo_init_33 (by decide) (fun c9 => ?_) (fun c9 => ?_)
  · exact absurd c9 (by decide)
  refine lv_aload_n hx hb d_Lo_init_36 rfl (lv_at hl 1 rfl) ?_
  refine va_get (D := G.1) (ci := 1) (v := .ref (G.2.1 0 + 4)) (C := "RecipePlans$Lots") (T := T_Lo) (N := 4) hx hb hts (fun _ h9 => List.mem_cons_of_mem _ (inT_Lo _ h9)) hown hK hw.2.1 1 (WG_obj (ci := 1) (by decide) rfl (by decide)) rfl 3 (by decide) (hts _ (List.mem_cons_of_mem _ tw_67)) (fun _ h9 => h9) (by rfl) d_Lo_init_37 ?_
  refine lv_iconst (v := 5) hx hb d_Lo_init_40 (by decide) ?_
  refine m_caald (n := 12) (i := 4) (k := 8) (a := 10) hx hb hK hw (by decide) rfl (by decide) (by decide) (by decide) rfl d_Lo_init_41 ?_
  refine lv_iload_n hx hb d_Lo_init_42 rfl (lv_at hl 0 rfl) ?_
  refine lv_lconst (v := 1) hx hb d_Lo_init_43 (by decide) ?_
  refine m_clast (n := 12) (i := 10) (k := 52) hx hb hK hw (by decide) (by decide) rfl (by decide) (by decide) d_Lo_init_44 (fun H locs hw => ?_)
  have hw : Wc G s 12 z_4 H locs := hw
  refine lv_iinc (v := 1) (lv' := [(1, .int 1), (0, .ref (G.2.1 0 + 1))]) hx hb d_Lo_init_45 hl (k := 0) rfl rfl (by decide) rfl (fun ls hl => ?_)
  refine lv_goto (tgt := 31) hx hb d_Lo_init_48 (by decide) ?_
  refine lv_iload_n hx hb d_Lo_init_31 rfl (lv_at hl 0 rfl) ?_
  refine lv_iconst (v := 4) hx hb d_Lo_init_32 (by decide) ?_
  refine lv_icmp_ge (tgt := 51) hx hb d_Lo_init_33 (by decide) (fun c9 => ?_) (fun c9 => ?_)
  · exact absurd c9 (by decide)
  refine lv_aload_n hx hb d_Lo_init_36 rfl (lv_at hl 1 rfl) ?_
  refine va_get (D := G.1) (ci := 1) (v := .ref (G.2.1 0 + 4)) (C := "RecipePlans$Lots") (T := T_Lo) (N := 4) hx hb hts (fun _ h9 => List.mem_cons_of_mem _ (inT_Lo _ h9)) hown hK hw.2.1 1 (WG_obj (ci := 1) (by decide) rfl (by decide)) rfl 3 (by decide) (hts _ (List.mem_cons_of_mem _ tw_67)) (fun _ h9 => h9) (by rfl) d_Lo_init_37 ?_
  refine lv_iconst (v := 5) hx hb d_Lo_init_40 (by decide) ?_
  refine m_caald (n := 12) (i := 4) (k := 8) (a := 10) hx hb hK hw (by decide) rfl (by decide) (by decide) (by decide) rfl d_Lo_init_41 ?_
  refine lv_iload_n hx hb d_Lo_init_42 rfl (lv_at hl 0 rfl) ?_
  refine lv_lconst (v := 1) hx hb d_Lo_init_43 (by decide) ?_
  refine m_clast (n := 12) (i := 10) (k := 52) hx hb hK hw (by decide) (by decide) rfl (by decide) (by decide) d_Lo_init_44 (fun H locs hw => ?_)
  have hw : Wc G s 12 z_5 H locs := hw
  refine lv_iinc (v := 2) (lv' := [(1, .int 2), (0, .ref (G.2.1 0 + 1))]) hx hb d_Lo_init_45 hl (k := 0) rfl rfl (by decide) rfl (fun ls hl => ?_)
  refine lv_goto (tgt := 31) hx hb d_Lo_init_48 (by decide) ?_
  refine lv_iload_n hx hb d_Lo_init_31 rfl (lv_at hl 0 rfl) ?_
  refine lv_iconst (v := 4) hx hb d_Lo_init_32 (by decide) ?_
  refine lv_icmp_ge (tgt := 51) hx hb d_Lo_init_33 (by decide) (fun c9 => ?_) (fun c9 => ?_)
  · exact absurd c9 (by decide)
  refine lv_aload_n hx hb d_Lo_init_36 rfl (lv_at hl 1 rfl) ?_
  refine va_get (D := G.1) (ci := 1) (v := .ref (G.2.1 0 + 4)) (C := "RecipePlans$Lots") (T := T_Lo) (N := 4) hx hb hts (fun _ h9 => List.mem_cons_of_mem _ (inT_Lo _ h9)) hown hK hw.2.1 1 (WG_obj (ci := 1) (by decide) rfl (by decide)) rfl 3 (by decide) (hts _ (List.mem_cons_of_mem _ tw_67)) (fun _ h9 => h9) (by rfl) d_Lo_init_37 ?_
  refine lv_iconst (v := 5) hx hb d_Lo_init_40 (by decide) ?_
  refine m_caald (n := 12) (i := 4) (k := 8) (a := 10) hx hb hK hw (by decide) rfl (by decide) (by decide) (by decide) rfl d_Lo_init_41 ?_
  refine lv_iload_n hx hb d_Lo_init_42 rfl (lv_at hl 0 rfl) ?_
  refine lv_lconst (v := 1) hx hb d_Lo_init_43 (by decide) ?_
  refine m_clast (n := 12) (i := 10) (k := 52) hx hb hK hw (by decide) (by decide) rfl (by decide) (by decide) d_Lo_init_44 (fun H locs hw => ?_)
  have hw : Wc G s 12 z_6 H locs := hw
  refine lv_iinc (v := 3) (lv' := [(1, .int 3), (0, .ref (G.2.1 0 + 1))]) hx hb d_Lo_init_45 hl (k := 0) rfl rfl (by decide) rfl (fun ls hl => ?_)
  refine lv_goto (tgt := 31) hx hb d_Lo_init_48 (by decide) ?_
  refine lv_iload_n hx hb d_Lo_init_31 rfl (lv_at hl 0 rfl) ?_
  refine lv_iconst (v := 4) hx hb d_Lo_init_32 (by decide) ?_
  refine lv_icmp_ge (tgt := 51) hx hb d_Lo_init_33 (by decide) (fun c9 => ?_) (fun c9 => ?_)
  · exact absurd c9 (by decide)
  refine lv_aload_n hx hb d_Lo_init_36 rfl (lv_at hl 1 rfl) ?_
  refine va_get (D := G.1) (ci := 1) (v := .ref (G.2.1 0 + 4)) (C := "RecipePlans$Lots") (T := T_Lo) (N := 4) hx hb hts (fun _ h9 => List.mem_cons_of_mem _ (inT_Lo _ h9)) hown hK hw.2.1 1 (WG_obj (ci := 1) (by decide) rfl (by decide)) rfl 3 (by decide) (hts _ (List.mem_cons_of_mem _ tw_67)) (fun _ h9 => h9) (by rfl) d_Lo_init_37 ?_
  refine lv_iconst (v := 5) hx hb d_Lo_init_40 (by decide) ?_
  refine m_caald (n := 12) (i := 4) (k := 8) (a := 10) hx hb hK hw (by decide) rfl (by decide) (by decide) (by decide) rfl d_Lo_init_41 ?_
  refine lv_iload_n hx hb d_Lo_init_42 rfl (lv_at hl 0 rfl) ?_
  refine lv_lconst (v := 1) hx hb d_Lo_init_43 (by decide) ?_
  refine m_clast (n := 12) (i := 10) (k := 52) hx hb hK hw (by decide) (by decide) rfl (by decide) (by decide) d_Lo_init_44 (fun H locs hw => ?_)
  have hw : Wc G s 12 z_7 H locs := hw
  refine lv_iinc (v := 4) (lv' := [(1, .int 4), (0, .ref (G.2.1 0 + 1))]) hx hb d_Lo_init_45 hl (k := 0) rfl rfl (by decide) rfl (fun ls hl => ?_)
  refine lv_goto (tgt := 31) hx hb d_Lo_init_48 (by decide) ?_
  refine lv_iload_n hx hb d_Lo_init_31 rfl (lv_at hl 0 rfl) ?_
  refine lv_iconst (v := 4) hx hb d_Lo_init_32 (by decide) ?_
  refine lv_icmp_ge (tgt := 51) hx hb d_Lo_init_33 (by decide) (fun c9 => ?_) (fun c9 => ?_)
  · skip
    refine lv_aload_n hx hb d_Lo_init_51 rfl (lv_at hl 1 rfl) ?_
    refine va_get (D := G.1) (ci := 1) (v := .ref (G.2.1 0 + 4)) (C := "RecipePlans$Lots") (T := T_Lo) (N := 4) hx hb hts (fun _ h9 => List.mem_cons_of_mem _ (inT_Lo _ h9)) hown hK hw.2.1 1 (WG_obj (ci := 1) (by decide) rfl (by decide)) rfl 3 (by decide) (hts _ (List.mem_cons_of_mem _ tw_67)) (fun _ h9 => h9) (by rfl) d_Lo_init_52 ?_
    refine lv_bipush (v := 6) hx hb d_Lo_init_55 (by decide) ?_
    refine m_caald (n := 12) (i := 4) (k := 8) (a := 11) hx hb hK hw (by decide) rfl (by decide) (by decide) (by decide) rfl d_Lo_init_57 ?_
    refine lv_iconst (v := 4) hx hb d_Lo_init_58 (by decide) ?_
    refine lv_lconst (v := 1) hx hb d_Lo_init_59 (by decide) ?_
    refine m_clast (n := 12) (i := 11) (k := 53) hx hb hK hw (by decide) (by decide) rfl (by decide) (by decide) d_Lo_init_60 (fun H locs hw => ?_)
    have hw : Wc G s 12 z_8 H locs := hw
    refine W.cs (cells' := 10) (slots' := 50) rfl rfl ?_
    exact m_cvret hx hb hr hlk hw d_Lo_init_61
  · exact absurd (by decide) c9
set_option maxRecDepth 100000 in
set_option maxHeartbeats 4000000 in
theorem k_Ru_init (l : Launch) (G : Gw) : CTc l y_Ru_init ws_Ru_init { frames := 1, cells := 5, slots := 40, locals := 30 } [.ref (G.2.1 0 + 12)] G 13 z_9 18 z_14 5 40 := by
  refine m_cmet (cc := prog_5_method_1_code) (maxL := 1) (by decide) rfl rfl (Nat.le_of_ble_eq_true rfl) ?_
  intro p e s m args below meth c ls C hw hl
  obtain ⟨hx, hb, hr, hml, hown, hts, hlk, hK, hsz, hO, hin⟩ := id C
  have hs : G.2.1 0 ≤ s.heap.size := by rw [hsz]; exact Nat.le_add_right _ _
  have hl : lv_has ls 1 [(0, .ref (G.2.1 0 + 12))] := hl
  refine lv_aload_n hx hb d_Ru_init_0 rfl (lv_at hl 0 rfl) ?_
  refine W.objInit hx hb hown (hts _ (List.mem_cons_of_mem _ tw_82)) (hts _ (List.mem_cons_of_mem _ tw_50)) (hts _ (List.mem_cons_of_mem _ tw_51)) rfl (by rw [hml]; exact hl.1) rfl d_Ru_init_1 (Nat.le_of_ble_eq_true rfl) (Nat.le_of_ble_eq_true rfl) ?_
  refine W.eq (g2 := F0 m 4 ls []) rfl ?_
  refine lv_aload_n hx hb d_Ru_init_4 rfl (lv_at hl 0 rfl) ?_
  refine lv_bipush (v := 8) hx hb d_Ru_init_5 (by decide) ?_
  refine m_cnewi (n := 13) (k := 18) (N := 8) hx hb (hts _ (List.mem_cons_of_mem _ tw_75)) hK hw hs (by decide) rfl (by decide) (by decide) rfl (by decide) rfl (by decide) (Nat.le_of_ble_eq_true rfl) (Nat.le_of_ble_eq_true rfl) d_Ru_init_7 (fun H hw => ?_)
  refine m_cputF (n := 14) (μ1 := z_10) (i := 12) (ci := 2) (v := .ref (G.2.1 0 + 13)) (ty := .array .int) (C := "RecipePlans$Rules") (T := T_Ru) (N := 6) hx hb hts (fun _ h9 => List.mem_cons_of_mem _ (inT_Ru _ h9)) ty_Ru tyok_Ru nm_Ru hown hK hw (by decide) (by decide) rfl (by decide) rfl 1 (by decide) (hts _ (List.mem_cons_of_mem _ tw_86)) (fun _ h9 => h9) rfl hin rfl (by decide +kernel) rfl rfl (Nat.le_of_ble_eq_true rfl) (ob_2_1 G _) (fun a ha => ⟨upI_ne ha, fun _ => rfl⟩) d_Ru_init_9 (fun H locs hw => ?_)
  refine lv_aload_n hx hb d_Ru_init_12 rfl (lv_at hl 0 rfl) ?_
  refine lv_bipush (v := 8) hx hb d_Ru_init_13 (by decide) ?_
  refine m_cnewi (n := 14) (k := 19) (N := 8) hx hb (hts _ (List.mem_cons_of_mem _ tw_75)) hK hw hs (by decide) rfl (by decide) (by decide) rfl (by decide) rfl (by decide) (Nat.le_of_ble_eq_true rfl) (Nat.le_of_ble_eq_true rfl) d_Ru_init_15 (fun H hw => ?_)
  refine m_cputF (n := 15) (μ1 := z_11) (i := 12) (ci := 2) (v := .ref (G.2.1 0 + 14)) (ty := .array .int) (C := "RecipePlans$Rules") (T := T_Ru) (N := 6) hx hb hts (fun _ h9 => List.mem_cons_of_mem _ (inT_Ru _ h9)) ty_Ru tyok_Ru nm_Ru hown hK hw (by decide) (by decide) rfl (by decide) rfl 2 (by decide) (hts _ (List.mem_cons_of_mem _ tw_89)) (fun _ h9 => h9) rfl hin rfl (by decide +kernel) rfl rfl (Nat.le_of_ble_eq_true rfl) (ob_2_2 G _) (fun a ha => ⟨upI_ne ha, fun _ => rfl⟩) d_Ru_init_17 (fun H locs hw => ?_)
  refine lv_aload_n hx hb d_Ru_init_20 rfl (lv_at hl 0 rfl) ?_
  refine lv_bipush (v := 8) hx hb d_Ru_init_21 (by decide) ?_
  refine m_cnewi (n := 15) (k := 20) (N := 8) hx hb (hts _ (List.mem_cons_of_mem _ tw_75)) hK hw hs (by decide) rfl (by decide) (by decide) rfl (by decide) rfl (by decide) (Nat.le_of_ble_eq_true rfl) (Nat.le_of_ble_eq_true rfl) d_Ru_init_23 (fun H hw => ?_)
  refine m_cputF (n := 16) (μ1 := z_12) (i := 12) (ci := 2) (v := .ref (G.2.1 0 + 15)) (ty := .array .int) (C := "RecipePlans$Rules") (T := T_Ru) (N := 6) hx hb hts (fun _ h9 => List.mem_cons_of_mem _ (inT_Ru _ h9)) ty_Ru tyok_Ru nm_Ru hown hK hw (by decide) (by decide) rfl (by decide) rfl 3 (by decide) (hts _ (List.mem_cons_of_mem _ tw_92)) (fun _ h9 => h9) rfl hin rfl (by decide +kernel) rfl rfl (Nat.le_of_ble_eq_true rfl) (ob_2_3 G _) (fun a ha => ⟨upI_ne ha, fun _ => rfl⟩) d_Ru_init_25 (fun H locs hw => ?_)
  refine lv_aload_n hx hb d_Ru_init_28 rfl (lv_at hl 0 rfl) ?_
  refine lv_bipush (v := 8) hx hb d_Ru_init_29 (by decide) ?_
  refine m_cnewi (n := 16) (k := 21) (N := 8) hx hb (hts _ (List.mem_cons_of_mem _ tw_75)) hK hw hs (by decide) rfl (by decide) (by decide) rfl (by decide) rfl (by decide) (Nat.le_of_ble_eq_true rfl) (Nat.le_of_ble_eq_true rfl) d_Ru_init_31 (fun H hw => ?_)
  refine m_cputF (n := 17) (μ1 := z_13) (i := 12) (ci := 2) (v := .ref (G.2.1 0 + 16)) (ty := .array .int) (C := "RecipePlans$Rules") (T := T_Ru) (N := 6) hx hb hts (fun _ h9 => List.mem_cons_of_mem _ (inT_Ru _ h9)) ty_Ru tyok_Ru nm_Ru hown hK hw (by decide) (by decide) rfl (by decide) rfl 4 (by decide) (hts _ (List.mem_cons_of_mem _ tw_95)) (fun _ h9 => h9) rfl hin rfl (by decide +kernel) rfl rfl (Nat.le_of_ble_eq_true rfl) (ob_2_4 G _) (fun a ha => ⟨upI_ne ha, fun _ => rfl⟩) d_Ru_init_33 (fun H locs hw => ?_)
  refine lv_aload_n hx hb d_Ru_init_36 rfl (lv_at hl 0 rfl) ?_
  refine lv_bipush (v := 8) hx hb d_Ru_init_37 (by decide) ?_
  refine m_cnewi (n := 17) (k := 22) (N := 8) hx hb (hts _ (List.mem_cons_of_mem _ tw_75)) hK hw hs (by decide) rfl (by decide) (by decide) rfl (by decide) rfl (by decide) (Nat.le_of_ble_eq_true rfl) (Nat.le_of_ble_eq_true rfl) d_Ru_init_39 (fun H hw => ?_)
  refine m_cputF (n := 18) (μ1 := z_14) (i := 12) (ci := 2) (v := .ref (G.2.1 0 + 17)) (ty := .array .int) (C := "RecipePlans$Rules") (T := T_Ru) (N := 6) hx hb hts (fun _ h9 => List.mem_cons_of_mem _ (inT_Ru _ h9)) ty_Ru tyok_Ru nm_Ru hown hK hw (by decide) (by decide) rfl (by decide) rfl 5 (by decide) (hts _ (List.mem_cons_of_mem _ tw_98)) (fun _ h9 => h9) rfl hin rfl (by decide +kernel) rfl rfl (Nat.le_of_ble_eq_true rfl) (ob_2_5 G _) (fun a ha => ⟨upI_ne ha, fun _ => rfl⟩) d_Ru_init_41 (fun H locs hw => ?_)
  refine W.cs (cells' := 5) (slots' := 40) rfl rfl ?_
  exact m_cvret hx hb hr hlk hw d_Ru_init_44
set_option maxRecDepth 100000 in
set_option maxHeartbeats 4000000 in
theorem k_Si_init (l : Launch) (G : Gw) : CTc l y_Si_init ws_Si_init { frames := 1, cells := 18, slots := 104, locals := 30 } [.ref (G.2.1 0 + 18)] G 19 z_15 37 z_17 18 104 := by
  refine m_cmet (cc := prog_6_method_1_code) (maxL := 1) (by decide) rfl rfl (Nat.le_of_ble_eq_true rfl) ?_
  intro p e s m args below meth c ls C hw hl
  obtain ⟨hx, hb, hr, hml, hown, hts, hlk, hK, hsz, hO, hin⟩ := id C
  have hs : G.2.1 0 ≤ s.heap.size := by rw [hsz]; exact Nat.le_add_right _ _
  have hl : lv_has ls 1 [(0, .ref (G.2.1 0 + 18))] := hl
  refine lv_aload_n hx hb d_Si_init_0 rfl (lv_at hl 0 rfl) ?_
  refine W.objInit hx hb hown (hts _ (List.mem_cons_of_mem _ tw_111)) (hts _ (List.mem_cons_of_mem _ tw_50)) (hts _ (List.mem_cons_of_mem _ tw_51)) rfl (by rw [hml]; exact hl.1) rfl d_Si_init_1 (Nat.le_of_ble_eq_true rfl) (Nat.le_of_ble_eq_true rfl) ?_
  refine W.eq (g2 := F0 m 4 ls []) rfl ?_
  refine lv_aload_n hx hb d_Si_init_4 rfl (lv_at hl 0 rfl) ?_
  refine lv_bipush (v := 8) hx hb d_Si_init_5 (by decide) ?_
  refine m_cnewi (n := 19) (k := 23) (N := 8) hx hb (hts _ (List.mem_cons_of_mem _ tw_75)) hK hw hs (by decide) rfl (by decide) (by decide) rfl (by decide) rfl (by decide) (Nat.le_of_ble_eq_true rfl) (Nat.le_of_ble_eq_true rfl) d_Si_init_7 (fun H hw => ?_)
  refine m_cputF (n := 20) (μ1 := z_16) (i := 18) (ci := 3) (v := .ref (G.2.1 0 + 19)) (ty := .array .int) (C := "RecipePlans$Sides") (T := T_Si) (N := 3) hx hb hts (fun _ h9 => List.mem_cons_of_mem _ (inT_Si _ h9)) ty_Si tyok_Si nm_Si hown hK hw (by decide) (by decide) rfl (by decide) rfl 1 (by decide) (hts _ (List.mem_cons_of_mem _ tw_116)) (fun _ h9 => h9) rfl hin rfl (by decide +kernel) rfl rfl (Nat.le_of_ble_eq_true rfl) (ob_3_1 G _) (fun a ha => ⟨upI_ne ha, fun _ => rfl⟩) d_Si_init_9 (fun H locs hw => ?_)
  refine lv_aload_n hx hb d_Si_init_12 rfl (lv_at hl 0 rfl) ?_
  refine lv_bipush (v := 16) hx hb d_Si_init_13 (by decide) ?_
  refine lv_iconst (v := 5) hx hb d_Si_init_15 (by decide) ?_
  refine m_cmulti (n := 20) (k := 9) (N := 16) (K := 5) hx hb hown (hts _ (List.mem_cons_of_mem _ tw_112)) hO (hts _ (List.mem_cons_of_mem _ tw_76)) hK hw hs (by decide) rfl (by decide) (by decide) rfl rfl (by decide) (by decide) (by decide) rfl rfl (by decide) (by decide) (Nat.le_of_ble_eq_true rfl) (Nat.le_of_ble_eq_true rfl) d_Si_init_16 (fun H hw => ?_)
  have hw : Wc G s 37 z_16 H _ := hw
  refine m_cputF (n := 37) (μ1 := z_17) (i := 18) (ci := 3) (v := .ref (G.2.1 0 + 20)) (ty := .array (.array .long)) (C := "RecipePlans$Sides") (T := T_Si) (N := 3) hx hb hts (fun _ h9 => List.mem_cons_of_mem _ (inT_Si _ h9)) ty_Si tyok_Si nm_Si hown hK hw (by decide) (by decide) rfl (by decide) rfl 2 (by decide) (hts _ (List.mem_cons_of_mem _ tw_118)) (fun _ h9 => h9) rfl hin rfl (by decide +kernel) rfl rfl (Nat.le_of_ble_eq_true rfl) (ob_3_2 G _) (fun a ha => ⟨upI_ne ha, fun _ => rfl⟩) d_Si_init_20 (fun H locs hw => ?_)
  refine W.cs (cells' := 18) (slots' := 104) rfl rfl ?_
  exact m_cvret hx hb hr hlk hw d_Si_init_23
set_option maxRecDepth 100000 in
set_option maxHeartbeats 4000000 in
theorem k_CS_init (l : Launch) (G : Gw) : CTc l y_CS_init ws_CS_init { frames := 1, cells := 10, slots := 689, locals := 30 } [.ref (G.2.1 0 + 37), .ref (G.2.1 0 + 1), .ref (G.2.1 0 + 12), .ref (G.2.1 0 + 18)] G 38 z_18 48 z_26 10 689 := by
  refine m_cmet (cc := prog_2_method_1_code) (maxL := 4) (by decide) rfl rfl (Nat.le_of_ble_eq_true rfl) ?_
  intro p e s m args below meth c ls C hw hl
  obtain ⟨hx, hb, hr, hml, hown, hts, hlk, hK, hsz, hO, hin⟩ := id C
  have hs : G.2.1 0 ≤ s.heap.size := by rw [hsz]; exact Nat.le_add_right _ _
  have hl : lv_has ls 4 [(0, .ref (G.2.1 0 + 37)), (1, .ref (G.2.1 0 + 1)), (2, .ref (G.2.1 0 + 12)), (3, .ref (G.2.1 0 + 18))] := hl
  refine lv_aload_n hx hb d_CS_init_0 rfl (lv_at hl 0 rfl) ?_
  refine W.objInit hx hb hown (hts _ (List.mem_cons_of_mem _ tw_129)) (hts _ (List.mem_cons_of_mem _ tw_50)) (hts _ (List.mem_cons_of_mem _ tw_51)) rfl (by rw [hml]; exact hl.1) rfl d_CS_init_1 (Nat.le_of_ble_eq_true rfl) (Nat.le_of_ble_eq_true rfl) ?_
  refine W.eq (g2 := F0 m 4 ls []) rfl ?_
  refine lv_aload_n hx hb d_CS_init_4 rfl (lv_at hl 0 rfl) ?_
  refine lv_aload_n hx hb d_CS_init_5 rfl (lv_at hl 1 rfl) ?_
  refine m_cputF (n := 38) (μ1 := z_19) (i := 37) (ci := 4) (v := .ref (G.2.1 0 + 1)) (ty := .object "RecipePlans$Lots") (C := "RecipePlans$CutSearch") (T := T_CS) (N := 13) hx hb hts (fun _ h9 => List.mem_cons_of_mem _ (inT_CS _ h9)) ty_CS tyok_CS nm_CS hown hK hw (by decide) (by decide) rfl (by decide) rfl 0 (by decide) (hts _ (List.mem_cons_of_mem _ tw_131)) (fun _ h9 => h9) rfl hin rfl (by decide +kernel) rfl rfl (Nat.le_of_ble_eq_true rfl) (ob_4_0 G _) (fun a ha => ⟨upI_ne ha, fun _ => rfl⟩) d_CS_init_6 (fun H locs hw => ?_)
  refine lv_aload_n hx hb d_CS_init_9 rfl (lv_at hl 0 rfl) ?_
  refine lv_aload_n hx hb d_CS_init_10 rfl (lv_at hl 2 rfl) ?_
  refine m_cputF (n := 38) (μ1 := z_20) (i := 37) (ci := 4) (v := .ref (G.2.1 0 + 12)) (ty := .object "RecipePlans$Rules") (C := "RecipePlans$CutSearch") (T := T_CS) (N := 13) hx hb hts (fun _ h9 => List.mem_cons_of_mem _ (inT_CS _ h9)) ty_CS tyok_CS nm_CS hown hK hw (by decide) (by decide) rfl (by decide) rfl 1 (by decide) (hts _ (List.mem_cons_of_mem _ tw_132)) (fun _ h9 => h9) rfl hin rfl (by decide +kernel) rfl rfl (Nat.le_of_ble_eq_true rfl) (ob_4_1 G _) (fun a ha => ⟨upI_ne ha, fun _ => rfl⟩) d_CS_init_11 (fun H locs hw => ?_)
  refine lv_aload_n hx hb d_CS_init_14 rfl (lv_at hl 0 rfl) ?_
  refine lv_aload_n hx hb d_CS_init_15 rfl (lv_at hl 3 rfl) ?_
  refine m_cputF (n := 38) (μ1 := z_21) (i := 37) (ci := 4) (v := .ref (G.2.1 0 + 18)) (ty := .object "RecipePlans$Sides") (C := "RecipePlans$CutSearch") (T := T_CS) (N := 13) hx hb hts (fun _ h9 => List.mem_cons_of_mem _ (inT_CS _ h9)) ty_CS tyok_CS nm_CS hown hK hw (by decide) (by decide) rfl (by decide) rfl 2 (by decide) (hts _ (List.mem_cons_of_mem _ tw_133)) (fun _ h9 => h9) rfl hin rfl (by decide +kernel) rfl rfl (Nat.le_of_ble_eq_true rfl) (ob_4_2 G _) (fun a ha => ⟨upI_ne ha, fun _ => rfl⟩) d_CS_init_16 (fun H locs hw => ?_)
  refine lv_aload_n hx hb d_CS_init_19 rfl (lv_at hl 0 rfl) ?_
  refine lv_iconst (v := 5) hx hb d_CS_init_20 (by decide) ?_
  refine lv_bipush (v := 32) hx hb d_CS_init_21 (by decide) ?_
  refine m_cmulti (n := 38) (k := 10) (N := 5) (K := 32) hx hb hown (hts _ (List.mem_cons_of_mem _ tw_130)) hO (hts _ (List.mem_cons_of_mem _ tw_76)) hK hw hs (by decide) rfl (by decide) (by decide) rfl rfl (by decide) (by decide) (by decide) rfl rfl (by decide) (by decide) (Nat.le_of_ble_eq_true rfl) (Nat.le_of_ble_eq_true rfl) d_CS_init_23 (fun H hw => ?_)
  have hw : Wc G s 44 z_21 H _ := hw
  refine m_cputF (n := 44) (μ1 := z_22) (i := 37) (ci := 4) (v := .ref (G.2.1 0 + 38)) (ty := .array (.array .long)) (C := "RecipePlans$CutSearch") (T := T_CS) (N := 13) hx hb hts (fun _ h9 => List.mem_cons_of_mem _ (inT_CS _ h9)) ty_CS tyok_CS nm_CS hown hK hw (by decide) (by decide) rfl (by decide) rfl 3 (by decide) (hts _ (List.mem_cons_of_mem _ tw_134)) (fun _ h9 => h9) rfl hin rfl (by decide +kernel) rfl rfl (Nat.le_of_ble_eq_true rfl) (ob_4_3 G _) (fun a ha => ⟨upI_ne ha, fun _ => rfl⟩) d_CS_init_27 (fun H locs hw => ?_)
  refine lv_aload_n hx hb d_CS_init_30 rfl (lv_at hl 0 rfl) ?_
  refine lv_iconst (v := 5) hx hb d_CS_init_31 (by decide) ?_
  refine m_cnewj (n := 44) (k := 43) (N := 5) hx hb (hts _ (List.mem_cons_of_mem _ tw_76)) hK hw hs (by decide) rfl (by decide) rfl (by decide) rfl (by decide) (Nat.le_of_ble_eq_true rfl) (Nat.le_of_ble_eq_true rfl) d_CS_init_32 (fun H hw => ?_)
  refine m_cputF (n := 45) (μ1 := z_23) (i := 37) (ci := 4) (v := .ref (G.2.1 0 + 44)) (ty := .array .long) (C := "RecipePlans$CutSearch") (T := T_CS) (N := 13) hx hb hts (fun _ h9 => List.mem_cons_of_mem _ (inT_CS _ h9)) ty_CS tyok_CS nm_CS hown hK hw (by decide) (by decide) rfl (by decide) rfl 4 (by decide) (hts _ (List.mem_cons_of_mem _ tw_135)) (fun _ h9 => h9) rfl hin rfl (by decide +kernel) rfl rfl (Nat.le_of_ble_eq_true rfl) (ob_4_4 G _) (fun a ha => ⟨upI_ne ha, fun _ => rfl⟩) d_CS_init_34 (fun H locs hw => ?_)
  refine lv_aload_n hx hb d_CS_init_37 rfl (lv_at hl 0 rfl) ?_
  refine lv_bipush (v := 7) hx hb d_CS_init_38 (by decide) ?_
  refine m_cnewj (n := 45) (k := 44) (N := 7) hx hb (hts _ (List.mem_cons_of_mem _ tw_76)) hK hw hs (by decide) rfl (by decide) rfl (by decide) rfl (by decide) (Nat.le_of_ble_eq_true rfl) (Nat.le_of_ble_eq_true rfl) d_CS_init_40 (fun H hw => ?_)
  refine m_cputF (n := 46) (μ1 := z_24) (i := 37) (ci := 4) (v := .ref (G.2.1 0 + 45)) (ty := .array .long) (C := "RecipePlans$CutSearch") (T := T_CS) (N := 13) hx hb hts (fun _ h9 => List.mem_cons_of_mem _ (inT_CS _ h9)) ty_CS tyok_CS nm_CS hown hK hw (by decide) (by decide) rfl (by decide) rfl 5 (by decide) (hts _ (List.mem_cons_of_mem _ tw_136)) (fun _ h9 => h9) rfl hin rfl (by decide +kernel) rfl rfl (Nat.le_of_ble_eq_true rfl) (ob_4_5 G _) (fun a ha => ⟨upI_ne ha, fun _ => rfl⟩) d_CS_init_42 (fun H locs hw => ?_)
  refine lv_aload_n hx hb d_CS_init_45 rfl (lv_at hl 0 rfl) ?_
  refine lv_sipush (v := 256) hx hb d_CS_init_46 (by decide) ?_
  refine m_cnewz (n := 46) (k := 13) (N := 256) hx hb (hts _ (List.mem_cons_of_mem _ tw_161)) hK hw hs (by decide) rfl (by decide) (by decide) rfl (by decide) rfl (by decide) (Nat.le_of_ble_eq_true rfl) (Nat.le_of_ble_eq_true rfl) d_CS_init_49 (fun H hw => ?_)
  refine m_cputF (n := 47) (μ1 := z_25) (i := 37) (ci := 4) (v := .ref (G.2.1 0 + 46)) (ty := .array .boolean) (C := "RecipePlans$CutSearch") (T := T_CS) (N := 13) hx hb hts (fun _ h9 => List.mem_cons_of_mem _ (inT_CS _ h9)) ty_CS tyok_CS nm_CS hown hK hw (by decide) (by decide) rfl (by decide) rfl 6 (by decide) (hts _ (List.mem_cons_of_mem _ tw_137)) (fun _ h9 => h9) rfl hin rfl (by decide +kernel) rfl rfl (Nat.le_of_ble_eq_true rfl) (ob_4_6 G _) (fun a ha => ⟨upI_ne ha, fun _ => rfl⟩) d_CS_init_51 (fun H locs hw => ?_)
  refine lv_aload_n hx hb d_CS_init_54 rfl (lv_at hl 0 rfl) ?_
  refine lv_sipush (v := 256) hx hb d_CS_init_55 (by decide) ?_
  refine m_cnewi (n := 47) (k := 24) (N := 256) hx hb (hts _ (List.mem_cons_of_mem _ tw_75)) hK hw hs (by decide) rfl (by decide) (by decide) rfl (by decide) rfl (by decide) (Nat.le_of_ble_eq_true rfl) (Nat.le_of_ble_eq_true rfl) d_CS_init_58 (fun H hw => ?_)
  refine m_cputF (n := 48) (μ1 := z_26) (i := 37) (ci := 4) (v := .ref (G.2.1 0 + 47)) (ty := .array .int) (C := "RecipePlans$CutSearch") (T := T_CS) (N := 13) hx hb hts (fun _ h9 => List.mem_cons_of_mem _ (inT_CS _ h9)) ty_CS tyok_CS nm_CS hown hK hw (by decide) (by decide) rfl (by decide) rfl 7 (by decide) (hts _ (List.mem_cons_of_mem _ tw_138)) (fun _ h9 => h9) rfl hin rfl (by decide +kernel) rfl rfl (Nat.le_of_ble_eq_true rfl) (ob_4_7 G _) (fun a ha => ⟨upI_ne ha, fun _ => rfl⟩) d_CS_init_60 (fun H locs hw => ?_)
  refine W.cs (cells' := 10) (slots' := 689) rfl rfl ?_
  exact m_cvret hx hb hr hlk hw d_CS_init_63
set_option maxRecDepth 100000 in
set_option maxHeartbeats 4000000 in
theorem k_WS_init (l : Launch) (G : Gw) : CTc l y_WS_init ws_WS_init { frames := 1, cells := 15, slots := 183, locals := 30 } [.ref (G.2.1 0 + 48), .ref (G.2.1 0 + 1), .ref (G.2.1 0 + 18)] G 49 z_27 64 z_34 15 183 := by
  refine m_cmet (cc := prog_7_method_1_code) (maxL := 3) (by decide) rfl rfl (Nat.le_of_ble_eq_true rfl) ?_
  intro p e s m args below meth c ls C hw hl
  obtain ⟨hx, hb, hr, hml, hown, hts, hlk, hK, hsz, hO, hin⟩ := id C
  have hs : G.2.1 0 ≤ s.heap.size := by rw [hsz]; exact Nat.le_add_right _ _
  have hl : lv_has ls 3 [(0, .ref (G.2.1 0 + 48)), (1, .ref (G.2.1 0 + 1)), (2, .ref (G.2.1 0 + 18))] := hl
  refine lv_aload_n hx hb d_WS_init_0 rfl (lv_at hl 0 rfl) ?_
  refine W.objInit hx hb hown (hts _ (List.mem_cons_of_mem _ tw_167)) (hts _ (List.mem_cons_of_mem _ tw_50)) (hts _ (List.mem_cons_of_mem _ tw_51)) rfl (by rw [hml]; exact hl.1) rfl d_WS_init_1 (Nat.le_of_ble_eq_true rfl) (Nat.le_of_ble_eq_true rfl) ?_
  refine W.eq (g2 := F0 m 4 ls []) rfl ?_
  refine lv_aload_n hx hb d_WS_init_4 rfl (lv_at hl 0 rfl) ?_
  refine lv_aload_n hx hb d_WS_init_5 rfl (lv_at hl 1 rfl) ?_
  refine m_cputF (n := 49) (μ1 := z_28) (i := 48) (ci := 5) (v := .ref (G.2.1 0 + 1)) (ty := .object "RecipePlans$Lots") (C := "RecipePlans$WholeSearch") (T := T_WS) (N := 9) hx hb hts (fun _ h9 => List.mem_cons_of_mem _ (inT_WS _ h9)) ty_WS tyok_WS nm_WS hown hK hw (by decide) (by decide) rfl (by decide) rfl 0 (by decide) (hts _ (List.mem_cons_of_mem _ tw_169)) (fun _ h9 => h9) rfl hin rfl (by decide +kernel) rfl rfl (Nat.le_of_ble_eq_true rfl) (ob_5_0 G _) (fun a ha => ⟨upI_ne ha, fun _ => rfl⟩) d_WS_init_6 (fun H locs hw => ?_)
  refine lv_aload_n hx hb d_WS_init_9 rfl (lv_at hl 0 rfl) ?_
  refine lv_aload_n hx hb d_WS_init_10 rfl (lv_at hl 2 rfl) ?_
  refine m_cputF (n := 49) (μ1 := z_29) (i := 48) (ci := 5) (v := .ref (G.2.1 0 + 18)) (ty := .object "RecipePlans$Sides") (C := "RecipePlans$WholeSearch") (T := T_WS) (N := 9) hx hb hts (fun _ h9 => List.mem_cons_of_mem _ (inT_WS _ h9)) ty_WS tyok_WS nm_WS hown hK hw (by decide) (by decide) rfl (by decide) rfl 1 (by decide) (hts _ (List.mem_cons_of_mem _ tw_170)) (fun _ h9 => h9) rfl hin rfl (by decide +kernel) rfl rfl (Nat.le_of_ble_eq_true rfl) (ob_5_1 G _) (fun a ha => ⟨upI_ne ha, fun _ => rfl⟩) d_WS_init_11 (fun H locs hw => ?_)
  refine lv_aload_n hx hb d_WS_init_14 rfl (lv_at hl 0 rfl) ?_
  refine lv_iconst (v := 5) hx hb d_WS_init_15 (by decide) ?_
  refine lv_bipush (v := 16) hx hb d_WS_init_16 (by decide) ?_
  refine m_cmulti (n := 49) (k := 11) (N := 5) (K := 16) hx hb hown (hts _ (List.mem_cons_of_mem _ tw_168)) hO (hts _ (List.mem_cons_of_mem _ tw_76)) hK hw hs (by decide) rfl (by decide) (by decide) rfl rfl (by decide) (by decide) (by decide) rfl rfl (by decide) (by decide) (Nat.le_of_ble_eq_true rfl) (Nat.le_of_ble_eq_true rfl) d_WS_init_18 (fun H hw => ?_)
  have hw : Wc G s 55 z_29 H _ := hw
  refine m_cputF (n := 55) (μ1 := z_30) (i := 48) (ci := 5) (v := .ref (G.2.1 0 + 49)) (ty := .array (.array .long)) (C := "RecipePlans$WholeSearch") (T := T_WS) (N := 9) hx hb hts (fun _ h9 => List.mem_cons_of_mem _ (inT_WS _ h9)) ty_WS tyok_WS nm_WS hown hK hw (by decide) (by decide) rfl (by decide) rfl 2 (by decide) (hts _ (List.mem_cons_of_mem _ tw_171)) (fun _ h9 => h9) rfl hin rfl (by decide +kernel) rfl rfl (Nat.le_of_ble_eq_true rfl) (ob_5_2 G _) (fun a ha => ⟨upI_ne ha, fun _ => rfl⟩) d_WS_init_22 (fun H locs hw => ?_)
  refine lv_aload_n hx hb d_WS_init_25 rfl (lv_at hl 0 rfl) ?_
  refine lv_iconst (v := 5) hx hb d_WS_init_26 (by decide) ?_
  refine lv_bipush (v := 16) hx hb d_WS_init_27 (by decide) ?_
  refine m_cmulti (n := 55) (k := 12) (N := 5) (K := 16) hx hb hown (hts _ (List.mem_cons_of_mem _ tw_168)) hO (hts _ (List.mem_cons_of_mem _ tw_76)) hK hw hs (by decide) rfl (by decide) (by decide) rfl rfl (by decide) (by decide) (by decide) rfl rfl (by decide) (by decide) (Nat.le_of_ble_eq_true rfl) (Nat.le_of_ble_eq_true rfl) d_WS_init_29 (fun H hw => ?_)
  have hw : Wc G s 61 z_30 H _ := hw
  refine m_cputF (n := 61) (μ1 := z_31) (i := 48) (ci := 5) (v := .ref (G.2.1 0 + 55)) (ty := .array (.array .long)) (C := "RecipePlans$WholeSearch") (T := T_WS) (N := 9) hx hb hts (fun _ h9 => List.mem_cons_of_mem _ (inT_WS _ h9)) ty_WS tyok_WS nm_WS hown hK hw (by decide) (by decide) rfl (by decide) rfl 3 (by decide) (hts _ (List.mem_cons_of_mem _ tw_172)) (fun _ h9 => h9) rfl hin rfl (by decide +kernel) rfl rfl (Nat.le_of_ble_eq_true rfl) (ob_5_3 G _) (fun a ha => ⟨upI_ne ha, fun _ => rfl⟩) d_WS_init_33 (fun H locs hw => ?_)
  refine lv_aload_n hx hb d_WS_init_36 rfl (lv_at hl 0 rfl) ?_
  refine lv_iconst (v := 5) hx hb d_WS_init_37 (by decide) ?_
  refine m_cnewj (n := 61) (k := 45) (N := 5) hx hb (hts _ (List.mem_cons_of_mem _ tw_76)) hK hw hs (by decide) rfl (by decide) rfl (by decide) rfl (by decide) (Nat.le_of_ble_eq_true rfl) (Nat.le_of_ble_eq_true rfl) d_WS_init_38 (fun H hw => ?_)
  refine m_cputF (n := 62) (μ1 := z_32) (i := 48) (ci := 5) (v := .ref (G.2.1 0 + 61)) (ty := .array .long) (C := "RecipePlans$WholeSearch") (T := T_WS) (N := 9) hx hb hts (fun _ h9 => List.mem_cons_of_mem _ (inT_WS _ h9)) ty_WS tyok_WS nm_WS hown hK hw (by decide) (by decide) rfl (by decide) rfl 4 (by decide) (hts _ (List.mem_cons_of_mem _ tw_173)) (fun _ h9 => h9) rfl hin rfl (by decide +kernel) rfl rfl (Nat.le_of_ble_eq_true rfl) (ob_5_4 G _) (fun a ha => ⟨upI_ne ha, fun _ => rfl⟩) d_WS_init_40 (fun H locs hw => ?_)
  refine lv_aload_n hx hb d_WS_init_43 rfl (lv_at hl 0 rfl) ?_
  refine lv_iconst (v := 4) hx hb d_WS_init_44 (by decide) ?_
  refine m_cnewi (n := 62) (k := 25) (N := 4) hx hb (hts _ (List.mem_cons_of_mem _ tw_75)) hK hw hs (by decide) rfl (by decide) (by decide) rfl (by decide) rfl (by decide) (Nat.le_of_ble_eq_true rfl) (Nat.le_of_ble_eq_true rfl) d_WS_init_45 (fun H hw => ?_)
  refine m_cputF (n := 63) (μ1 := z_33) (i := 48) (ci := 5) (v := .ref (G.2.1 0 + 62)) (ty := .array .int) (C := "RecipePlans$WholeSearch") (T := T_WS) (N := 9) hx hb hts (fun _ h9 => List.mem_cons_of_mem _ (inT_WS _ h9)) ty_WS tyok_WS nm_WS hown hK hw (by decide) (by decide) rfl (by decide) rfl 5 (by decide) (hts _ (List.mem_cons_of_mem _ tw_174)) (fun _ h9 => h9) rfl hin rfl (by decide +kernel) rfl rfl (Nat.le_of_ble_eq_true rfl) (ob_5_5 G _) (fun a ha => ⟨upI_ne ha, fun _ => rfl⟩) d_WS_init_47 (fun H locs hw => ?_)
  refine lv_aload_n hx hb d_WS_init_50 rfl (lv_at hl 0 rfl) ?_
  refine lv_iconst (v := 4) hx hb d_WS_init_51 (by decide) ?_
  refine m_cnewi (n := 63) (k := 26) (N := 4) hx hb (hts _ (List.mem_cons_of_mem _ tw_75)) hK hw hs (by decide) rfl (by decide) (by decide) rfl (by decide) rfl (by decide) (Nat.le_of_ble_eq_true rfl) (Nat.le_of_ble_eq_true rfl) d_WS_init_52 (fun H hw => ?_)
  refine m_cputF (n := 64) (μ1 := z_34) (i := 48) (ci := 5) (v := .ref (G.2.1 0 + 63)) (ty := .array .int) (C := "RecipePlans$WholeSearch") (T := T_WS) (N := 9) hx hb hts (fun _ h9 => List.mem_cons_of_mem _ (inT_WS _ h9)) ty_WS tyok_WS nm_WS hown hK hw (by decide) (by decide) rfl (by decide) rfl 8 (by decide) (hts _ (List.mem_cons_of_mem _ tw_180)) (fun _ h9 => h9) rfl hin rfl (by decide +kernel) rfl rfl (Nat.le_of_ble_eq_true rfl) (ob_5_8 G _) (fun a ha => ⟨upI_ne ha, fun _ => rfl⟩) d_WS_init_54 (fun H locs hw => ?_)
  refine W.cs (cells' := 15) (slots' := 183) rfl rfl ?_
  exact m_cvret hx hb hr hlk hw d_WS_init_57
set_option maxRecDepth 100000 in
set_option maxHeartbeats 4000000 in
theorem k_Fo_init (l : Launch) (G : Gw) : CTc l y_Fo_init ws_Fo_init { frames := 1, cells := 1, slots := 4, locals := 30 } [.ref (G.2.1 0 + 64)] G 65 z_35 66 z_36 1 4 := by
  refine m_cmet (cc := prog_3_method_1_code) (maxL := 1) (by decide) rfl rfl (Nat.le_of_ble_eq_true rfl) ?_
  intro p e s m args below meth c ls C hw hl
  obtain ⟨hx, hb, hr, hml, hown, hts, hlk, hK, hsz, hO, hin⟩ := id C
  have hs : G.2.1 0 ≤ s.heap.size := by rw [hsz]; exact Nat.le_add_right _ _
  have hl : lv_has ls 1 [(0, .ref (G.2.1 0 + 64))] := hl
  refine lv_aload_n hx hb d_Fo_init_0 rfl (lv_at hl 0 rfl) ?_
  refine W.objInit hx hb hown (hts _ (List.mem_cons_of_mem _ tw_196)) (hts _ (List.mem_cons_of_mem _ tw_50)) (hts _ (List.mem_cons_of_mem _ tw_51)) rfl (by rw [hml]; exact hl.1) rfl d_Fo_init_1 (Nat.le_of_ble_eq_true rfl) (Nat.le_of_ble_eq_true rfl) ?_
  refine W.eq (g2 := F0 m 4 ls []) rfl ?_
  refine lv_aload_n hx hb d_Fo_init_4 rfl (lv_at hl 0 rfl) ?_
  refine lv_iconst (v := 4) hx hb d_Fo_init_5 (by decide) ?_
  refine m_cnewi (n := 65) (k := 27) (N := 4) hx hb (hts _ (List.mem_cons_of_mem _ tw_75)) hK hw hs (by decide) rfl (by decide) (by decide) rfl (by decide) rfl (by decide) (Nat.le_of_ble_eq_true rfl) (Nat.le_of_ble_eq_true rfl) d_Fo_init_6 (fun H hw => ?_)
  refine m_cputF (n := 66) (μ1 := z_36) (i := 64) (ci := 6) (v := .ref (G.2.1 0 + 65)) (ty := .array .int) (C := "RecipePlans$Found") (T := T_Fo) (N := 8) hx hb hts (fun _ h9 => List.mem_cons_of_mem _ (inT_Fo _ h9)) ty_Fo tyok_Fo nm_Fo hown hK hw (by decide) (by decide) rfl (by decide) rfl 2 (by decide) (hts _ (List.mem_cons_of_mem _ tw_201)) (fun _ h9 => h9) rfl hin rfl (by decide +kernel) rfl rfl (Nat.le_of_ble_eq_true rfl) (ob_6_2 G _) (fun a ha => ⟨upI_ne ha, fun _ => rfl⟩) d_Fo_init_8 (fun H locs hw => ?_)
  refine W.cs (cells' := 1) (slots' := 4) rfl rfl ?_
  exact m_cvret hx hb hr hlk hw d_Fo_init_11
set_option maxRecDepth 100000 in
set_option maxHeartbeats 4000000 in
theorem k_RP_init (l : Launch) (G : Gw) : CTc l y_RP_init ws_RP_init { frames := 2, cells := 67, slots := 1125, locals := 53 } [.ref (G.2.1 0 + 0)] G 1 z_0 68 z_39 67 1125 := by
  refine m_cmet (cc := prog_1_method_1_code) (maxL := 1) (by decide) rfl rfl (Nat.le_of_ble_eq_true rfl) ?_
  intro p e s m args below meth c ls C hw hl
  obtain ⟨hx, hb, hr, hml, hown, hts, hlk, hK, hsz, hO, hin⟩ := id C
  have hs : G.2.1 0 ≤ s.heap.size := by rw [hsz]; exact Nat.le_add_right _ _
  have hl : lv_has ls 1 [(0, .ref (G.2.1 0 + 0))] := hl
  refine lv_aload_n hx hb d_RP_init_0 rfl (lv_at hl 0 rfl) ?_
  refine W.objInit hx hb hown (hts _ (List.mem_cons_of_mem _ tw_49)) (hts _ (List.mem_cons_of_mem _ tw_50)) (hts _ (List.mem_cons_of_mem _ tw_51)) rfl (by rw [hml]; exact hl.1) rfl d_RP_init_1 (Nat.le_of_ble_eq_true rfl) (Nat.le_of_ble_eq_true rfl) ?_
  refine W.eq (g2 := F0 m 4 ls []) rfl ?_
  refine lv_aload_n hx hb d_RP_init_4 rfl (lv_at hl 0 rfl) ?_
  refine m_cnew (n := 1) (N := 4) (ci := 1) (C := "RecipePlans$Lots") (T := T_Lo) hx hb hts (fun _ h9 => List.mem_cons_of_mem _ (inT_Lo _ h9)) ty_Lo tyok_Lo hown (hts _ (List.mem_cons_of_mem _ tw_52)) (hts _ (List.mem_cons_of_mem _ tw_53)) (hts _ (List.mem_cons_of_mem _ tw_35)) hK hw hs (by decide) rfl (by decide) rfl df_Lo (Nat.le_of_ble_eq_true rfl) (Nat.le_of_ble_eq_true rfl) d_RP_init_5 (fun H hw => ?_)
  refine lv_dup hx hb d_RP_init_8 rfl ?_
  refine m_ccall (n1 := 12) (μ1 := z_8) (va_runI (As := []) (rest := [.ref (G.2.1 0 + 1), .ref (G.2.1 0 + 0)]) ⟨hx, hb, hml, hown, hts⟩ (k_Lo_init l G) (cwI 0 hts (gd0 tw_56) rfl rfl rfl (hts _ (List.mem_cons_of_mem _ tw_35)) (hts _ (List.mem_cons_of_mem _ tw_54)) (hts _ (List.mem_cons_of_mem _ tw_55)) rfl (by decide +kernel) ⟨Nat.le_of_ble_eq_true rfl, Nat.le_of_ble_eq_true rfl⟩) (m_cpre hK hO hw) rfl rfl hl.1 rfl (lv_room (Nat.le_of_ble_eq_true rfl)) d_RP_init_9 ⟨Nat.le_of_ble_eq_true rfl, Nat.le_of_ble_eq_true rfl⟩) hs hw (fun H locs hw => ?_)
  refine m_cputF (n := 12) (μ1 := z_9) (i := 0) (ci := 0) (v := .ref (G.2.1 0 + 1)) (ty := .object "RecipePlans$Lots") (C := "RecipePlans") (T := T_RP) (N := 8) hx hb hts (fun _ h9 => List.mem_cons_of_mem _ (inT_RP _ h9)) ty_RP tyok_RP nm_RP hown hK hw (by decide) (by decide) rfl (by decide) rfl 0 (by decide) (hts _ (List.mem_cons_of_mem _ tw_221)) (fun _ h9 => h9) rfl hin rfl (by decide +kernel) rfl rfl (Nat.le_of_ble_eq_true rfl) (ob_0_0 G _) (fun a ha => ⟨upI_ne ha, fun _ => rfl⟩) d_RP_init_12 (fun H locs hw => ?_)
  refine lv_aload_n hx hb d_RP_init_15 rfl (lv_at hl 0 rfl) ?_
  refine m_cnew (n := 12) (N := 6) (ci := 2) (C := "RecipePlans$Rules") (T := T_Ru) hx hb hts (fun _ h9 => List.mem_cons_of_mem _ (inT_Ru _ h9)) ty_Ru tyok_Ru hown (hts _ (List.mem_cons_of_mem _ tw_77)) (hts _ (List.mem_cons_of_mem _ tw_78)) (hts _ (List.mem_cons_of_mem _ tw_36)) hK hw hs (by decide) rfl (by decide) rfl df_Ru (Nat.le_of_ble_eq_true rfl) (Nat.le_of_ble_eq_true rfl) d_RP_init_16 (fun H hw => ?_)
  refine lv_dup hx hb d_RP_init_19 rfl ?_
  refine m_ccall (n1 := 18) (μ1 := z_14) (va_runI (As := []) (rest := [.ref (G.2.1 0 + 12), .ref (G.2.1 0 + 0)]) ⟨hx, hb, hml, hown, hts⟩ (k_Ru_init l G) (cwI 0 hts (gd0 tw_81) rfl rfl rfl (hts _ (List.mem_cons_of_mem _ tw_36)) (hts _ (List.mem_cons_of_mem _ tw_79)) (hts _ (List.mem_cons_of_mem _ tw_80)) rfl (by decide +kernel) ⟨Nat.le_of_ble_eq_true rfl, Nat.le_of_ble_eq_true rfl⟩) (m_cpre hK hO hw) rfl rfl hl.1 rfl (lv_room (Nat.le_of_ble_eq_true rfl)) d_RP_init_20 ⟨Nat.le_of_ble_eq_true rfl, Nat.le_of_ble_eq_true rfl⟩) hs hw (fun H locs hw => ?_)
  refine m_cputF (n := 18) (μ1 := z_15) (i := 0) (ci := 0) (v := .ref (G.2.1 0 + 12)) (ty := .object "RecipePlans$Rules") (C := "RecipePlans") (T := T_RP) (N := 8) hx hb hts (fun _ h9 => List.mem_cons_of_mem _ (inT_RP _ h9)) ty_RP tyok_RP nm_RP hown hK hw (by decide) (by decide) rfl (by decide) rfl 1 (by decide) (hts _ (List.mem_cons_of_mem _ tw_222)) (fun _ h9 => h9) rfl hin rfl (by decide +kernel) rfl rfl (Nat.le_of_ble_eq_true rfl) (ob_0_1 G _) (fun a ha => ⟨upI_ne ha, fun _ => rfl⟩) d_RP_init_23 (fun H locs hw => ?_)
  refine lv_aload_n hx hb d_RP_init_26 rfl (lv_at hl 0 rfl) ?_
  refine m_cnew (n := 18) (N := 3) (ci := 3) (C := "RecipePlans$Sides") (T := T_Si) hx hb hts (fun _ h9 => List.mem_cons_of_mem _ (inT_Si _ h9)) ty_Si tyok_Si hown (hts _ (List.mem_cons_of_mem _ tw_106)) (hts _ (List.mem_cons_of_mem _ tw_107)) (hts _ (List.mem_cons_of_mem _ tw_37)) hK hw hs (by decide) rfl (by decide) rfl df_Si (Nat.le_of_ble_eq_true rfl) (Nat.le_of_ble_eq_true rfl) d_RP_init_27 (fun H hw => ?_)
  refine lv_dup hx hb d_RP_init_30 rfl ?_
  refine m_ccall (n1 := 37) (μ1 := z_17) (va_runI (As := []) (rest := [.ref (G.2.1 0 + 18), .ref (G.2.1 0 + 0)]) ⟨hx, hb, hml, hown, hts⟩ (k_Si_init l G) (cwI 0 hts (gd0 tw_110) rfl rfl rfl (hts _ (List.mem_cons_of_mem _ tw_37)) (hts _ (List.mem_cons_of_mem _ tw_108)) (hts _ (List.mem_cons_of_mem _ tw_109)) rfl (by decide +kernel) ⟨Nat.le_of_ble_eq_true rfl, Nat.le_of_ble_eq_true rfl⟩) (m_cpre hK hO hw) rfl rfl hl.1 rfl (lv_room (Nat.le_of_ble_eq_true rfl)) d_RP_init_31 ⟨Nat.le_of_ble_eq_true rfl, Nat.le_of_ble_eq_true rfl⟩) hs hw (fun H locs hw => ?_)
  refine m_cputF (n := 37) (μ1 := z_18) (i := 0) (ci := 0) (v := .ref (G.2.1 0 + 18)) (ty := .object "RecipePlans$Sides") (C := "RecipePlans") (T := T_RP) (N := 8) hx hb hts (fun _ h9 => List.mem_cons_of_mem _ (inT_RP _ h9)) ty_RP tyok_RP nm_RP hown hK hw (by decide) (by decide) rfl (by decide) rfl 2 (by decide) (hts _ (List.mem_cons_of_mem _ tw_223)) (fun _ h9 => h9) rfl hin rfl (by decide +kernel) rfl rfl (Nat.le_of_ble_eq_true rfl) (ob_0_2 G _) (fun a ha => ⟨upI_ne ha, fun _ => rfl⟩) d_RP_init_34 (fun H locs hw => ?_)
  refine lv_aload_n hx hb d_RP_init_37 rfl (lv_at hl 0 rfl) ?_
  refine m_cnew (n := 37) (N := 13) (ci := 4) (C := "RecipePlans$CutSearch") (T := T_CS) hx hb hts (fun _ h9 => List.mem_cons_of_mem _ (inT_CS _ h9)) ty_CS tyok_CS hown (hts _ (List.mem_cons_of_mem _ tw_124)) (hts _ (List.mem_cons_of_mem _ tw_125)) (hts _ (List.mem_cons_of_mem _ tw_38)) hK hw hs (by decide) rfl (by decide) rfl df_CS (Nat.le_of_ble_eq_true rfl) (Nat.le_of_ble_eq_true rfl) d_RP_init_38 (fun H hw => ?_)
  refine lv_dup hx hb d_RP_init_41 rfl ?_
  refine lv_aload_n hx hb d_RP_init_42 rfl (lv_at hl 0 rfl) ?_
  refine va_get (D := G.1) (ci := 0) (v := .ref (G.2.1 0 + 1)) (C := "RecipePlans") (T := T_RP) (N := 8) hx hb hts (fun _ h9 => List.mem_cons_of_mem _ (inT_RP _ h9)) hown hK hw.2.1 0 (WG_obj (ci := 0) (by decide) rfl (by decide)) rfl 0 (by decide) (hts _ (List.mem_cons_of_mem _ tw_221)) (fun _ h9 => h9) (by rfl) d_RP_init_43 ?_
  refine lv_aload_n hx hb d_RP_init_46 rfl (lv_at hl 0 rfl) ?_
  refine va_get (D := G.1) (ci := 0) (v := .ref (G.2.1 0 + 12)) (C := "RecipePlans") (T := T_RP) (N := 8) hx hb hts (fun _ h9 => List.mem_cons_of_mem _ (inT_RP _ h9)) hown hK hw.2.1 0 (WG_obj (ci := 0) (by decide) rfl (by decide)) rfl 1 (by decide) (hts _ (List.mem_cons_of_mem _ tw_222)) (fun _ h9 => h9) (by rfl) d_RP_init_47 ?_
  refine lv_aload_n hx hb d_RP_init_50 rfl (lv_at hl 0 rfl) ?_
  refine va_get (D := G.1) (ci := 0) (v := .ref (G.2.1 0 + 18)) (C := "RecipePlans") (T := T_RP) (N := 8) hx hb hts (fun _ h9 => List.mem_cons_of_mem _ (inT_RP _ h9)) hown hK hw.2.1 0 (WG_obj (ci := 0) (by decide) rfl (by decide)) rfl 2 (by decide) (hts _ (List.mem_cons_of_mem _ tw_223)) (fun _ h9 => h9) (by rfl) d_RP_init_51 ?_
  refine m_ccall (n1 := 48) (μ1 := z_26) (va_runI (As := [.ref (G.2.1 0 + 1), .ref (G.2.1 0 + 12), .ref (G.2.1 0 + 18)]) (rest := [.ref (G.2.1 0 + 37), .ref (G.2.1 0 + 0)]) ⟨hx, hb, hml, hown, hts⟩ (k_CS_init l G) (cwI 3 hts (gd0 tw_128) rfl rfl rfl (hts _ (List.mem_cons_of_mem _ tw_38)) (hts _ (List.mem_cons_of_mem _ tw_126)) (hts _ (List.mem_cons_of_mem _ tw_127)) rfl (by decide +kernel) ⟨Nat.le_of_ble_eq_true rfl, Nat.le_of_ble_eq_true rfl⟩) (m_cpre hK hO hw) rfl rfl hl.1 rfl (lv_room (Nat.le_of_ble_eq_true rfl)) d_RP_init_54 ⟨Nat.le_of_ble_eq_true rfl, Nat.le_of_ble_eq_true rfl⟩) hs hw (fun H locs hw => ?_)
  refine m_cputF (n := 48) (μ1 := z_27) (i := 0) (ci := 0) (v := .ref (G.2.1 0 + 37)) (ty := .object "RecipePlans$CutSearch") (C := "RecipePlans") (T := T_RP) (N := 8) hx hb hts (fun _ h9 => List.mem_cons_of_mem _ (inT_RP _ h9)) ty_RP tyok_RP nm_RP hown hK hw (by decide) (by decide) rfl (by decide) rfl 3 (by decide) (hts _ (List.mem_cons_of_mem _ tw_224)) (fun _ h9 => h9) rfl hin rfl (by decide +kernel) rfl rfl (Nat.le_of_ble_eq_true rfl) (ob_0_3 G _) (fun a ha => ⟨upI_ne ha, fun _ => rfl⟩) d_RP_init_57 (fun H locs hw => ?_)
  refine lv_aload_n hx hb d_RP_init_60 rfl (lv_at hl 0 rfl) ?_
  refine m_cnew (n := 48) (N := 9) (ci := 5) (C := "RecipePlans$WholeSearch") (T := T_WS) hx hb hts (fun _ h9 => List.mem_cons_of_mem _ (inT_WS _ h9)) ty_WS tyok_WS hown (hts _ (List.mem_cons_of_mem _ tw_162)) (hts _ (List.mem_cons_of_mem _ tw_163)) (hts _ (List.mem_cons_of_mem _ tw_39)) hK hw hs (by decide) rfl (by decide) rfl df_WS (Nat.le_of_ble_eq_true rfl) (Nat.le_of_ble_eq_true rfl) d_RP_init_61 (fun H hw => ?_)
  refine lv_dup hx hb d_RP_init_64 rfl ?_
  refine lv_aload_n hx hb d_RP_init_65 rfl (lv_at hl 0 rfl) ?_
  refine va_get (D := G.1) (ci := 0) (v := .ref (G.2.1 0 + 1)) (C := "RecipePlans") (T := T_RP) (N := 8) hx hb hts (fun _ h9 => List.mem_cons_of_mem _ (inT_RP _ h9)) hown hK hw.2.1 0 (WG_obj (ci := 0) (by decide) rfl (by decide)) rfl 0 (by decide) (hts _ (List.mem_cons_of_mem _ tw_221)) (fun _ h9 => h9) (by rfl) d_RP_init_66 ?_
  refine lv_aload_n hx hb d_RP_init_69 rfl (lv_at hl 0 rfl) ?_
  refine va_get (D := G.1) (ci := 0) (v := .ref (G.2.1 0 + 18)) (C := "RecipePlans") (T := T_RP) (N := 8) hx hb hts (fun _ h9 => List.mem_cons_of_mem _ (inT_RP _ h9)) hown hK hw.2.1 0 (WG_obj (ci := 0) (by decide) rfl (by decide)) rfl 2 (by decide) (hts _ (List.mem_cons_of_mem _ tw_223)) (fun _ h9 => h9) (by rfl) d_RP_init_70 ?_
  refine m_ccall (n1 := 64) (μ1 := z_34) (va_runI (As := [.ref (G.2.1 0 + 1), .ref (G.2.1 0 + 18)]) (rest := [.ref (G.2.1 0 + 48), .ref (G.2.1 0 + 0)]) ⟨hx, hb, hml, hown, hts⟩ (k_WS_init l G) (cwI 2 hts (gd0 tw_166) rfl rfl rfl (hts _ (List.mem_cons_of_mem _ tw_39)) (hts _ (List.mem_cons_of_mem _ tw_164)) (hts _ (List.mem_cons_of_mem _ tw_165)) rfl (by decide +kernel) ⟨Nat.le_of_ble_eq_true rfl, Nat.le_of_ble_eq_true rfl⟩) (m_cpre hK hO hw) rfl rfl hl.1 rfl (lv_room (Nat.le_of_ble_eq_true rfl)) d_RP_init_73 ⟨Nat.le_of_ble_eq_true rfl, Nat.le_of_ble_eq_true rfl⟩) hs hw (fun H locs hw => ?_)
  refine m_cputF (n := 64) (μ1 := z_35) (i := 0) (ci := 0) (v := .ref (G.2.1 0 + 48)) (ty := .object "RecipePlans$WholeSearch") (C := "RecipePlans") (T := T_RP) (N := 8) hx hb hts (fun _ h9 => List.mem_cons_of_mem _ (inT_RP _ h9)) ty_RP tyok_RP nm_RP hown hK hw (by decide) (by decide) rfl (by decide) rfl 4 (by decide) (hts _ (List.mem_cons_of_mem _ tw_225)) (fun _ h9 => h9) rfl hin rfl (by decide +kernel) rfl rfl (Nat.le_of_ble_eq_true rfl) (ob_0_4 G _) (fun a ha => ⟨upI_ne ha, fun _ => rfl⟩) d_RP_init_76 (fun H locs hw => ?_)
  refine lv_aload_n hx hb d_RP_init_79 rfl (lv_at hl 0 rfl) ?_
  refine m_cnew (n := 64) (N := 8) (ci := 6) (C := "RecipePlans$Found") (T := T_Fo) hx hb hts (fun _ h9 => List.mem_cons_of_mem _ (inT_Fo _ h9)) ty_Fo tyok_Fo hown (hts _ (List.mem_cons_of_mem _ tw_191)) (hts _ (List.mem_cons_of_mem _ tw_192)) (hts _ (List.mem_cons_of_mem _ tw_40)) hK hw hs (by decide) rfl (by decide) rfl df_Fo (Nat.le_of_ble_eq_true rfl) (Nat.le_of_ble_eq_true rfl) d_RP_init_80 (fun H hw => ?_)
  refine lv_dup hx hb d_RP_init_83 rfl ?_
  refine m_ccall (n1 := 66) (μ1 := z_36) (va_runI (As := []) (rest := [.ref (G.2.1 0 + 64), .ref (G.2.1 0 + 0)]) ⟨hx, hb, hml, hown, hts⟩ (k_Fo_init l G) (cwI 0 hts (gd0 tw_195) rfl rfl rfl (hts _ (List.mem_cons_of_mem _ tw_40)) (hts _ (List.mem_cons_of_mem _ tw_193)) (hts _ (List.mem_cons_of_mem _ tw_194)) rfl (by decide +kernel) ⟨Nat.le_of_ble_eq_true rfl, Nat.le_of_ble_eq_true rfl⟩) (m_cpre hK hO hw) rfl rfl hl.1 rfl (lv_room (Nat.le_of_ble_eq_true rfl)) d_RP_init_84 ⟨Nat.le_of_ble_eq_true rfl, Nat.le_of_ble_eq_true rfl⟩) hs hw (fun H locs hw => ?_)
  refine m_cputF (n := 66) (μ1 := z_37) (i := 0) (ci := 0) (v := .ref (G.2.1 0 + 64)) (ty := .object "RecipePlans$Found") (C := "RecipePlans") (T := T_RP) (N := 8) hx hb hts (fun _ h9 => List.mem_cons_of_mem _ (inT_RP _ h9)) ty_RP tyok_RP nm_RP hown hK hw (by decide) (by decide) rfl (by decide) rfl 5 (by decide) (hts _ (List.mem_cons_of_mem _ tw_226)) (fun _ h9 => h9) rfl hin rfl (by decide +kernel) rfl rfl (Nat.le_of_ble_eq_true rfl) (ob_0_5 G _) (fun a ha => ⟨upI_ne ha, fun _ => rfl⟩) d_RP_init_87 (fun H locs hw => ?_)
  refine lv_aload_n hx hb d_RP_init_90 rfl (lv_at hl 0 rfl) ?_
  refine lv_iconst (v := 5) hx hb d_RP_init_91 (by decide) ?_
  refine m_cnewj (n := 66) (k := 40) (N := 5) hx hb (hts _ (List.mem_cons_of_mem _ tw_76)) hK hw hs (by decide) rfl (by decide) rfl (by decide) rfl (by decide) (Nat.le_of_ble_eq_true rfl) (Nat.le_of_ble_eq_true rfl) d_RP_init_92 (fun H hw => ?_)
  refine m_cputF (n := 67) (μ1 := z_38) (i := 0) (ci := 0) (v := .ref (G.2.1 0 + 66)) (ty := .array .long) (C := "RecipePlans") (T := T_RP) (N := 8) hx hb hts (fun _ h9 => List.mem_cons_of_mem _ (inT_RP _ h9)) ty_RP tyok_RP nm_RP hown hK hw (by decide) (by decide) rfl (by decide) rfl 6 (by decide) (hts _ (List.mem_cons_of_mem _ tw_227)) (fun _ h9 => h9) rfl hin rfl (by decide +kernel) rfl rfl (Nat.le_of_ble_eq_true rfl) (ob_0_6 G _) (fun a ha => ⟨upI_ne ha, fun _ => rfl⟩) d_RP_init_94 (fun H locs hw => ?_)
  refine lv_aload_n hx hb d_RP_init_97 rfl (lv_at hl 0 rfl) ?_
  refine lv_bipush (v := 7) hx hb d_RP_init_98 (by decide) ?_
  refine m_cnewj (n := 67) (k := 41) (N := 7) hx hb (hts _ (List.mem_cons_of_mem _ tw_76)) hK hw hs (by decide) rfl (by decide) rfl (by decide) rfl (by decide) (Nat.le_of_ble_eq_true rfl) (Nat.le_of_ble_eq_true rfl) d_RP_init_100 (fun H hw => ?_)
  refine m_cputF (n := 68) (μ1 := z_39) (i := 0) (ci := 0) (v := .ref (G.2.1 0 + 67)) (ty := .array .long) (C := "RecipePlans") (T := T_RP) (N := 8) hx hb hts (fun _ h9 => List.mem_cons_of_mem _ (inT_RP _ h9)) ty_RP tyok_RP nm_RP hown hK hw (by decide) (by decide) rfl (by decide) rfl 7 (by decide) (hts _ (List.mem_cons_of_mem _ tw_228)) (fun _ h9 => h9) rfl hin rfl (by decide +kernel) rfl rfl (Nat.le_of_ble_eq_true rfl) (ob_0_7 G _) (fun a ha => ⟨upI_ne ha, fun _ => rfl⟩) d_RP_init_102 (fun H locs hw => ?_)
  refine W.cs (cells' := 67) (slots' := 1125) rfl rfl ?_
  exact m_cvret hx hb hr hlk hw d_RP_init_105
set_option maxRecDepth 100000 in
set_option maxHeartbeats 4000000 in
theorem k_Mo_init (l : Launch) (G : Gw) : CTc l y_Mo_init ws_Mo_init { frames := 1, cells := 16, slots := 492, locals := 30 } [.ref (G.2.1 0 + 68)] G 69 z_39 85 z_56 16 492 := by
  refine m_cmet (cc := prog_9_method_1_code) (maxL := 1) (by decide) rfl rfl (Nat.le_of_ble_eq_true rfl) ?_
  intro p e s m args below meth c ls C hw hl
  obtain ⟨hx, hb, hr, hml, hown, hts, hlk, hK, hsz, hO, hin⟩ := id C
  have hs : G.2.1 0 ≤ s.heap.size := by rw [hsz]; exact Nat.le_add_right _ _
  have hl : lv_has ls 1 [(0, .ref (G.2.1 0 + 68))] := hl
  refine lv_aload_n hx hb d_Mo_init_0 rfl (lv_at hl 0 rfl) ?_
  refine W.objInit hx hb hown (hts _ (List.mem_cons_of_mem _ tw_452)) (hts _ (List.mem_cons_of_mem _ tw_50)) (hts _ (List.mem_cons_of_mem _ tw_51)) rfl (by rw [hml]; exact hl.1) rfl d_Mo_init_1 (Nat.le_of_ble_eq_true rfl) (Nat.le_of_ble_eq_true rfl) ?_
  refine W.eq (g2 := F0 m 4 ls []) rfl ?_
  refine lv_aload_n hx hb d_Mo_init_4 rfl (lv_at hl 0 rfl) ?_
  refine lv_iconst (v := 4) hx hb d_Mo_init_5 (by decide) ?_
  refine m_cnewi (n := 69) (k := 28) (N := 4) hx hb (hts _ (List.mem_cons_of_mem _ tw_75)) hK hw hs (by decide) rfl (by decide) (by decide) rfl (by decide) rfl (by decide) (Nat.le_of_ble_eq_true rfl) (Nat.le_of_ble_eq_true rfl) d_Mo_init_6 (fun H hw => ?_)
  refine m_cputF (n := 70) (μ1 := z_40) (i := 68) (ci := 7) (v := .ref (G.2.1 0 + 69)) (ty := .array .int) (C := "RecipePlansModel") (T := T_Mo) (N := 24) hx hb hts (fun _ h9 => List.mem_cons_of_mem _ (inT_Mo _ h9)) ty_Mo tyok_Mo nm_Mo hown hK hw (by decide) (by decide) rfl (by decide) rfl 1 (by decide) (hts _ (List.mem_cons_of_mem _ tw_454)) (fun _ h9 => h9) rfl hin rfl (by decide +kernel) rfl rfl (Nat.le_of_ble_eq_true rfl) (ob_7_1 G _) (fun a ha => ⟨upI_ne ha, fun _ => rfl⟩) d_Mo_init_8 (fun H locs hw => ?_)
  refine lv_aload_n hx hb d_Mo_init_11 rfl (lv_at hl 0 rfl) ?_
  refine lv_iconst (v := 4) hx hb d_Mo_init_12 (by decide) ?_
  refine m_cnewi (n := 70) (k := 29) (N := 4) hx hb (hts _ (List.mem_cons_of_mem _ tw_75)) hK hw hs (by decide) rfl (by decide) (by decide) rfl (by decide) rfl (by decide) (Nat.le_of_ble_eq_true rfl) (Nat.le_of_ble_eq_true rfl) d_Mo_init_13 (fun H hw => ?_)
  refine m_cputF (n := 71) (μ1 := z_41) (i := 68) (ci := 7) (v := .ref (G.2.1 0 + 70)) (ty := .array .int) (C := "RecipePlansModel") (T := T_Mo) (N := 24) hx hb hts (fun _ h9 => List.mem_cons_of_mem _ (inT_Mo _ h9)) ty_Mo tyok_Mo nm_Mo hown hK hw (by decide) (by decide) rfl (by decide) rfl 2 (by decide) (hts _ (List.mem_cons_of_mem _ tw_455)) (fun _ h9 => h9) rfl hin rfl (by decide +kernel) rfl rfl (Nat.le_of_ble_eq_true rfl) (ob_7_2 G _) (fun a ha => ⟨upI_ne ha, fun _ => rfl⟩) d_Mo_init_15 (fun H locs hw => ?_)
  refine lv_aload_n hx hb d_Mo_init_18 rfl (lv_at hl 0 rfl) ?_
  refine lv_bipush (v := 20) hx hb d_Mo_init_19 (by decide) ?_
  refine m_cnewi (n := 71) (k := 30) (N := 20) hx hb (hts _ (List.mem_cons_of_mem _ tw_75)) hK hw hs (by decide) rfl (by decide) (by decide) rfl (by decide) rfl (by decide) (Nat.le_of_ble_eq_true rfl) (Nat.le_of_ble_eq_true rfl) d_Mo_init_21 (fun H hw => ?_)
  refine m_cputF (n := 72) (μ1 := z_42) (i := 68) (ci := 7) (v := .ref (G.2.1 0 + 71)) (ty := .array .int) (C := "RecipePlansModel") (T := T_Mo) (N := 24) hx hb hts (fun _ h9 => List.mem_cons_of_mem _ (inT_Mo _ h9)) ty_Mo tyok_Mo nm_Mo hown hK hw (by decide) (by decide) rfl (by decide) rfl 3 (by decide) (hts _ (List.mem_cons_of_mem _ tw_456)) (fun _ h9 => h9) rfl hin rfl (by decide +kernel) rfl rfl (Nat.le_of_ble_eq_true rfl) (ob_7_3 G _) (fun a ha => ⟨upI_ne ha, fun _ => rfl⟩) d_Mo_init_23 (fun H locs hw => ?_)
  refine lv_aload_n hx hb d_Mo_init_26 rfl (lv_at hl 0 rfl) ?_
  refine lv_bipush (v := 8) hx hb d_Mo_init_27 (by decide) ?_
  refine m_cnewz (n := 72) (k := 14) (N := 8) hx hb (hts _ (List.mem_cons_of_mem _ tw_161)) hK hw hs (by decide) rfl (by decide) (by decide) rfl (by decide) rfl (by decide) (Nat.le_of_ble_eq_true rfl) (Nat.le_of_ble_eq_true rfl) d_Mo_init_29 (fun H hw => ?_)
  refine m_cputF (n := 73) (μ1 := z_43) (i := 68) (ci := 7) (v := .ref (G.2.1 0 + 72)) (ty := .array .boolean) (C := "RecipePlansModel") (T := T_Mo) (N := 24) hx hb hts (fun _ h9 => List.mem_cons_of_mem _ (inT_Mo _ h9)) ty_Mo tyok_Mo nm_Mo hown hK hw (by decide) (by decide) rfl (by decide) rfl 4 (by decide) (hts _ (List.mem_cons_of_mem _ tw_457)) (fun _ h9 => h9) rfl hin rfl (by decide +kernel) rfl rfl (Nat.le_of_ble_eq_true rfl) (ob_7_4 G _) (fun a ha => ⟨upI_ne ha, fun _ => rfl⟩) d_Mo_init_31 (fun H locs hw => ?_)
  refine lv_aload_n hx hb d_Mo_init_34 rfl (lv_at hl 0 rfl) ?_
  refine lv_bipush (v := 8) hx hb d_Mo_init_35 (by decide) ?_
  refine m_cnewi (n := 73) (k := 31) (N := 8) hx hb (hts _ (List.mem_cons_of_mem _ tw_75)) hK hw hs (by decide) rfl (by decide) (by decide) rfl (by decide) rfl (by decide) (Nat.le_of_ble_eq_true rfl) (Nat.le_of_ble_eq_true rfl) d_Mo_init_37 (fun H hw => ?_)
  refine m_cputF (n := 74) (μ1 := z_44) (i := 68) (ci := 7) (v := .ref (G.2.1 0 + 73)) (ty := .array .int) (C := "RecipePlansModel") (T := T_Mo) (N := 24) hx hb hts (fun _ h9 => List.mem_cons_of_mem _ (inT_Mo _ h9)) ty_Mo tyok_Mo nm_Mo hown hK hw (by decide) (by decide) rfl (by decide) rfl 5 (by decide) (hts _ (List.mem_cons_of_mem _ tw_458)) (fun _ h9 => h9) rfl hin rfl (by decide +kernel) rfl rfl (Nat.le_of_ble_eq_true rfl) (ob_7_5 G _) (fun a ha => ⟨upI_ne ha, fun _ => rfl⟩) d_Mo_init_39 (fun H locs hw => ?_)
  refine lv_aload_n hx hb d_Mo_init_42 rfl (lv_at hl 0 rfl) ?_
  refine lv_bipush (v := 8) hx hb d_Mo_init_43 (by decide) ?_
  refine m_cnewi (n := 74) (k := 32) (N := 8) hx hb (hts _ (List.mem_cons_of_mem _ tw_75)) hK hw hs (by decide) rfl (by decide) (by decide) rfl (by decide) rfl (by decide) (Nat.le_of_ble_eq_true rfl) (Nat.le_of_ble_eq_true rfl) d_Mo_init_45 (fun H hw => ?_)
  refine m_cputF (n := 75) (μ1 := z_45) (i := 68) (ci := 7) (v := .ref (G.2.1 0 + 74)) (ty := .array .int) (C := "RecipePlansModel") (T := T_Mo) (N := 24) hx hb hts (fun _ h9 => List.mem_cons_of_mem _ (inT_Mo _ h9)) ty_Mo tyok_Mo nm_Mo hown hK hw (by decide) (by decide) rfl (by decide) rfl 6 (by decide) (hts _ (List.mem_cons_of_mem _ tw_459)) (fun _ h9 => h9) rfl hin rfl (by decide +kernel) rfl rfl (Nat.le_of_ble_eq_true rfl) (ob_7_6 G _) (fun a ha => ⟨upI_ne ha, fun _ => rfl⟩) d_Mo_init_47 (fun H locs hw => ?_)
  refine lv_aload_n hx hb d_Mo_init_50 rfl (lv_at hl 0 rfl) ?_
  refine lv_bipush (v := 8) hx hb d_Mo_init_51 (by decide) ?_
  refine m_cnewi (n := 75) (k := 33) (N := 8) hx hb (hts _ (List.mem_cons_of_mem _ tw_75)) hK hw hs (by decide) rfl (by decide) (by decide) rfl (by decide) rfl (by decide) (Nat.le_of_ble_eq_true rfl) (Nat.le_of_ble_eq_true rfl) d_Mo_init_53 (fun H hw => ?_)
  refine m_cputF (n := 76) (μ1 := z_46) (i := 68) (ci := 7) (v := .ref (G.2.1 0 + 75)) (ty := .array .int) (C := "RecipePlansModel") (T := T_Mo) (N := 24) hx hb hts (fun _ h9 => List.mem_cons_of_mem _ (inT_Mo _ h9)) ty_Mo tyok_Mo nm_Mo hown hK hw (by decide) (by decide) rfl (by decide) rfl 7 (by decide) (hts _ (List.mem_cons_of_mem _ tw_460)) (fun _ h9 => h9) rfl hin rfl (by decide +kernel) rfl rfl (Nat.le_of_ble_eq_true rfl) (ob_7_7 G _) (fun a ha => ⟨upI_ne ha, fun _ => rfl⟩) d_Mo_init_55 (fun H locs hw => ?_)
  refine lv_aload_n hx hb d_Mo_init_58 rfl (lv_at hl 0 rfl) ?_
  refine lv_bipush (v := 8) hx hb d_Mo_init_59 (by decide) ?_
  refine m_cnewi (n := 76) (k := 34) (N := 8) hx hb (hts _ (List.mem_cons_of_mem _ tw_75)) hK hw hs (by decide) rfl (by decide) (by decide) rfl (by decide) rfl (by decide) (Nat.le_of_ble_eq_true rfl) (Nat.le_of_ble_eq_true rfl) d_Mo_init_61 (fun H hw => ?_)
  refine m_cputF (n := 77) (μ1 := z_47) (i := 68) (ci := 7) (v := .ref (G.2.1 0 + 76)) (ty := .array .int) (C := "RecipePlansModel") (T := T_Mo) (N := 24) hx hb hts (fun _ h9 => List.mem_cons_of_mem _ (inT_Mo _ h9)) ty_Mo tyok_Mo nm_Mo hown hK hw (by decide) (by decide) rfl (by decide) rfl 8 (by decide) (hts _ (List.mem_cons_of_mem _ tw_461)) (fun _ h9 => h9) rfl hin rfl (by decide +kernel) rfl rfl (Nat.le_of_ble_eq_true rfl) (ob_7_8 G _) (fun a ha => ⟨upI_ne ha, fun _ => rfl⟩) d_Mo_init_63 (fun H locs hw => ?_)
  refine lv_aload_n hx hb d_Mo_init_66 rfl (lv_at hl 0 rfl) ?_
  refine lv_bipush (v := 8) hx hb d_Mo_init_67 (by decide) ?_
  refine m_cnewi (n := 77) (k := 35) (N := 8) hx hb (hts _ (List.mem_cons_of_mem _ tw_75)) hK hw hs (by decide) rfl (by decide) (by decide) rfl (by decide) rfl (by decide) (Nat.le_of_ble_eq_true rfl) (Nat.le_of_ble_eq_true rfl) d_Mo_init_69 (fun H hw => ?_)
  refine m_cputF (n := 78) (μ1 := z_48) (i := 68) (ci := 7) (v := .ref (G.2.1 0 + 77)) (ty := .array .int) (C := "RecipePlansModel") (T := T_Mo) (N := 24) hx hb hts (fun _ h9 => List.mem_cons_of_mem _ (inT_Mo _ h9)) ty_Mo tyok_Mo nm_Mo hown hK hw (by decide) (by decide) rfl (by decide) rfl 9 (by decide) (hts _ (List.mem_cons_of_mem _ tw_462)) (fun _ h9 => h9) rfl hin rfl (by decide +kernel) rfl rfl (Nat.le_of_ble_eq_true rfl) (ob_7_9 G _) (fun a ha => ⟨upI_ne ha, fun _ => rfl⟩) d_Mo_init_71 (fun H locs hw => ?_)
  refine lv_aload_n hx hb d_Mo_init_74 rfl (lv_at hl 0 rfl) ?_
  refine lv_iconst (v := 3) hx hb d_Mo_init_75 (by decide) ?_
  refine m_cputI (n := 78) (μ1 := z_49) (i := 68) (ci := 7) (v := .int 3) (ty := .int) (C := "RecipePlansModel") (T := T_Mo) (N := 24) hx hb hts (fun _ h9 => List.mem_cons_of_mem _ (inT_Mo _ h9)) ty_Mo tyok_Mo nm_Mo hown hK hw (by decide) (by decide) rfl (by decide) rfl 10 (by decide) (hts _ (List.mem_cons_of_mem _ tw_463)) (fun _ h9 => h9) rfl (by decide +kernel) rfl rfl (Nat.le_of_ble_eq_true rfl) (by simp [obK, rfc, z_49, upI]) (fun a ha => ⟨upI_ne ha, fun _ => rfl⟩) d_Mo_init_76 (fun H locs hw => ?_)
  refine lv_aload_n hx hb d_Mo_init_79 rfl (lv_at hl 0 rfl) ?_
  refine lv_iconst (v := 4) hx hb d_Mo_init_80 (by decide) ?_
  refine m_cnewi (n := 78) (k := 36) (N := 4) hx hb (hts _ (List.mem_cons_of_mem _ tw_75)) hK hw hs (by decide) rfl (by decide) (by decide) rfl (by decide) rfl (by decide) (Nat.le_of_ble_eq_true rfl) (Nat.le_of_ble_eq_true rfl) d_Mo_init_81 (fun H hw => ?_)
  refine m_cputF (n := 79) (μ1 := z_50) (i := 68) (ci := 7) (v := .ref (G.2.1 0 + 78)) (ty := .array .int) (C := "RecipePlansModel") (T := T_Mo) (N := 24) hx hb hts (fun _ h9 => List.mem_cons_of_mem _ (inT_Mo _ h9)) ty_Mo tyok_Mo nm_Mo hown hK hw (by decide) (by decide) rfl (by decide) rfl 12 (by decide) (hts _ (List.mem_cons_of_mem _ tw_465)) (fun _ h9 => h9) rfl hin rfl (by decide +kernel) rfl rfl (Nat.le_of_ble_eq_true rfl) (ob_7_12 G _) (fun a ha => ⟨upI_ne ha, fun _ => rfl⟩) d_Mo_init_83 (fun H locs hw => ?_)
  refine lv_aload_n hx hb d_Mo_init_86 rfl (lv_at hl 0 rfl) ?_
  refine lv_iconst (v := 4) hx hb d_Mo_init_87 (by decide) ?_
  refine m_cnewi (n := 79) (k := 37) (N := 4) hx hb (hts _ (List.mem_cons_of_mem _ tw_75)) hK hw hs (by decide) rfl (by decide) (by decide) rfl (by decide) rfl (by decide) (Nat.le_of_ble_eq_true rfl) (Nat.le_of_ble_eq_true rfl) d_Mo_init_88 (fun H hw => ?_)
  refine m_cputF (n := 80) (μ1 := z_51) (i := 68) (ci := 7) (v := .ref (G.2.1 0 + 79)) (ty := .array .int) (C := "RecipePlansModel") (T := T_Mo) (N := 24) hx hb hts (fun _ h9 => List.mem_cons_of_mem _ (inT_Mo _ h9)) ty_Mo tyok_Mo nm_Mo hown hK hw (by decide) (by decide) rfl (by decide) rfl 17 (by decide) (hts _ (List.mem_cons_of_mem _ tw_470)) (fun _ h9 => h9) rfl hin rfl (by decide +kernel) rfl rfl (Nat.le_of_ble_eq_true rfl) (ob_7_17 G _) (fun a ha => ⟨upI_ne ha, fun _ => rfl⟩) d_Mo_init_90 (fun H locs hw => ?_)
  refine lv_aload_n hx hb d_Mo_init_93 rfl (lv_at hl 0 rfl) ?_
  refine lv_bipush (v := 120) hx hb d_Mo_init_94 (by decide) ?_
  refine m_cnewi (n := 80) (k := 38) (N := 120) hx hb (hts _ (List.mem_cons_of_mem _ tw_75)) hK hw hs (by decide) rfl (by decide) (by decide) rfl (by decide) rfl (by decide) (Nat.le_of_ble_eq_true rfl) (Nat.le_of_ble_eq_true rfl) d_Mo_init_96 (fun H hw => ?_)
  refine m_cputF (n := 81) (μ1 := z_52) (i := 68) (ci := 7) (v := .ref (G.2.1 0 + 80)) (ty := .array .int) (C := "RecipePlansModel") (T := T_Mo) (N := 24) hx hb hts (fun _ h9 => List.mem_cons_of_mem _ (inT_Mo _ h9)) ty_Mo tyok_Mo nm_Mo hown hK hw (by decide) (by decide) rfl (by decide) rfl 18 (by decide) (hts _ (List.mem_cons_of_mem _ tw_471)) (fun _ h9 => h9) rfl hin rfl (by decide +kernel) rfl rfl (Nat.le_of_ble_eq_true rfl) (ob_7_18 G _) (fun a ha => ⟨upI_ne ha, fun _ => rfl⟩) d_Mo_init_98 (fun H locs hw => ?_)
  refine lv_aload_n hx hb d_Mo_init_101 rfl (lv_at hl 0 rfl) ?_
  refine lv_bipush (v := 24) hx hb d_Mo_init_102 (by decide) ?_
  refine m_cnewz (n := 81) (k := 15) (N := 24) hx hb (hts _ (List.mem_cons_of_mem _ tw_161)) hK hw hs (by decide) rfl (by decide) (by decide) rfl (by decide) rfl (by decide) (Nat.le_of_ble_eq_true rfl) (Nat.le_of_ble_eq_true rfl) d_Mo_init_104 (fun H hw => ?_)
  refine m_cputF (n := 82) (μ1 := z_53) (i := 68) (ci := 7) (v := .ref (G.2.1 0 + 81)) (ty := .array .boolean) (C := "RecipePlansModel") (T := T_Mo) (N := 24) hx hb hts (fun _ h9 => List.mem_cons_of_mem _ (inT_Mo _ h9)) ty_Mo tyok_Mo nm_Mo hown hK hw (by decide) (by decide) rfl (by decide) rfl 19 (by decide) (hts _ (List.mem_cons_of_mem _ tw_472)) (fun _ h9 => h9) rfl hin rfl (by decide +kernel) rfl rfl (Nat.le_of_ble_eq_true rfl) (ob_7_19 G _) (fun a ha => ⟨upI_ne ha, fun _ => rfl⟩) d_Mo_init_106 (fun H locs hw => ?_)
  refine lv_aload_n hx hb d_Mo_init_109 rfl (lv_at hl 0 rfl) ?_
  refine lv_iconst (v := 4) hx hb d_Mo_init_110 (by decide) ?_
  refine m_cnewi (n := 82) (k := 39) (N := 4) hx hb (hts _ (List.mem_cons_of_mem _ tw_75)) hK hw hs (by decide) rfl (by decide) (by decide) rfl (by decide) rfl (by decide) (Nat.le_of_ble_eq_true rfl) (Nat.le_of_ble_eq_true rfl) d_Mo_init_111 (fun H hw => ?_)
  refine m_cputF (n := 83) (μ1 := z_54) (i := 68) (ci := 7) (v := .ref (G.2.1 0 + 82)) (ty := .array .int) (C := "RecipePlansModel") (T := T_Mo) (N := 24) hx hb hts (fun _ h9 => List.mem_cons_of_mem _ (inT_Mo _ h9)) ty_Mo tyok_Mo nm_Mo hown hK hw (by decide) (by decide) rfl (by decide) rfl 20 (by decide) (hts _ (List.mem_cons_of_mem _ tw_473)) (fun _ h9 => h9) rfl hin rfl (by decide +kernel) rfl rfl (Nat.le_of_ble_eq_true rfl) (ob_7_20 G _) (fun a ha => ⟨upI_ne ha, fun _ => rfl⟩) d_Mo_init_113 (fun H locs hw => ?_)
  refine lv_aload_n hx hb d_Mo_init_116 rfl (lv_at hl 0 rfl) ?_
  refine lv_iconst (v := 4) hx hb d_Mo_init_117 (by decide) ?_
  refine m_cnewj (n := 83) (k := 46) (N := 4) hx hb (hts _ (List.mem_cons_of_mem _ tw_76)) hK hw hs (by decide) rfl (by decide) rfl (by decide) rfl (by decide) (Nat.le_of_ble_eq_true rfl) (Nat.le_of_ble_eq_true rfl) d_Mo_init_118 (fun H hw => ?_)
  refine m_cputF (n := 84) (μ1 := z_55) (i := 68) (ci := 7) (v := .ref (G.2.1 0 + 83)) (ty := .array .long) (C := "RecipePlansModel") (T := T_Mo) (N := 24) hx hb hts (fun _ h9 => List.mem_cons_of_mem _ (inT_Mo _ h9)) ty_Mo tyok_Mo nm_Mo hown hK hw (by decide) (by decide) rfl (by decide) rfl 21 (by decide) (hts _ (List.mem_cons_of_mem _ tw_474)) (fun _ h9 => h9) rfl hin rfl (by decide +kernel) rfl rfl (Nat.le_of_ble_eq_true rfl) (ob_7_21 G _) (fun a ha => ⟨upI_ne ha, fun _ => rfl⟩) d_Mo_init_120 (fun H locs hw => ?_)
  refine lv_aload_n hx hb d_Mo_init_123 rfl (lv_at hl 0 rfl) ?_
  refine lv_sipush (v := 256) hx hb d_Mo_init_124 (by decide) ?_
  refine m_cnewz (n := 84) (k := 16) (N := 256) hx hb (hts _ (List.mem_cons_of_mem _ tw_161)) hK hw hs (by decide) rfl (by decide) (by decide) rfl (by decide) rfl (by decide) (Nat.le_of_ble_eq_true rfl) (Nat.le_of_ble_eq_true rfl) d_Mo_init_127 (fun H hw => ?_)
  refine m_cputF (n := 85) (μ1 := z_56) (i := 68) (ci := 7) (v := .ref (G.2.1 0 + 84)) (ty := .array .boolean) (C := "RecipePlansModel") (T := T_Mo) (N := 24) hx hb hts (fun _ h9 => List.mem_cons_of_mem _ (inT_Mo _ h9)) ty_Mo tyok_Mo nm_Mo hown hK hw (by decide) (by decide) rfl (by decide) rfl 23 (by decide) (hts _ (List.mem_cons_of_mem _ tw_476)) (fun _ h9 => h9) rfl hin rfl (by decide +kernel) rfl rfl (Nat.le_of_ble_eq_true rfl) (ob_7_23 G _) (fun a ha => ⟨upI_ne ha, fun _ => rfl⟩) d_Mo_init_129 (fun H locs hw => ?_)
  refine W.cs (cells' := 16) (slots' := 492) rfl rfl ?_
  exact m_cvret hx hb hr hlk hw d_Mo_init_132
