def offL : List Nat := [0, 1, 12, 18, 37, 48, 64, 68, 4, 20, 38, 49, 55, 46, 72, 81, 84, 2, 13, 14, 15, 16, 17, 19, 47, 62, 63, 65, 69, 70, 71, 73, 74, 75, 76, 77, 78, 79, 80, 82, 66, 67, 3, 44, 45, 61, 83, 5, 6, 7, 8, 9, 10, 11, 21, 22, 23, 24, 25, 26, 27, 28, 29, 30, 31, 32, 33, 34, 35, 36, 39, 40, 41, 42, 43, 50, 51, 52, 53, 54, 56, 57, 58, 59, 60]
def off (k : Nat) : Nat := offL.getD k 0
theorem off_lt : ∀ k, k < 85 → off k < 85 := by decide +kernel
theorem al_off : ∀ k, k < 85 → al (off k) = k := by decide +kernel
theorem off_out : ∀ k, k < 13 → 8 ≤ k → ∀ i, i < outN k → off (outB k + i) = outA k + i ∧ outB k + i < 85 := by decide +kernel
theorem nestA_on : ∀ w ∈ nestA, w.onTables = true := by decide +kernel
theorem nestA_in : ∀ w ∈ nestA, w ∈ lw_tbl := by decide +kernel

set_option maxRecDepth 100000 in
set_option maxHeartbeats 4000000 in
theorem tq_0 : (.selects "RecipePlans$Sides" ⟨"RecipePlans$Sides", "fill", "([J[JLRecipePlans$Rules;I)V"⟩ ⟨"RecipePlans$Sides", "fill", "([J[JLRecipePlans$Rules;I)V"⟩ : Cond) ∈ lw_tbl := List.mem_of_getElem? (i := 0) rfl
set_option maxRecDepth 100000 in
set_option maxHeartbeats 4000000 in
theorem tq_1 : (.selects "RecipePlans$CutSearch" ⟨"RecipePlans$CutSearch", "begin", "()V"⟩ ⟨"RecipePlans$CutSearch", "begin", "()V"⟩ : Cond) ∈ lw_tbl := List.mem_of_getElem? (i := 1) rfl
set_option maxRecDepth 100000 in
set_option maxHeartbeats 4000000 in
theorem tq_2 : (.selects "RecipePlans$CutSearch" ⟨"RecipePlans$CutSearch", "tighten", "(II)V"⟩ ⟨"RecipePlans$CutSearch", "tighten", "(II)V"⟩ : Cond) ∈ lw_tbl := List.mem_of_getElem? (i := 2) rfl
set_option maxRecDepth 100000 in
set_option maxHeartbeats 4000000 in
theorem tq_3 : (.selects "RecipePlans$CutSearch" ⟨"RecipePlans$CutSearch", "visitCorners", "(I)V"⟩ ⟨"RecipePlans$CutSearch", "visitCorners", "(I)V"⟩ : Cond) ∈ lw_tbl := List.mem_of_getElem? (i := 3) rfl
set_option maxRecDepth 100000 in
set_option maxHeartbeats 4000000 in
theorem tq_4 : (.selects "RecipePlans$CutSearch" ⟨"RecipePlans$CutSearch", "meets", "([JII)Z"⟩ ⟨"RecipePlans$CutSearch", "meets", "([JII)Z"⟩ : Cond) ∈ lw_tbl := List.mem_of_getElem? (i := 4) rfl
set_option maxRecDepth 100000 in
set_option maxHeartbeats 4000000 in
theorem tq_5 : (.selects "RecipePlans$CutSearch" ⟨"RecipePlans$CutSearch", "replaced", "([JIII)J"⟩ ⟨"RecipePlans$CutSearch", "replaced", "([JIII)J"⟩ : Cond) ∈ lw_tbl := List.mem_of_getElem? (i := 5) rfl
set_option maxRecDepth 100000 in
set_option maxHeartbeats 4000000 in
theorem tq_6 : (.selects "RecipePlans$CutSearch" ⟨"RecipePlans$CutSearch", "weigh", "()V"⟩ ⟨"RecipePlans$CutSearch", "weigh", "()V"⟩ : Cond) ∈ lw_tbl := List.mem_of_getElem? (i := 6) rfl
set_option maxRecDepth 100000 in
set_option maxHeartbeats 4000000 in
theorem tq_7 : (.selects "RecipePlans$CutSearch" ⟨"RecipePlans$CutSearch", "add", "(I[J)Z"⟩ ⟨"RecipePlans$CutSearch", "add", "(I[J)Z"⟩ : Cond) ∈ lw_tbl := List.mem_of_getElem? (i := 7) rfl
set_option maxRecDepth 100000 in
set_option maxHeartbeats 4000000 in
theorem tq_8 : (.selects "RecipePlans$CutSearch" ⟨"RecipePlans$CutSearch", "addBoth", "(II)Z"⟩ ⟨"RecipePlans$CutSearch", "addBoth", "(II)Z"⟩ : Cond) ∈ lw_tbl := List.mem_of_getElem? (i := 8) rfl
set_option maxRecDepth 100000 in
set_option maxHeartbeats 4000000 in
theorem tq_9 : (.selects "RecipePlans$WholeSearch" ⟨"RecipePlans$WholeSearch", "begin", "()V"⟩ ⟨"RecipePlans$WholeSearch", "begin", "()V"⟩ : Cond) ∈ lw_tbl := List.mem_of_getElem? (i := 9) rfl
set_option maxRecDepth 100000 in
set_option maxHeartbeats 4000000 in
theorem tq_10 : (.selects "RecipePlans$WholeSearch" ⟨"RecipePlans$WholeSearch", "place", "(IJ)V"⟩ ⟨"RecipePlans$WholeSearch", "place", "(IJ)V"⟩ : Cond) ∈ lw_tbl := List.mem_of_getElem? (i := 10) rfl
set_option maxRecDepth 100000 in
set_option maxHeartbeats 4000000 in
theorem tq_11 : (.selects "RecipePlans$WholeSearch" ⟨"RecipePlans$WholeSearch", "mostLoads", "(I)I"⟩ ⟨"RecipePlans$WholeSearch", "mostLoads", "(I)I"⟩ : Cond) ∈ lw_tbl := List.mem_of_getElem? (i := 11) rfl
set_option maxRecDepth 100000 in
set_option maxHeartbeats 4000000 in
theorem tq_12 : (.selects "RecipePlans$WholeSearch" ⟨"RecipePlans$WholeSearch", "fewestLoads", "(I)I"⟩ ⟨"RecipePlans$WholeSearch", "fewestLoads", "(I)I"⟩ : Cond) ∈ lw_tbl := List.mem_of_getElem? (i := 12) rfl
set_option maxRecDepth 100000 in
set_option maxHeartbeats 4000000 in
theorem tq_13 : (.selects "RecipePlans$WholeSearch" ⟨"RecipePlans$WholeSearch", "take", "(IIJ)V"⟩ ⟨"RecipePlans$WholeSearch", "take", "(IIJ)V"⟩ : Cond) ∈ lw_tbl := List.mem_of_getElem? (i := 13) rfl
set_option maxRecDepth 100000 in
set_option maxHeartbeats 4000000 in
theorem tq_14 : (.selects "RecipePlans$WholeSearch" ⟨"RecipePlans$WholeSearch", "offer", "(J)V"⟩ ⟨"RecipePlans$WholeSearch", "offer", "(J)V"⟩ : Cond) ∈ lw_tbl := List.mem_of_getElem? (i := 14) rfl
set_option maxRecDepth 100000 in
set_option maxHeartbeats 4000000 in
theorem tq_15 : (.selects "RecipePlans$CutSearch" ⟨"RecipePlans$CutSearch", "allBreak", "(I)Z"⟩ ⟨"RecipePlans$CutSearch", "allBreak", "(I)Z"⟩ : Cond) ∈ lw_tbl := List.mem_of_getElem? (i := 15) rfl
set_option maxRecDepth 100000 in
set_option maxHeartbeats 4000000 in
theorem tq_16 : (.selects "RecipePlansModel" ⟨"RecipePlansModel", "tell", "(III)Z"⟩ ⟨"RecipePlansModel", "tell", "(III)Z"⟩ : Cond) ∈ lw_tbl := List.mem_of_getElem? (i := 16) rfl
set_option maxRecDepth 100000 in
set_option maxHeartbeats 4000000 in
theorem tq_17 : (.selects "RecipePlansModel" ⟨"RecipePlansModel", "firstBroken", "()I"⟩ ⟨"RecipePlansModel", "firstBroken", "()I"⟩ : Cond) ∈ lw_tbl := List.mem_of_getElem? (i := 17) rfl
set_option maxRecDepth 100000 in
set_option maxHeartbeats 4000000 in
theorem tq_18 : (.selects "RecipePlansModel" ⟨"RecipePlansModel", "keeps", "(I)Z"⟩ ⟨"RecipePlansModel", "keeps", "(I)Z"⟩ : Cond) ∈ lw_tbl := List.mem_of_getElem? (i := 18) rfl
set_option maxRecDepth 100000 in
set_option maxHeartbeats 4000000 in
theorem tq_19 : (.selects "RecipePlansModel" ⟨"RecipePlansModel", "holds", "(I)I"⟩ ⟨"RecipePlansModel", "holds", "(I)I"⟩ : Cond) ∈ lw_tbl := List.mem_of_getElem? (i := 19) rfl
set_option maxRecDepth 100000 in
set_option maxHeartbeats 4000000 in
theorem tq_20 : (.selects "RecipePlansModel" ⟨"RecipePlansModel", "findWhole", "()Z"⟩ ⟨"RecipePlansModel", "findWhole", "()Z"⟩ : Cond) ∈ lw_tbl := List.mem_of_getElem? (i := 20) rfl
set_option maxRecDepth 100000 in
set_option maxHeartbeats 4000000 in
theorem tq_21 : (.selects "RecipePlansModel" ⟨"RecipePlansModel", "setLimits", "()V"⟩ ⟨"RecipePlansModel", "setLimits", "()V"⟩ : Cond) ∈ lw_tbl := List.mem_of_getElem? (i := 21) rfl
set_option maxRecDepth 100000 in
set_option maxHeartbeats 4000000 in
theorem tq_22 : (.selects "RecipePlansModel" ⟨"RecipePlansModel", "setLimit", "(IIZ)V"⟩ ⟨"RecipePlansModel", "setLimit", "(IIZ)V"⟩ : Cond) ∈ lw_tbl := List.mem_of_getElem? (i := 22) rfl
set_option maxRecDepth 100000 in
set_option maxHeartbeats 4000000 in
theorem tq_23 : (.selects "RecipePlansModel" ⟨"RecipePlansModel", "lookAtCorners", "()V"⟩ ⟨"RecipePlansModel", "lookAtCorners", "()V"⟩ : Cond) ∈ lw_tbl := List.mem_of_getElem? (i := 23) rfl
set_option maxRecDepth 100000 in
set_option maxHeartbeats 4000000 in
theorem tq_24 : (.selects "RecipePlansModel" ⟨"RecipePlansModel", "lookAtCorner", "()V"⟩ ⟨"RecipePlansModel", "lookAtCorner", "()V"⟩ : Cond) ∈ lw_tbl := List.mem_of_getElem? (i := 24) rfl
set_option maxRecDepth 100000 in
set_option maxHeartbeats 4000000 in
theorem tq_25 : (.selects "RecipePlansModel" ⟨"RecipePlansModel", "meet", "()Z"⟩ ⟨"RecipePlansModel", "meet", "()Z"⟩ : Cond) ∈ lw_tbl := List.mem_of_getElem? (i := 25) rfl
set_option maxRecDepth 100000 in
set_option maxHeartbeats 4000000 in
theorem tq_26 : (.selects "RecipePlansModel" ⟨"RecipePlansModel", "determinant", "(I)J"⟩ ⟨"RecipePlansModel", "determinant", "(I)J"⟩ : Cond) ∈ lw_tbl := List.mem_of_getElem? (i := 26) rfl
set_option maxRecDepth 100000 in
set_option maxHeartbeats 4000000 in
theorem tq_27 : (.selects "RecipePlansModel" ⟨"RecipePlansModel", "minor", "(IIIII)J"⟩ ⟨"RecipePlansModel", "minor", "(IIIII)J"⟩ : Cond) ∈ lw_tbl := List.mem_of_getElem? (i := 27) rfl
set_option maxRecDepth 100000 in
set_option maxHeartbeats 4000000 in
theorem tq_28 : (.selects "RecipePlansModel" ⟨"RecipePlansModel", "at", "(III)J"⟩ ⟨"RecipePlansModel", "at", "(III)J"⟩ : Cond) ∈ lw_tbl := List.mem_of_getElem? (i := 28) rfl
set_option maxRecDepth 100000 in
set_option maxHeartbeats 4000000 in
theorem tq_29 : (.selects "RecipePlansModel" ⟨"RecipePlansModel", "keptRules", "()I"⟩ ⟨"RecipePlansModel", "keptRules", "()I"⟩ : Cond) ∈ lw_tbl := List.mem_of_getElem? (i := 29) rfl
set_option maxRecDepth 100000 in
set_option maxHeartbeats 4000000 in
theorem tq_30 : (.selects "RecipePlansModel" ⟨"RecipePlansModel", "isKept", "(I)Z"⟩ ⟨"RecipePlansModel", "isKept", "(I)Z"⟩ : Cond) ∈ lw_tbl := List.mem_of_getElem? (i := 30) rfl
set_option maxRecDepth 100000 in
set_option maxHeartbeats 4000000 in
theorem tq_31 : (.selects "RecipePlansModel" ⟨"RecipePlansModel", "findClash", "()V"⟩ ⟨"RecipePlansModel", "findClash", "()V"⟩ : Cond) ∈ lw_tbl := List.mem_of_getElem? (i := 31) rfl
set_option maxRecDepth 100000 in
set_option maxHeartbeats 4000000 in
theorem tq_32 : (.selects "RecipePlansModel" ⟨"RecipePlansModel", "canBeKept", "(I)Z"⟩ ⟨"RecipePlansModel", "canBeKept", "(I)Z"⟩ : Cond) ∈ lw_tbl := List.mem_of_getElem? (i := 32) rfl
set_option maxRecDepth 100000 in
set_option maxHeartbeats 4000000 in
theorem tq_33 : (.initialized "RecipePlansLaw" : Cond) ∈ lw_tbl := List.mem_of_getElem? (i := 33) rfl
set_option maxRecDepth 100000 in
set_option maxHeartbeats 4000000 in
theorem tq_34 : (.initialized "RecipePlans" : Cond) ∈ lw_tbl := List.mem_of_getElem? (i := 34) rfl
set_option maxRecDepth 100000 in
set_option maxHeartbeats 4000000 in
theorem tq_35 : (.initialized "RecipePlans$Lots" : Cond) ∈ lw_tbl := List.mem_of_getElem? (i := 35) rfl
set_option maxRecDepth 100000 in
set_option maxHeartbeats 4000000 in
theorem tq_36 : (.initialized "RecipePlans$Rules" : Cond) ∈ lw_tbl := List.mem_of_getElem? (i := 36) rfl
set_option maxRecDepth 100000 in
set_option maxHeartbeats 4000000 in
theorem tq_37 : (.initialized "RecipePlans$Sides" : Cond) ∈ lw_tbl := List.mem_of_getElem? (i := 37) rfl
set_option maxRecDepth 100000 in
set_option maxHeartbeats 4000000 in
theorem tq_38 : (.initialized "RecipePlans$CutSearch" : Cond) ∈ lw_tbl := List.mem_of_getElem? (i := 38) rfl
set_option maxRecDepth 100000 in
set_option maxHeartbeats 4000000 in
theorem tq_39 : (.initialized "RecipePlans$WholeSearch" : Cond) ∈ lw_tbl := List.mem_of_getElem? (i := 39) rfl
set_option maxRecDepth 100000 in
set_option maxHeartbeats 4000000 in
theorem tq_40 : (.initialized "RecipePlans$Found" : Cond) ∈ lw_tbl := List.mem_of_getElem? (i := 40) rfl
set_option maxRecDepth 100000 in
set_option maxHeartbeats 4000000 in
theorem tq_41 : (.initialized "RecipePlansModel" : Cond) ∈ lw_tbl := List.mem_of_getElem? (i := 41) rfl
set_option maxRecDepth 100000 in
set_option maxHeartbeats 4000000 in
theorem tq_42 : (.initialized "java/lang/Integer" : Cond) ∈ lw_tbl := List.mem_of_getElem? (i := 42) rfl
set_option maxRecDepth 100000 in
set_option maxHeartbeats 4000000 in
theorem tq_43 : (.initialized "java/lang/Math" : Cond) ∈ lw_tbl := List.mem_of_getElem? (i := 43) rfl
set_option maxRecDepth 100000 in
set_option maxHeartbeats 4000000 in
theorem tq_44 : (.classLink "RecipePlansLaw" 7 "RecipePlans" : Cond) ∈ lw_tbl := List.mem_of_getElem? (i := 44) rfl
set_option maxRecDepth 100000 in
set_option maxHeartbeats 4000000 in
theorem tq_45 : (.instantiable "RecipePlans" 8 : Cond) ∈ lw_tbl := List.mem_of_getElem? (i := 45) rfl
set_option maxRecDepth 100000 in
set_option maxHeartbeats 4000000 in
theorem tq_46 : (.methodLink "RecipePlansLaw" 9 ⟨"RecipePlans", "<init>", "()V"⟩ : Cond) ∈ lw_tbl := List.mem_of_getElem? (i := 46) rfl
set_option maxRecDepth 100000 in
set_option maxHeartbeats 4000000 in
theorem tq_47 : (.instanceMethod ⟨"RecipePlans", "<init>", "()V"⟩ : Cond) ∈ lw_tbl := List.mem_of_getElem? (i := 47) rfl
set_option maxRecDepth 100000 in
set_option maxHeartbeats 4000000 in
theorem tq_48 : (.code ⟨"RecipePlans", "<init>", "()V"⟩ prog_1_method_1_code 1 none : Cond) ∈ lw_tbl := List.mem_of_getElem? (i := 48) rfl
set_option maxRecDepth 100000 in
set_option maxHeartbeats 4000000 in
theorem tq_49 : (.methodLink "RecipePlans" 3 ⟨"java/lang/Object", "<init>", "()V"⟩ : Cond) ∈ lw_tbl := List.mem_of_getElem? (i := 49) rfl
set_option maxRecDepth 100000 in
set_option maxHeartbeats 4000000 in
theorem tq_50 : (.instanceMethod ⟨"java/lang/Object", "<init>", "()V"⟩ : Cond) ∈ lw_tbl := List.mem_of_getElem? (i := 50) rfl
set_option maxRecDepth 100000 in
set_option maxHeartbeats 4000000 in
theorem tq_51 : (.code ⟨"java/lang/Object", "<init>", "()V"⟩ object_method_1_code 1 none : Cond) ∈ lw_tbl := List.mem_of_getElem? (i := 51) rfl
set_option maxRecDepth 100000 in
set_option maxHeartbeats 4000000 in
theorem tq_52 : (.classLink "RecipePlans" 9 "RecipePlans$Lots" : Cond) ∈ lw_tbl := List.mem_of_getElem? (i := 52) rfl
set_option maxRecDepth 100000 in
set_option maxHeartbeats 4000000 in
theorem tq_53 : (.instantiable "RecipePlans$Lots" 4 : Cond) ∈ lw_tbl := List.mem_of_getElem? (i := 53) rfl
set_option maxRecDepth 100000 in
set_option maxHeartbeats 4000000 in
theorem tq_54 : (.methodLink "RecipePlans" 11 ⟨"RecipePlans$Lots", "<init>", "()V"⟩ : Cond) ∈ lw_tbl := List.mem_of_getElem? (i := 54) rfl
set_option maxRecDepth 100000 in
set_option maxHeartbeats 4000000 in
theorem tq_55 : (.instanceMethod ⟨"RecipePlans$Lots", "<init>", "()V"⟩ : Cond) ∈ lw_tbl := List.mem_of_getElem? (i := 55) rfl
set_option maxRecDepth 100000 in
set_option maxHeartbeats 4000000 in
theorem tq_56 : (.code ⟨"RecipePlans$Lots", "<init>", "()V"⟩ prog_4_method_1_code 2 none : Cond) ∈ lw_tbl := List.mem_of_getElem? (i := 56) rfl
set_option maxRecDepth 100000 in
set_option maxHeartbeats 4000000 in
theorem tq_57 : (.methodLink "RecipePlans$Lots" 3 ⟨"java/lang/Object", "<init>", "()V"⟩ : Cond) ∈ lw_tbl := List.mem_of_getElem? (i := 57) rfl
set_option maxRecDepth 100000 in
set_option maxHeartbeats 4000000 in
theorem tq_58 : (.classLink "RecipePlans$Lots" 19 "[[J" : Cond) ∈ lw_tbl := List.mem_of_getElem? (i := 58) rfl
set_option maxRecDepth 100000 in
set_option maxHeartbeats 4000000 in
theorem tq_59 : (.fieldLink "RecipePlans" 62 "RecipePlans$Lots" "count" "I" : Cond) ∈ lw_tbl := List.mem_of_getElem? (i := 60) rfl
set_option maxRecDepth 100000 in
set_option maxHeartbeats 4000000 in
theorem tq_60 : (.fieldLink "RecipePlans$Lots" 9 "RecipePlans$Lots" "stock" "[I" : Cond) ∈ lw_tbl := List.mem_of_getElem? (i := 61) rfl
set_option maxRecDepth 100000 in
set_option maxHeartbeats 4000000 in
theorem tq_61 : (.fieldLink "RecipePlans" 76 "RecipePlans$Lots" "stock" "[I" : Cond) ∈ lw_tbl := List.mem_of_getElem? (i := 62) rfl
set_option maxRecDepth 100000 in
set_option maxHeartbeats 4000000 in
theorem tq_62 : (.fieldLink "RecipePlans$WholeSearch" 67 "RecipePlans$Lots" "stock" "[I" : Cond) ∈ lw_tbl := List.mem_of_getElem? (i := 63) rfl
set_option maxRecDepth 100000 in
set_option maxHeartbeats 4000000 in
theorem tq_63 : (.fieldLink "RecipePlans$CutSearch" 136 "RecipePlans$Lots" "stock" "[I" : Cond) ∈ lw_tbl := List.mem_of_getElem? (i := 64) rfl
set_option maxRecDepth 100000 in
set_option maxHeartbeats 4000000 in
theorem tq_64 : (.fieldLink "RecipePlans$Lots" 15 "RecipePlans$Lots" "cents" "[J" : Cond) ∈ lw_tbl := List.mem_of_getElem? (i := 65) rfl
set_option maxRecDepth 100000 in
set_option maxHeartbeats 4000000 in
theorem tq_65 : (.fieldLink "RecipePlans" 80 "RecipePlans$Lots" "cents" "[J" : Cond) ∈ lw_tbl := List.mem_of_getElem? (i := 66) rfl
set_option maxRecDepth 100000 in
set_option maxHeartbeats 4000000 in
theorem tq_66 : (.fieldLink "RecipePlans$WholeSearch" 62 "RecipePlans$Lots" "cents" "[J" : Cond) ∈ lw_tbl := List.mem_of_getElem? (i := 67) rfl
set_option maxRecDepth 100000 in
set_option maxHeartbeats 4000000 in
theorem tq_67 : (.fieldLink "RecipePlans$Lots" 21 "RecipePlans$Lots" "forms" "[[J" : Cond) ∈ lw_tbl := List.mem_of_getElem? (i := 68) rfl
set_option maxRecDepth 100000 in
set_option maxHeartbeats 4000000 in
theorem tq_68 : (.fieldLink "RecipePlans$Sides" 30 "RecipePlans$Lots" "forms" "[[J" : Cond) ∈ lw_tbl := List.mem_of_getElem? (i := 69) rfl
set_option maxRecDepth 100000 in
set_option maxHeartbeats 4000000 in
theorem tq_69 : (.fieldLink "RecipePlans" 91 "RecipePlans$Lots" "forms" "[[J" : Cond) ∈ lw_tbl := List.mem_of_getElem? (i := 70) rfl
set_option maxRecDepth 100000 in
set_option maxHeartbeats 4000000 in
theorem tq_70 : (.fieldLink "RecipePlans$CutSearch" 108 "RecipePlans$Lots" "forms" "[[J" : Cond) ∈ lw_tbl := List.mem_of_getElem? (i := 71) rfl
set_option maxRecDepth 100000 in
set_option maxHeartbeats 4000000 in
theorem tq_71 : (.lays "RecipePlans$Lots" "RecipePlans$Lots" "count" "I" : Cond) ∈ lw_tbl := List.mem_of_getElem? (i := 72) rfl
set_option maxRecDepth 100000 in
set_option maxHeartbeats 4000000 in
theorem tq_72 : (.laysFinal "RecipePlans$Lots" "RecipePlans$Lots" "stock" "[I" : Cond) ∈ lw_tbl := List.mem_of_getElem? (i := 74) rfl
set_option maxRecDepth 100000 in
set_option maxHeartbeats 4000000 in
theorem tq_73 : (.laysFinal "RecipePlans$Lots" "RecipePlans$Lots" "cents" "[J" : Cond) ∈ lw_tbl := List.mem_of_getElem? (i := 76) rfl
set_option maxRecDepth 100000 in
set_option maxHeartbeats 4000000 in
theorem tq_74 : (.laysFinal "RecipePlans$Lots" "RecipePlans$Lots" "forms" "[[J" : Cond) ∈ lw_tbl := List.mem_of_getElem? (i := 78) rfl
set_option maxRecDepth 100000 in
set_option maxHeartbeats 4000000 in
theorem tq_75 : (.arrayClass .int : Cond) ∈ lw_tbl := List.mem_of_getElem? (i := 81) rfl
set_option maxRecDepth 100000 in
set_option maxHeartbeats 4000000 in
theorem tq_76 : (.arrayClass .long : Cond) ∈ lw_tbl := List.mem_of_getElem? (i := 82) rfl
set_option maxRecDepth 100000 in
set_option maxHeartbeats 4000000 in
theorem tq_77 : (.classLink "RecipePlans" 16 "RecipePlans$Rules" : Cond) ∈ lw_tbl := List.mem_of_getElem? (i := 83) rfl
set_option maxRecDepth 100000 in
set_option maxHeartbeats 4000000 in
theorem tq_78 : (.instantiable "RecipePlans$Rules" 6 : Cond) ∈ lw_tbl := List.mem_of_getElem? (i := 84) rfl
set_option maxRecDepth 100000 in
set_option maxHeartbeats 4000000 in
theorem tq_79 : (.methodLink "RecipePlans" 18 ⟨"RecipePlans$Rules", "<init>", "()V"⟩ : Cond) ∈ lw_tbl := List.mem_of_getElem? (i := 85) rfl
set_option maxRecDepth 100000 in
set_option maxHeartbeats 4000000 in
theorem tq_80 : (.instanceMethod ⟨"RecipePlans$Rules", "<init>", "()V"⟩ : Cond) ∈ lw_tbl := List.mem_of_getElem? (i := 86) rfl
set_option maxRecDepth 100000 in
set_option maxHeartbeats 4000000 in
theorem tq_81 : (.code ⟨"RecipePlans$Rules", "<init>", "()V"⟩ prog_5_method_1_code 1 none : Cond) ∈ lw_tbl := List.mem_of_getElem? (i := 87) rfl
set_option maxRecDepth 100000 in
set_option maxHeartbeats 4000000 in
theorem tq_82 : (.methodLink "RecipePlans$Rules" 5 ⟨"java/lang/Object", "<init>", "()V"⟩ : Cond) ∈ lw_tbl := List.mem_of_getElem? (i := 88) rfl
set_option maxRecDepth 100000 in
set_option maxHeartbeats 4000000 in
theorem tq_83 : (.fieldLink "RecipePlans$Rules" 27 "RecipePlans$Rules" "told" "I" : Cond) ∈ lw_tbl := List.mem_of_getElem? (i := 89) rfl
set_option maxRecDepth 100000 in
set_option maxHeartbeats 4000000 in
theorem tq_84 : (.fieldLink "RecipePlans" 110 "RecipePlans$Rules" "told" "I" : Cond) ∈ lw_tbl := List.mem_of_getElem? (i := 90) rfl
set_option maxRecDepth 100000 in
set_option maxHeartbeats 4000000 in
theorem tq_85 : (.fieldLink "RecipePlans$CutSearch" 178 "RecipePlans$Rules" "told" "I" : Cond) ∈ lw_tbl := List.mem_of_getElem? (i := 91) rfl
set_option maxRecDepth 100000 in
set_option maxHeartbeats 4000000 in
theorem tq_86 : (.fieldLink "RecipePlans$Rules" 11 "RecipePlans$Rules" "first" "[I" : Cond) ∈ lw_tbl := List.mem_of_getElem? (i := 92) rfl
set_option maxRecDepth 100000 in
set_option maxHeartbeats 4000000 in
theorem tq_87 : (.fieldLink "RecipePlans$Sides" 35 "RecipePlans$Rules" "first" "[I" : Cond) ∈ lw_tbl := List.mem_of_getElem? (i := 93) rfl
set_option maxRecDepth 100000 in
set_option maxHeartbeats 4000000 in
theorem tq_88 : (.fieldLink "RecipePlans$CutSearch" 111 "RecipePlans$Rules" "first" "[I" : Cond) ∈ lw_tbl := List.mem_of_getElem? (i := 94) rfl
set_option maxRecDepth 100000 in
set_option maxHeartbeats 4000000 in
theorem tq_89 : (.fieldLink "RecipePlans$Rules" 15 "RecipePlans$Rules" "second" "[I" : Cond) ∈ lw_tbl := List.mem_of_getElem? (i := 95) rfl
set_option maxRecDepth 100000 in
set_option maxHeartbeats 4000000 in
theorem tq_90 : (.fieldLink "RecipePlans$Sides" 38 "RecipePlans$Rules" "second" "[I" : Cond) ∈ lw_tbl := List.mem_of_getElem? (i := 96) rfl
set_option maxRecDepth 100000 in
set_option maxHeartbeats 4000000 in
theorem tq_91 : (.fieldLink "RecipePlans$CutSearch" 105 "RecipePlans$Rules" "second" "[I" : Cond) ∈ lw_tbl := List.mem_of_getElem? (i := 97) rfl
set_option maxRecDepth 100000 in
set_option maxHeartbeats 4000000 in
theorem tq_92 : (.fieldLink "RecipePlans$Rules" 18 "RecipePlans$Rules" "low" "[I" : Cond) ∈ lw_tbl := List.mem_of_getElem? (i := 98) rfl
set_option maxRecDepth 100000 in
set_option maxHeartbeats 4000000 in
theorem tq_93 : (.fieldLink "RecipePlans$Sides" 48 "RecipePlans$Rules" "low" "[I" : Cond) ∈ lw_tbl := List.mem_of_getElem? (i := 99) rfl
set_option maxRecDepth 100000 in
set_option maxHeartbeats 4000000 in
theorem tq_94 : (.fieldLink "RecipePlans$CutSearch" 93 "RecipePlans$Rules" "low" "[I" : Cond) ∈ lw_tbl := List.mem_of_getElem? (i := 100) rfl
set_option maxRecDepth 100000 in
set_option maxHeartbeats 4000000 in
theorem tq_95 : (.fieldLink "RecipePlans$Rules" 21 "RecipePlans$Rules" "high" "[I" : Cond) ∈ lw_tbl := List.mem_of_getElem? (i := 101) rfl
set_option maxRecDepth 100000 in
set_option maxHeartbeats 4000000 in
theorem tq_96 : (.fieldLink "RecipePlans$Sides" 51 "RecipePlans$Rules" "high" "[I" : Cond) ∈ lw_tbl := List.mem_of_getElem? (i := 102) rfl
set_option maxRecDepth 100000 in
set_option maxHeartbeats 4000000 in
theorem tq_97 : (.fieldLink "RecipePlans$CutSearch" 98 "RecipePlans$Rules" "high" "[I" : Cond) ∈ lw_tbl := List.mem_of_getElem? (i := 103) rfl
set_option maxRecDepth 100000 in
set_option maxHeartbeats 4000000 in
theorem tq_98 : (.fieldLink "RecipePlans$Rules" 24 "RecipePlans$Rules" "over" "[I" : Cond) ∈ lw_tbl := List.mem_of_getElem? (i := 104) rfl
set_option maxRecDepth 100000 in
set_option maxHeartbeats 4000000 in
theorem tq_99 : (.fieldLink "RecipePlans$Sides" 45 "RecipePlans$Rules" "over" "[I" : Cond) ∈ lw_tbl := List.mem_of_getElem? (i := 105) rfl
set_option maxRecDepth 100000 in
set_option maxHeartbeats 4000000 in
theorem tq_100 : (.lays "RecipePlans$Rules" "RecipePlans$Rules" "told" "I" : Cond) ∈ lw_tbl := List.mem_of_getElem? (i := 106) rfl
set_option maxRecDepth 100000 in
set_option maxHeartbeats 4000000 in
theorem tq_101 : (.laysFinal "RecipePlans$Rules" "RecipePlans$Rules" "first" "[I" : Cond) ∈ lw_tbl := List.mem_of_getElem? (i := 108) rfl
set_option maxRecDepth 100000 in
set_option maxHeartbeats 4000000 in
theorem tq_102 : (.laysFinal "RecipePlans$Rules" "RecipePlans$Rules" "second" "[I" : Cond) ∈ lw_tbl := List.mem_of_getElem? (i := 110) rfl
set_option maxRecDepth 100000 in
set_option maxHeartbeats 4000000 in
theorem tq_103 : (.laysFinal "RecipePlans$Rules" "RecipePlans$Rules" "low" "[I" : Cond) ∈ lw_tbl := List.mem_of_getElem? (i := 112) rfl
set_option maxRecDepth 100000 in
set_option maxHeartbeats 4000000 in
theorem tq_104 : (.laysFinal "RecipePlans$Rules" "RecipePlans$Rules" "high" "[I" : Cond) ∈ lw_tbl := List.mem_of_getElem? (i := 114) rfl
set_option maxRecDepth 100000 in
set_option maxHeartbeats 4000000 in
theorem tq_105 : (.laysFinal "RecipePlans$Rules" "RecipePlans$Rules" "over" "[I" : Cond) ∈ lw_tbl := List.mem_of_getElem? (i := 116) rfl
set_option maxRecDepth 100000 in
set_option maxHeartbeats 4000000 in
theorem tq_106 : (.classLink "RecipePlans" 23 "RecipePlans$Sides" : Cond) ∈ lw_tbl := List.mem_of_getElem? (i := 119) rfl
set_option maxRecDepth 100000 in
set_option maxHeartbeats 4000000 in
theorem tq_107 : (.instantiable "RecipePlans$Sides" 3 : Cond) ∈ lw_tbl := List.mem_of_getElem? (i := 120) rfl
set_option maxRecDepth 100000 in
set_option maxHeartbeats 4000000 in
theorem tq_108 : (.methodLink "RecipePlans" 25 ⟨"RecipePlans$Sides", "<init>", "()V"⟩ : Cond) ∈ lw_tbl := List.mem_of_getElem? (i := 121) rfl
set_option maxRecDepth 100000 in
set_option maxHeartbeats 4000000 in
theorem tq_109 : (.instanceMethod ⟨"RecipePlans$Sides", "<init>", "()V"⟩ : Cond) ∈ lw_tbl := List.mem_of_getElem? (i := 122) rfl
set_option maxRecDepth 100000 in
set_option maxHeartbeats 4000000 in
theorem tq_110 : (.code ⟨"RecipePlans$Sides", "<init>", "()V"⟩ prog_6_method_1_code 1 none : Cond) ∈ lw_tbl := List.mem_of_getElem? (i := 123) rfl
set_option maxRecDepth 100000 in
set_option maxHeartbeats 4000000 in
theorem tq_111 : (.methodLink "RecipePlans$Sides" 3 ⟨"java/lang/Object", "<init>", "()V"⟩ : Cond) ∈ lw_tbl := List.mem_of_getElem? (i := 124) rfl
set_option maxRecDepth 100000 in
set_option maxHeartbeats 4000000 in
theorem tq_112 : (.classLink "RecipePlans$Sides" 15 "[[J" : Cond) ∈ lw_tbl := List.mem_of_getElem? (i := 125) rfl
set_option maxRecDepth 100000 in
set_option maxHeartbeats 4000000 in
theorem tq_113 : (.fieldLink "RecipePlans$Sides" 20 "RecipePlans$Sides" "count" "I" : Cond) ∈ lw_tbl := List.mem_of_getElem? (i := 126) rfl
set_option maxRecDepth 100000 in
set_option maxHeartbeats 4000000 in
theorem tq_114 : (.fieldLink "RecipePlans$WholeSearch" 53 "RecipePlans$Sides" "count" "I" : Cond) ∈ lw_tbl := List.mem_of_getElem? (i := 127) rfl
set_option maxRecDepth 100000 in
set_option maxHeartbeats 4000000 in
theorem tq_115 : (.fieldLink "RecipePlans$CutSearch" 78 "RecipePlans$Sides" "count" "I" : Cond) ∈ lw_tbl := List.mem_of_getElem? (i := 128) rfl
set_option maxRecDepth 100000 in
set_option maxHeartbeats 4000000 in
theorem tq_116 : (.fieldLink "RecipePlans$Sides" 9 "RecipePlans$Sides" "rule" "[I" : Cond) ∈ lw_tbl := List.mem_of_getElem? (i := 129) rfl
set_option maxRecDepth 100000 in
set_option maxHeartbeats 4000000 in
theorem tq_117 : (.fieldLink "RecipePlans$CutSearch" 83 "RecipePlans$Sides" "rule" "[I" : Cond) ∈ lw_tbl := List.mem_of_getElem? (i := 130) rfl
set_option maxRecDepth 100000 in
set_option maxHeartbeats 4000000 in
theorem tq_118 : (.fieldLink "RecipePlans$Sides" 17 "RecipePlans$Sides" "row" "[[J" : Cond) ∈ lw_tbl := List.mem_of_getElem? (i := 131) rfl
set_option maxRecDepth 100000 in
set_option maxHeartbeats 4000000 in
theorem tq_119 : (.fieldLink "RecipePlans$WholeSearch" 59 "RecipePlans$Sides" "row" "[[J" : Cond) ∈ lw_tbl := List.mem_of_getElem? (i := 132) rfl
set_option maxRecDepth 100000 in
set_option maxHeartbeats 4000000 in
theorem tq_120 : (.fieldLink "RecipePlans$CutSearch" 86 "RecipePlans$Sides" "row" "[[J" : Cond) ∈ lw_tbl := List.mem_of_getElem? (i := 133) rfl
set_option maxRecDepth 100000 in
set_option maxHeartbeats 4000000 in
theorem tq_121 : (.lays "RecipePlans$Sides" "RecipePlans$Sides" "count" "I" : Cond) ∈ lw_tbl := List.mem_of_getElem? (i := 134) rfl
set_option maxRecDepth 100000 in
set_option maxHeartbeats 4000000 in
theorem tq_122 : (.laysFinal "RecipePlans$Sides" "RecipePlans$Sides" "rule" "[I" : Cond) ∈ lw_tbl := List.mem_of_getElem? (i := 136) rfl
set_option maxRecDepth 100000 in
set_option maxHeartbeats 4000000 in
theorem tq_123 : (.laysFinal "RecipePlans$Sides" "RecipePlans$Sides" "row" "[[J" : Cond) ∈ lw_tbl := List.mem_of_getElem? (i := 138) rfl
set_option maxRecDepth 100000 in
set_option maxHeartbeats 4000000 in
theorem tq_124 : (.classLink "RecipePlans" 30 "RecipePlans$CutSearch" : Cond) ∈ lw_tbl := List.mem_of_getElem? (i := 141) rfl
set_option maxRecDepth 100000 in
set_option maxHeartbeats 4000000 in
theorem tq_125 : (.instantiable "RecipePlans$CutSearch" 13 : Cond) ∈ lw_tbl := List.mem_of_getElem? (i := 142) rfl
set_option maxRecDepth 100000 in
set_option maxHeartbeats 4000000 in
theorem tq_126 : (.methodLink "RecipePlans" 32 ⟨"RecipePlans$CutSearch", "<init>", "(LRecipePlans$Lots;LRecipePlans$Rules;LRecipePlans$Sides;)V"⟩ : Cond) ∈ lw_tbl := List.mem_of_getElem? (i := 143) rfl
set_option maxRecDepth 100000 in
set_option maxHeartbeats 4000000 in
theorem tq_127 : (.instanceMethod ⟨"RecipePlans$CutSearch", "<init>", "(LRecipePlans$Lots;LRecipePlans$Rules;LRecipePlans$Sides;)V"⟩ : Cond) ∈ lw_tbl := List.mem_of_getElem? (i := 144) rfl
set_option maxRecDepth 100000 in
set_option maxHeartbeats 4000000 in
theorem tq_128 : (.code ⟨"RecipePlans$CutSearch", "<init>", "(LRecipePlans$Lots;LRecipePlans$Rules;LRecipePlans$Sides;)V"⟩ prog_2_method_1_code 4 none : Cond) ∈ lw_tbl := List.mem_of_getElem? (i := 145) rfl
set_option maxRecDepth 100000 in
set_option maxHeartbeats 4000000 in
theorem tq_129 : (.methodLink "RecipePlans$CutSearch" 3 ⟨"java/lang/Object", "<init>", "()V"⟩ : Cond) ∈ lw_tbl := List.mem_of_getElem? (i := 146) rfl
set_option maxRecDepth 100000 in
set_option maxHeartbeats 4000000 in
theorem tq_130 : (.classLink "RecipePlans$CutSearch" 23 "[[J" : Cond) ∈ lw_tbl := List.mem_of_getElem? (i := 147) rfl
set_option maxRecDepth 100000 in
set_option maxHeartbeats 4000000 in
theorem tq_131 : (.fieldLink "RecipePlans$CutSearch" 9 "RecipePlans$CutSearch" "lots" "LRecipePlans$Lots;" : Cond) ∈ lw_tbl := List.mem_of_getElem? (i := 148) rfl
set_option maxRecDepth 100000 in
set_option maxHeartbeats 4000000 in
theorem tq_132 : (.fieldLink "RecipePlans$CutSearch" 15 "RecipePlans$CutSearch" "rules" "LRecipePlans$Rules;" : Cond) ∈ lw_tbl := List.mem_of_getElem? (i := 149) rfl
set_option maxRecDepth 100000 in
set_option maxHeartbeats 4000000 in
theorem tq_133 : (.fieldLink "RecipePlans$CutSearch" 19 "RecipePlans$CutSearch" "sides" "LRecipePlans$Sides;" : Cond) ∈ lw_tbl := List.mem_of_getElem? (i := 150) rfl
set_option maxRecDepth 100000 in
set_option maxHeartbeats 4000000 in
theorem tq_134 : (.fieldLink "RecipePlans$CutSearch" 25 "RecipePlans$CutSearch" "minors" "[[J" : Cond) ∈ lw_tbl := List.mem_of_getElem? (i := 151) rfl
set_option maxRecDepth 100000 in
set_option maxHeartbeats 4000000 in
theorem tq_135 : (.fieldLink "RecipePlans$CutSearch" 28 "RecipePlans$CutSearch" "point" "[J" : Cond) ∈ lw_tbl := List.mem_of_getElem? (i := 152) rfl
set_option maxRecDepth 100000 in
set_option maxHeartbeats 4000000 in
theorem tq_136 : (.fieldLink "RecipePlans$CutSearch" 32 "RecipePlans$CutSearch" "held" "[J" : Cond) ∈ lw_tbl := List.mem_of_getElem? (i := 153) rfl
set_option maxRecDepth 100000 in
set_option maxHeartbeats 4000000 in
theorem tq_137 : (.fieldLink "RecipePlans$CutSearch" 35 "RecipePlans$CutSearch" "seen" "[Z" : Cond) ∈ lw_tbl := List.mem_of_getElem? (i := 154) rfl
set_option maxRecDepth 100000 in
set_option maxHeartbeats 4000000 in
theorem tq_138 : (.fieldLink "RecipePlans$CutSearch" 39 "RecipePlans$CutSearch" "breaks" "[I" : Cond) ∈ lw_tbl := List.mem_of_getElem? (i := 155) rfl
set_option maxRecDepth 100000 in
set_option maxHeartbeats 4000000 in
theorem tq_139 : (.fieldLink "RecipePlans$CutSearch" 50 "RecipePlans$CutSearch" "breakCount" "I" : Cond) ∈ lw_tbl := List.mem_of_getElem? (i := 156) rfl
set_option maxRecDepth 100000 in
set_option maxHeartbeats 4000000 in
theorem tq_140 : (.fieldLink "RecipePlans$CutSearch" 71 "RecipePlans$CutSearch" "open" "I" : Cond) ∈ lw_tbl := List.mem_of_getElem? (i := 157) rfl
set_option maxRecDepth 100000 in
set_option maxHeartbeats 4000000 in
theorem tq_141 : (.fieldLink "RecipePlans$Found" 21 "RecipePlans$CutSearch" "suits" "Z" : Cond) ∈ lw_tbl := List.mem_of_getElem? (i := 158) rfl
set_option maxRecDepth 100000 in
set_option maxHeartbeats 4000000 in
theorem tq_142 : (.fieldLink "RecipePlans$CutSearch" 54 "RecipePlans$CutSearch" "suits" "Z" : Cond) ∈ lw_tbl := List.mem_of_getElem? (i := 159) rfl
set_option maxRecDepth 100000 in
set_option maxHeartbeats 4000000 in
theorem tq_143 : (.fieldLink "RecipePlans" 120 "RecipePlans$CutSearch" "suits" "Z" : Cond) ∈ lw_tbl := List.mem_of_getElem? (i := 160) rfl
set_option maxRecDepth 100000 in
set_option maxHeartbeats 4000000 in
theorem tq_144 : (.fieldLink "RecipePlans$Found" 28 "RecipePlans$CutSearch" "above" "J" : Cond) ∈ lw_tbl := List.mem_of_getElem? (i := 161) rfl
set_option maxRecDepth 100000 in
set_option maxHeartbeats 4000000 in
theorem tq_145 : (.fieldLink "RecipePlans$CutSearch" 58 "RecipePlans$CutSearch" "above" "J" : Cond) ∈ lw_tbl := List.mem_of_getElem? (i := 162) rfl
set_option maxRecDepth 100000 in
set_option maxHeartbeats 4000000 in
theorem tq_146 : (.fieldLink "RecipePlans$Found" 33 "RecipePlans$CutSearch" "below" "J" : Cond) ∈ lw_tbl := List.mem_of_getElem? (i := 163) rfl
set_option maxRecDepth 100000 in
set_option maxHeartbeats 4000000 in
theorem tq_147 : (.fieldLink "RecipePlans$CutSearch" 62 "RecipePlans$CutSearch" "below" "J" : Cond) ∈ lw_tbl := List.mem_of_getElem? (i := 164) rfl
set_option maxRecDepth 100000 in
set_option maxHeartbeats 4000000 in
theorem tq_148 : (.laysFinal "RecipePlans$CutSearch" "RecipePlans$CutSearch" "lots" "LRecipePlans$Lots;" : Cond) ∈ lw_tbl := List.mem_of_getElem? (i := 165) rfl
set_option maxRecDepth 100000 in
set_option maxHeartbeats 4000000 in
theorem tq_149 : (.laysFinal "RecipePlans$CutSearch" "RecipePlans$CutSearch" "rules" "LRecipePlans$Rules;" : Cond) ∈ lw_tbl := List.mem_of_getElem? (i := 167) rfl
set_option maxRecDepth 100000 in
set_option maxHeartbeats 4000000 in
theorem tq_150 : (.laysFinal "RecipePlans$CutSearch" "RecipePlans$CutSearch" "sides" "LRecipePlans$Sides;" : Cond) ∈ lw_tbl := List.mem_of_getElem? (i := 169) rfl
set_option maxRecDepth 100000 in
set_option maxHeartbeats 4000000 in
theorem tq_151 : (.laysFinal "RecipePlans$CutSearch" "RecipePlans$CutSearch" "minors" "[[J" : Cond) ∈ lw_tbl := List.mem_of_getElem? (i := 171) rfl
set_option maxRecDepth 100000 in
set_option maxHeartbeats 4000000 in
theorem tq_152 : (.laysFinal "RecipePlans$CutSearch" "RecipePlans$CutSearch" "point" "[J" : Cond) ∈ lw_tbl := List.mem_of_getElem? (i := 173) rfl
set_option maxRecDepth 100000 in
set_option maxHeartbeats 4000000 in
theorem tq_153 : (.laysFinal "RecipePlans$CutSearch" "RecipePlans$CutSearch" "held" "[J" : Cond) ∈ lw_tbl := List.mem_of_getElem? (i := 175) rfl
set_option maxRecDepth 100000 in
set_option maxHeartbeats 4000000 in
theorem tq_154 : (.laysFinal "RecipePlans$CutSearch" "RecipePlans$CutSearch" "seen" "[Z" : Cond) ∈ lw_tbl := List.mem_of_getElem? (i := 177) rfl
set_option maxRecDepth 100000 in
set_option maxHeartbeats 4000000 in
theorem tq_155 : (.laysFinal "RecipePlans$CutSearch" "RecipePlans$CutSearch" "breaks" "[I" : Cond) ∈ lw_tbl := List.mem_of_getElem? (i := 179) rfl
set_option maxRecDepth 100000 in
set_option maxHeartbeats 4000000 in
theorem tq_156 : (.lays "RecipePlans$CutSearch" "RecipePlans$CutSearch" "breakCount" "I" : Cond) ∈ lw_tbl := List.mem_of_getElem? (i := 181) rfl
set_option maxRecDepth 100000 in
set_option maxHeartbeats 4000000 in
theorem tq_157 : (.lays "RecipePlans$CutSearch" "RecipePlans$CutSearch" "open" "I" : Cond) ∈ lw_tbl := List.mem_of_getElem? (i := 183) rfl
set_option maxRecDepth 100000 in
set_option maxHeartbeats 4000000 in
theorem tq_158 : (.lays "RecipePlans$CutSearch" "RecipePlans$CutSearch" "suits" "Z" : Cond) ∈ lw_tbl := List.mem_of_getElem? (i := 185) rfl
set_option maxRecDepth 100000 in
set_option maxHeartbeats 4000000 in
theorem tq_159 : (.lays "RecipePlans$CutSearch" "RecipePlans$CutSearch" "above" "J" : Cond) ∈ lw_tbl := List.mem_of_getElem? (i := 187) rfl
set_option maxRecDepth 100000 in
set_option maxHeartbeats 4000000 in
theorem tq_160 : (.lays "RecipePlans$CutSearch" "RecipePlans$CutSearch" "below" "J" : Cond) ∈ lw_tbl := List.mem_of_getElem? (i := 189) rfl
set_option maxRecDepth 100000 in
set_option maxHeartbeats 4000000 in
theorem tq_161 : (.arrayClass .boolean : Cond) ∈ lw_tbl := List.mem_of_getElem? (i := 192) rfl
set_option maxRecDepth 100000 in
set_option maxHeartbeats 4000000 in
theorem tq_162 : (.classLink "RecipePlans" 39 "RecipePlans$WholeSearch" : Cond) ∈ lw_tbl := List.mem_of_getElem? (i := 193) rfl
set_option maxRecDepth 100000 in
set_option maxHeartbeats 4000000 in
theorem tq_163 : (.instantiable "RecipePlans$WholeSearch" 9 : Cond) ∈ lw_tbl := List.mem_of_getElem? (i := 194) rfl
set_option maxRecDepth 100000 in
set_option maxHeartbeats 4000000 in
theorem tq_164 : (.methodLink "RecipePlans" 41 ⟨"RecipePlans$WholeSearch", "<init>", "(LRecipePlans$Lots;LRecipePlans$Sides;)V"⟩ : Cond) ∈ lw_tbl := List.mem_of_getElem? (i := 195) rfl
set_option maxRecDepth 100000 in
set_option maxHeartbeats 4000000 in
theorem tq_165 : (.instanceMethod ⟨"RecipePlans$WholeSearch", "<init>", "(LRecipePlans$Lots;LRecipePlans$Sides;)V"⟩ : Cond) ∈ lw_tbl := List.mem_of_getElem? (i := 196) rfl
set_option maxRecDepth 100000 in
set_option maxHeartbeats 4000000 in
theorem tq_166 : (.code ⟨"RecipePlans$WholeSearch", "<init>", "(LRecipePlans$Lots;LRecipePlans$Sides;)V"⟩ prog_7_method_1_code 3 none : Cond) ∈ lw_tbl := List.mem_of_getElem? (i := 197) rfl
set_option maxRecDepth 100000 in
set_option maxHeartbeats 4000000 in
theorem tq_167 : (.methodLink "RecipePlans$WholeSearch" 3 ⟨"java/lang/Object", "<init>", "()V"⟩ : Cond) ∈ lw_tbl := List.mem_of_getElem? (i := 198) rfl
set_option maxRecDepth 100000 in
set_option maxHeartbeats 4000000 in
theorem tq_168 : (.classLink "RecipePlans$WholeSearch" 19 "[[J" : Cond) ∈ lw_tbl := List.mem_of_getElem? (i := 199) rfl
set_option maxRecDepth 100000 in
set_option maxHeartbeats 4000000 in
theorem tq_169 : (.fieldLink "RecipePlans$WholeSearch" 9 "RecipePlans$WholeSearch" "lots" "LRecipePlans$Lots;" : Cond) ∈ lw_tbl := List.mem_of_getElem? (i := 200) rfl
set_option maxRecDepth 100000 in
set_option maxHeartbeats 4000000 in
theorem tq_170 : (.fieldLink "RecipePlans$WholeSearch" 15 "RecipePlans$WholeSearch" "sides" "LRecipePlans$Sides;" : Cond) ∈ lw_tbl := List.mem_of_getElem? (i := 201) rfl
set_option maxRecDepth 100000 in
set_option maxHeartbeats 4000000 in
theorem tq_171 : (.fieldLink "RecipePlans$WholeSearch" 21 "RecipePlans$WholeSearch" "value" "[[J" : Cond) ∈ lw_tbl := List.mem_of_getElem? (i := 202) rfl
set_option maxRecDepth 100000 in
set_option maxHeartbeats 4000000 in
theorem tq_172 : (.fieldLink "RecipePlans$WholeSearch" 24 "RecipePlans$WholeSearch" "reach" "[[J" : Cond) ∈ lw_tbl := List.mem_of_getElem? (i := 203) rfl
set_option maxRecDepth 100000 in
set_option maxHeartbeats 4000000 in
theorem tq_173 : (.fieldLink "RecipePlans$WholeSearch" 27 "RecipePlans$WholeSearch" "least" "[J" : Cond) ∈ lw_tbl := List.mem_of_getElem? (i := 204) rfl
set_option maxRecDepth 100000 in
set_option maxHeartbeats 4000000 in
theorem tq_174 : (.fieldLink "RecipePlans$WholeSearch" 31 "RecipePlans$WholeSearch" "taken" "[I" : Cond) ∈ lw_tbl := List.mem_of_getElem? (i := 205) rfl
set_option maxRecDepth 100000 in
set_option maxHeartbeats 4000000 in
theorem tq_175 : (.fieldLink "RecipePlans$WholeSearch" 38 "RecipePlans$WholeSearch" "suits" "Z" : Cond) ∈ lw_tbl := List.mem_of_getElem? (i := 206) rfl
set_option maxRecDepth 100000 in
set_option maxHeartbeats 4000000 in
theorem tq_176 : (.fieldLink "RecipePlans$Found" 45 "RecipePlans$WholeSearch" "suits" "Z" : Cond) ∈ lw_tbl := List.mem_of_getElem? (i := 207) rfl
set_option maxRecDepth 100000 in
set_option maxHeartbeats 4000000 in
theorem tq_177 : (.fieldLink "RecipePlans" 135 "RecipePlans$WholeSearch" "suits" "Z" : Cond) ∈ lw_tbl := List.mem_of_getElem? (i := 208) rfl
set_option maxRecDepth 100000 in
set_option maxHeartbeats 4000000 in
theorem tq_178 : (.fieldLink "RecipePlans$WholeSearch" 42 "RecipePlans$WholeSearch" "total" "J" : Cond) ∈ lw_tbl := List.mem_of_getElem? (i := 209) rfl
set_option maxRecDepth 100000 in
set_option maxHeartbeats 4000000 in
theorem tq_179 : (.fieldLink "RecipePlans$Found" 54 "RecipePlans$WholeSearch" "total" "J" : Cond) ∈ lw_tbl := List.mem_of_getElem? (i := 210) rfl
set_option maxRecDepth 100000 in
set_option maxHeartbeats 4000000 in
theorem tq_180 : (.fieldLink "RecipePlans$WholeSearch" 35 "RecipePlans$WholeSearch" "mix" "[I" : Cond) ∈ lw_tbl := List.mem_of_getElem? (i := 211) rfl
set_option maxRecDepth 100000 in
set_option maxHeartbeats 4000000 in
theorem tq_181 : (.fieldLink "RecipePlans$Found" 58 "RecipePlans$WholeSearch" "mix" "[I" : Cond) ∈ lw_tbl := List.mem_of_getElem? (i := 212) rfl
set_option maxRecDepth 100000 in
set_option maxHeartbeats 4000000 in
theorem tq_182 : (.laysFinal "RecipePlans$WholeSearch" "RecipePlans$WholeSearch" "lots" "LRecipePlans$Lots;" : Cond) ∈ lw_tbl := List.mem_of_getElem? (i := 213) rfl
set_option maxRecDepth 100000 in
set_option maxHeartbeats 4000000 in
theorem tq_183 : (.laysFinal "RecipePlans$WholeSearch" "RecipePlans$WholeSearch" "sides" "LRecipePlans$Sides;" : Cond) ∈ lw_tbl := List.mem_of_getElem? (i := 215) rfl
set_option maxRecDepth 100000 in
set_option maxHeartbeats 4000000 in
theorem tq_184 : (.laysFinal "RecipePlans$WholeSearch" "RecipePlans$WholeSearch" "value" "[[J" : Cond) ∈ lw_tbl := List.mem_of_getElem? (i := 217) rfl
set_option maxRecDepth 100000 in
set_option maxHeartbeats 4000000 in
theorem tq_185 : (.laysFinal "RecipePlans$WholeSearch" "RecipePlans$WholeSearch" "reach" "[[J" : Cond) ∈ lw_tbl := List.mem_of_getElem? (i := 219) rfl
set_option maxRecDepth 100000 in
set_option maxHeartbeats 4000000 in
theorem tq_186 : (.laysFinal "RecipePlans$WholeSearch" "RecipePlans$WholeSearch" "least" "[J" : Cond) ∈ lw_tbl := List.mem_of_getElem? (i := 221) rfl
set_option maxRecDepth 100000 in
set_option maxHeartbeats 4000000 in
theorem tq_187 : (.laysFinal "RecipePlans$WholeSearch" "RecipePlans$WholeSearch" "taken" "[I" : Cond) ∈ lw_tbl := List.mem_of_getElem? (i := 223) rfl
set_option maxRecDepth 100000 in
set_option maxHeartbeats 4000000 in
theorem tq_188 : (.lays "RecipePlans$WholeSearch" "RecipePlans$WholeSearch" "suits" "Z" : Cond) ∈ lw_tbl := List.mem_of_getElem? (i := 225) rfl
set_option maxRecDepth 100000 in
set_option maxHeartbeats 4000000 in
theorem tq_189 : (.lays "RecipePlans$WholeSearch" "RecipePlans$WholeSearch" "total" "J" : Cond) ∈ lw_tbl := List.mem_of_getElem? (i := 227) rfl
set_option maxRecDepth 100000 in
set_option maxHeartbeats 4000000 in
theorem tq_190 : (.laysFinal "RecipePlans$WholeSearch" "RecipePlans$WholeSearch" "mix" "[I" : Cond) ∈ lw_tbl := List.mem_of_getElem? (i := 229) rfl
set_option maxRecDepth 100000 in
set_option maxHeartbeats 4000000 in
theorem tq_191 : (.classLink "RecipePlans" 48 "RecipePlans$Found" : Cond) ∈ lw_tbl := List.mem_of_getElem? (i := 232) rfl
set_option maxRecDepth 100000 in
set_option maxHeartbeats 4000000 in
theorem tq_192 : (.instantiable "RecipePlans$Found" 8 : Cond) ∈ lw_tbl := List.mem_of_getElem? (i := 233) rfl
set_option maxRecDepth 100000 in
set_option maxHeartbeats 4000000 in
theorem tq_193 : (.methodLink "RecipePlans" 50 ⟨"RecipePlans$Found", "<init>", "()V"⟩ : Cond) ∈ lw_tbl := List.mem_of_getElem? (i := 234) rfl
set_option maxRecDepth 100000 in
set_option maxHeartbeats 4000000 in
theorem tq_194 : (.instanceMethod ⟨"RecipePlans$Found", "<init>", "()V"⟩ : Cond) ∈ lw_tbl := List.mem_of_getElem? (i := 235) rfl
set_option maxRecDepth 100000 in
set_option maxHeartbeats 4000000 in
theorem tq_195 : (.code ⟨"RecipePlans$Found", "<init>", "()V"⟩ prog_3_method_1_code 1 none : Cond) ∈ lw_tbl := List.mem_of_getElem? (i := 236) rfl
set_option maxRecDepth 100000 in
set_option maxHeartbeats 4000000 in
theorem tq_196 : (.methodLink "RecipePlans$Found" 3 ⟨"java/lang/Object", "<init>", "()V"⟩ : Cond) ∈ lw_tbl := List.mem_of_getElem? (i := 237) rfl
set_option maxRecDepth 100000 in
set_option maxHeartbeats 4000000 in
theorem tq_197 : (.fieldLink "RecipePlans$Found" 48 "RecipePlans$Found" "whole" "Z" : Cond) ∈ lw_tbl := List.mem_of_getElem? (i := 238) rfl
set_option maxRecDepth 100000 in
set_option maxHeartbeats 4000000 in
theorem tq_198 : (.fieldLink "RecipePlans" 136 "RecipePlans$Found" "whole" "Z" : Cond) ∈ lw_tbl := List.mem_of_getElem? (i := 239) rfl
set_option maxRecDepth 100000 in
set_option maxHeartbeats 4000000 in
theorem tq_199 : (.fieldLink "RecipePlans$Found" 51 "RecipePlans$Found" "lots" "I" : Cond) ∈ lw_tbl := List.mem_of_getElem? (i := 240) rfl
set_option maxRecDepth 100000 in
set_option maxHeartbeats 4000000 in
theorem tq_200 : (.fieldLink "RecipePlans" 139 "RecipePlans$Found" "lots" "I" : Cond) ∈ lw_tbl := List.mem_of_getElem? (i := 241) rfl
set_option maxRecDepth 100000 in
set_option maxHeartbeats 4000000 in
theorem tq_201 : (.fieldLink "RecipePlans$Found" 9 "RecipePlans$Found" "mix" "[I" : Cond) ∈ lw_tbl := List.mem_of_getElem? (i := 242) rfl
set_option maxRecDepth 100000 in
set_option maxHeartbeats 4000000 in
theorem tq_202 : (.fieldLink "RecipePlans" 141 "RecipePlans$Found" "mix" "[I" : Cond) ∈ lw_tbl := List.mem_of_getElem? (i := 243) rfl
set_option maxRecDepth 100000 in
set_option maxHeartbeats 4000000 in
theorem tq_203 : (.fieldLink "RecipePlans$Found" 57 "RecipePlans$Found" "total" "J" : Cond) ∈ lw_tbl := List.mem_of_getElem? (i := 244) rfl
set_option maxRecDepth 100000 in
set_option maxHeartbeats 4000000 in
theorem tq_204 : (.fieldLink "RecipePlans" 144 "RecipePlans$Found" "total" "J" : Cond) ∈ lw_tbl := List.mem_of_getElem? (i := 245) rfl
set_option maxRecDepth 100000 in
set_option maxHeartbeats 4000000 in
theorem tq_205 : (.fieldLink "RecipePlans$Found" 25 "RecipePlans$Found" "cuttable" "Z" : Cond) ∈ lw_tbl := List.mem_of_getElem? (i := 246) rfl
set_option maxRecDepth 100000 in
set_option maxHeartbeats 4000000 in
theorem tq_206 : (.fieldLink "RecipePlans" 152 "RecipePlans$Found" "cuttable" "Z" : Cond) ∈ lw_tbl := List.mem_of_getElem? (i := 247) rfl
set_option maxRecDepth 100000 in
set_option maxHeartbeats 4000000 in
theorem tq_207 : (.fieldLink "RecipePlans$Found" 32 "RecipePlans$Found" "above" "J" : Cond) ∈ lw_tbl := List.mem_of_getElem? (i := 248) rfl
set_option maxRecDepth 100000 in
set_option maxHeartbeats 4000000 in
theorem tq_208 : (.fieldLink "RecipePlans" 155 "RecipePlans$Found" "above" "J" : Cond) ∈ lw_tbl := List.mem_of_getElem? (i := 249) rfl
set_option maxRecDepth 100000 in
set_option maxHeartbeats 4000000 in
theorem tq_209 : (.fieldLink "RecipePlans$Found" 36 "RecipePlans$Found" "below" "J" : Cond) ∈ lw_tbl := List.mem_of_getElem? (i := 250) rfl
set_option maxRecDepth 100000 in
set_option maxHeartbeats 4000000 in
theorem tq_210 : (.fieldLink "RecipePlans" 158 "RecipePlans$Found" "below" "J" : Cond) ∈ lw_tbl := List.mem_of_getElem? (i := 251) rfl
set_option maxRecDepth 100000 in
set_option maxHeartbeats 4000000 in
theorem tq_211 : (.fieldLink "RecipePlans$Found" 41 "RecipePlans$Found" "clashing" "I" : Cond) ∈ lw_tbl := List.mem_of_getElem? (i := 252) rfl
set_option maxRecDepth 100000 in
set_option maxHeartbeats 4000000 in
theorem tq_212 : (.fieldLink "RecipePlans" 161 "RecipePlans$Found" "clashing" "I" : Cond) ∈ lw_tbl := List.mem_of_getElem? (i := 253) rfl
set_option maxRecDepth 100000 in
set_option maxHeartbeats 4000000 in
theorem tq_213 : (.lays "RecipePlans$Found" "RecipePlans$Found" "whole" "Z" : Cond) ∈ lw_tbl := List.mem_of_getElem? (i := 254) rfl
set_option maxRecDepth 100000 in
set_option maxHeartbeats 4000000 in
theorem tq_214 : (.lays "RecipePlans$Found" "RecipePlans$Found" "lots" "I" : Cond) ∈ lw_tbl := List.mem_of_getElem? (i := 256) rfl
set_option maxRecDepth 100000 in
set_option maxHeartbeats 4000000 in
theorem tq_215 : (.laysFinal "RecipePlans$Found" "RecipePlans$Found" "mix" "[I" : Cond) ∈ lw_tbl := List.mem_of_getElem? (i := 258) rfl
set_option maxRecDepth 100000 in
set_option maxHeartbeats 4000000 in
theorem tq_216 : (.lays "RecipePlans$Found" "RecipePlans$Found" "total" "J" : Cond) ∈ lw_tbl := List.mem_of_getElem? (i := 260) rfl
set_option maxRecDepth 100000 in
set_option maxHeartbeats 4000000 in
theorem tq_217 : (.lays "RecipePlans$Found" "RecipePlans$Found" "cuttable" "Z" : Cond) ∈ lw_tbl := List.mem_of_getElem? (i := 262) rfl
set_option maxRecDepth 100000 in
set_option maxHeartbeats 4000000 in
theorem tq_218 : (.lays "RecipePlans$Found" "RecipePlans$Found" "above" "J" : Cond) ∈ lw_tbl := List.mem_of_getElem? (i := 264) rfl
set_option maxRecDepth 100000 in
set_option maxHeartbeats 4000000 in
theorem tq_219 : (.lays "RecipePlans$Found" "RecipePlans$Found" "below" "J" : Cond) ∈ lw_tbl := List.mem_of_getElem? (i := 266) rfl
set_option maxRecDepth 100000 in
set_option maxHeartbeats 4000000 in
theorem tq_220 : (.lays "RecipePlans$Found" "RecipePlans$Found" "clashing" "I" : Cond) ∈ lw_tbl := List.mem_of_getElem? (i := 268) rfl
set_option maxRecDepth 100000 in
set_option maxHeartbeats 4000000 in
theorem tq_221 : (.fieldLink "RecipePlans" 12 "RecipePlans" "lots" "LRecipePlans$Lots;" : Cond) ∈ lw_tbl := List.mem_of_getElem? (i := 271) rfl
set_option maxRecDepth 100000 in
set_option maxHeartbeats 4000000 in
theorem tq_222 : (.fieldLink "RecipePlans" 19 "RecipePlans" "rules" "LRecipePlans$Rules;" : Cond) ∈ lw_tbl := List.mem_of_getElem? (i := 272) rfl
set_option maxRecDepth 100000 in
set_option maxHeartbeats 4000000 in
theorem tq_223 : (.fieldLink "RecipePlans" 26 "RecipePlans" "sides" "LRecipePlans$Sides;" : Cond) ∈ lw_tbl := List.mem_of_getElem? (i := 273) rfl
set_option maxRecDepth 100000 in
set_option maxHeartbeats 4000000 in
theorem tq_224 : (.fieldLink "RecipePlans" 35 "RecipePlans" "cuts" "LRecipePlans$CutSearch;" : Cond) ∈ lw_tbl := List.mem_of_getElem? (i := 274) rfl
set_option maxRecDepth 100000 in
set_option maxHeartbeats 4000000 in
theorem tq_225 : (.fieldLink "RecipePlans" 44 "RecipePlans" "wholes" "LRecipePlans$WholeSearch;" : Cond) ∈ lw_tbl := List.mem_of_getElem? (i := 275) rfl
set_option maxRecDepth 100000 in
set_option maxHeartbeats 4000000 in
theorem tq_226 : (.fieldLink "RecipePlans" 51 "RecipePlans" "found" "LRecipePlans$Found;" : Cond) ∈ lw_tbl := List.mem_of_getElem? (i := 276) rfl
set_option maxRecDepth 100000 in
set_option maxHeartbeats 4000000 in
theorem tq_227 : (.fieldLink "RecipePlans" 55 "RecipePlans" "point" "[J" : Cond) ∈ lw_tbl := List.mem_of_getElem? (i := 277) rfl
set_option maxRecDepth 100000 in
set_option maxHeartbeats 4000000 in
theorem tq_228 : (.fieldLink "RecipePlans" 59 "RecipePlans" "held" "[J" : Cond) ∈ lw_tbl := List.mem_of_getElem? (i := 278) rfl
set_option maxRecDepth 100000 in
set_option maxHeartbeats 4000000 in
theorem tq_229 : (.laysFinal "RecipePlans" "RecipePlans" "lots" "LRecipePlans$Lots;" : Cond) ∈ lw_tbl := List.mem_of_getElem? (i := 279) rfl
set_option maxRecDepth 100000 in
set_option maxHeartbeats 4000000 in
theorem tq_230 : (.laysFinal "RecipePlans" "RecipePlans" "rules" "LRecipePlans$Rules;" : Cond) ∈ lw_tbl := List.mem_of_getElem? (i := 281) rfl
set_option maxRecDepth 100000 in
set_option maxHeartbeats 4000000 in
theorem tq_231 : (.laysFinal "RecipePlans" "RecipePlans" "sides" "LRecipePlans$Sides;" : Cond) ∈ lw_tbl := List.mem_of_getElem? (i := 283) rfl
set_option maxRecDepth 100000 in
set_option maxHeartbeats 4000000 in
theorem tq_232 : (.laysFinal "RecipePlans" "RecipePlans" "cuts" "LRecipePlans$CutSearch;" : Cond) ∈ lw_tbl := List.mem_of_getElem? (i := 285) rfl
set_option maxRecDepth 100000 in
set_option maxHeartbeats 4000000 in
theorem tq_233 : (.laysFinal "RecipePlans" "RecipePlans" "wholes" "LRecipePlans$WholeSearch;" : Cond) ∈ lw_tbl := List.mem_of_getElem? (i := 287) rfl
set_option maxRecDepth 100000 in
set_option maxHeartbeats 4000000 in
theorem tq_234 : (.laysFinal "RecipePlans" "RecipePlans" "found" "LRecipePlans$Found;" : Cond) ∈ lw_tbl := List.mem_of_getElem? (i := 289) rfl
set_option maxRecDepth 100000 in
set_option maxHeartbeats 4000000 in
theorem tq_235 : (.laysFinal "RecipePlans" "RecipePlans" "point" "[J" : Cond) ∈ lw_tbl := List.mem_of_getElem? (i := 291) rfl
set_option maxRecDepth 100000 in
set_option maxHeartbeats 4000000 in
theorem tq_236 : (.laysFinal "RecipePlans" "RecipePlans" "held" "[J" : Cond) ∈ lw_tbl := List.mem_of_getElem? (i := 293) rfl
set_option maxRecDepth 100000 in
set_option maxHeartbeats 4000000 in
theorem tq_237 : (.methodLink "RecipePlansLaw" 15 ⟨"RecipePlans", "lot", "(IJ)I"⟩ : Cond) ∈ lw_tbl := List.mem_of_getElem? (i := 296) rfl
set_option maxRecDepth 100000 in
set_option maxHeartbeats 4000000 in
theorem tq_238 : (.instanceMethod ⟨"RecipePlans", "lot", "(IJ)I"⟩ : Cond) ∈ lw_tbl := List.mem_of_getElem? (i := 297) rfl
set_option maxRecDepth 100000 in
set_option maxHeartbeats 4000000 in
theorem tq_239 : (.selects "RecipePlans" ⟨"RecipePlans", "lot", "(IJ)I"⟩ ⟨"RecipePlans", "lot", "(IJ)I"⟩ : Cond) ∈ lw_tbl := List.mem_of_getElem? (i := 298) rfl
set_option maxRecDepth 100000 in
set_option maxHeartbeats 4000000 in
theorem tq_240 : (.code ⟨"RecipePlans", "lot", "(IJ)I"⟩ prog_1_method_2_code 5 (some .int) : Cond) ∈ lw_tbl := List.mem_of_getElem? (i := 299) rfl
set_option maxRecDepth 100000 in
set_option maxHeartbeats 4000000 in
theorem tq_241 : (.constantLong "RecipePlans" 66 9 : Cond) ∈ lw_tbl := List.mem_of_getElem? (i := 300) rfl
set_option maxRecDepth 100000 in
set_option maxHeartbeats 4000000 in
theorem tq_242 : (.methodLink "RecipePlans" 68 ⟨"RecipePlans", "within", "(JJJ)Z"⟩ : Cond) ∈ lw_tbl := List.mem_of_getElem? (i := 301) rfl
set_option maxRecDepth 100000 in
set_option maxHeartbeats 4000000 in
theorem tq_243 : (.static ⟨"RecipePlans", "within", "(JJJ)Z"⟩ : Cond) ∈ lw_tbl := List.mem_of_getElem? (i := 302) rfl
set_option maxRecDepth 100000 in
set_option maxHeartbeats 4000000 in
theorem tq_244 : (.code ⟨"RecipePlans", "within", "(JJJ)Z"⟩ prog_1_method_15_code 6 (some .boolean) : Cond) ∈ lw_tbl := List.mem_of_getElem? (i := 303) rfl
set_option maxRecDepth 100000 in
set_option maxHeartbeats 4000000 in
theorem tq_245 : (.constantLong "RecipePlans" 72 (-1000) : Cond) ∈ lw_tbl := List.mem_of_getElem? (i := 304) rfl
set_option maxRecDepth 100000 in
set_option maxHeartbeats 4000000 in
theorem tq_246 : (.constantLong "RecipePlans" 74 1000 : Cond) ∈ lw_tbl := List.mem_of_getElem? (i := 305) rfl
set_option maxRecDepth 100000 in
set_option maxHeartbeats 4000000 in
theorem tq_247 : (.methodLink "RecipePlansLaw" 20 ⟨"RecipePlans", "amount", "(III)Z"⟩ : Cond) ∈ lw_tbl := List.mem_of_getElem? (i := 306) rfl
set_option maxRecDepth 100000 in
set_option maxHeartbeats 4000000 in
theorem tq_248 : (.instanceMethod ⟨"RecipePlans", "amount", "(III)Z"⟩ : Cond) ∈ lw_tbl := List.mem_of_getElem? (i := 307) rfl
set_option maxRecDepth 100000 in
set_option maxHeartbeats 4000000 in
theorem tq_249 : (.selects "RecipePlans" ⟨"RecipePlans", "amount", "(III)Z"⟩ ⟨"RecipePlans", "amount", "(III)Z"⟩ : Cond) ∈ lw_tbl := List.mem_of_getElem? (i := 308) rfl
set_option maxRecDepth 100000 in
set_option maxHeartbeats 4000000 in
theorem tq_250 : (.code ⟨"RecipePlans", "amount", "(III)Z"⟩ prog_1_method_3_code 4 (some .boolean) : Cond) ∈ lw_tbl := List.mem_of_getElem? (i := 309) rfl
set_option maxRecDepth 100000 in
set_option maxHeartbeats 4000000 in
theorem tq_251 : (.methodLink "RecipePlans" 83 ⟨"RecipePlans", "isWhat", "(I)Z"⟩ : Cond) ∈ lw_tbl := List.mem_of_getElem? (i := 310) rfl
set_option maxRecDepth 100000 in
set_option maxHeartbeats 4000000 in
theorem tq_252 : (.static ⟨"RecipePlans", "isWhat", "(I)Z"⟩ : Cond) ∈ lw_tbl := List.mem_of_getElem? (i := 311) rfl
set_option maxRecDepth 100000 in
set_option maxHeartbeats 4000000 in
theorem tq_253 : (.code ⟨"RecipePlans", "isWhat", "(I)Z"⟩ prog_1_method_17_code 1 (some .boolean) : Cond) ∈ lw_tbl := List.mem_of_getElem? (i := 312) rfl
set_option maxRecDepth 100000 in
set_option maxHeartbeats 4000000 in
theorem tq_254 : (.constantLong "RecipePlans" 182 4 : Cond) ∈ lw_tbl := List.mem_of_getElem? (i := 313) rfl
set_option maxRecDepth 100000 in
set_option maxHeartbeats 4000000 in
theorem tq_255 : (.constantLong "RecipePlans" 87 (-100) : Cond) ∈ lw_tbl := List.mem_of_getElem? (i := 314) rfl
set_option maxRecDepth 100000 in
set_option maxHeartbeats 4000000 in
theorem tq_256 : (.constantLong "RecipePlans" 89 100 : Cond) ∈ lw_tbl := List.mem_of_getElem? (i := 315) rfl
set_option maxRecDepth 100000 in
set_option maxHeartbeats 4000000 in
theorem tq_257 : (.methodLink "RecipePlansLaw" 25 ⟨"RecipePlans", "span", "(III)Z"⟩ : Cond) ∈ lw_tbl := List.mem_of_getElem? (i := 316) rfl
set_option maxRecDepth 100000 in
set_option maxHeartbeats 4000000 in
theorem tq_258 : (.instanceMethod ⟨"RecipePlans", "span", "(III)Z"⟩ : Cond) ∈ lw_tbl := List.mem_of_getElem? (i := 317) rfl
set_option maxRecDepth 100000 in
set_option maxHeartbeats 4000000 in
theorem tq_259 : (.selects "RecipePlans" ⟨"RecipePlans", "span", "(III)Z"⟩ ⟨"RecipePlans", "span", "(III)Z"⟩ : Cond) ∈ lw_tbl := List.mem_of_getElem? (i := 318) rfl
set_option maxRecDepth 100000 in
set_option maxHeartbeats 4000000 in
theorem tq_260 : (.code ⟨"RecipePlans", "span", "(III)Z"⟩ prog_1_method_4_code 4 (some .boolean) : Cond) ∈ lw_tbl := List.mem_of_getElem? (i := 319) rfl
set_option maxRecDepth 100000 in
set_option maxHeartbeats 4000000 in
theorem tq_261 : (.constant "RecipePlans" 95 (-100000) : Cond) ∈ lw_tbl := List.mem_of_getElem? (i := 320) rfl
set_option maxRecDepth 100000 in
set_option maxHeartbeats 4000000 in
theorem tq_262 : (.constant "RecipePlans" 96 100000 : Cond) ∈ lw_tbl := List.mem_of_getElem? (i := 321) rfl
set_option maxRecDepth 100000 in
set_option maxHeartbeats 4000000 in
theorem tq_263 : (.methodLink "RecipePlans" 97 ⟨"RecipePlans", "isRange", "(IIII)Z"⟩ : Cond) ∈ lw_tbl := List.mem_of_getElem? (i := 322) rfl
set_option maxRecDepth 100000 in
set_option maxHeartbeats 4000000 in
theorem tq_264 : (.static ⟨"RecipePlans", "isRange", "(IIII)Z"⟩ : Cond) ∈ lw_tbl := List.mem_of_getElem? (i := 323) rfl
set_option maxRecDepth 100000 in
set_option maxHeartbeats 4000000 in
theorem tq_265 : (.code ⟨"RecipePlans", "isRange", "(IIII)Z"⟩ prog_1_method_16_code 4 (some .boolean) : Cond) ∈ lw_tbl := List.mem_of_getElem? (i := 324) rfl
set_option maxRecDepth 100000 in
set_option maxHeartbeats 4000000 in
theorem tq_266 : (.methodLink "RecipePlans" 101 ⟨"RecipePlans$Rules", "tell", "(IIIIII)V"⟩ : Cond) ∈ lw_tbl := List.mem_of_getElem? (i := 325) rfl
set_option maxRecDepth 100000 in
set_option maxHeartbeats 4000000 in
theorem tq_267 : (.instanceMethod ⟨"RecipePlans$Rules", "tell", "(IIIIII)V"⟩ : Cond) ∈ lw_tbl := List.mem_of_getElem? (i := 326) rfl
set_option maxRecDepth 100000 in
set_option maxHeartbeats 4000000 in
theorem tq_268 : (.selects "RecipePlans$Rules" ⟨"RecipePlans$Rules", "tell", "(IIIIII)V"⟩ ⟨"RecipePlans$Rules", "tell", "(IIIIII)V"⟩ : Cond) ∈ lw_tbl := List.mem_of_getElem? (i := 327) rfl
set_option maxRecDepth 100000 in
set_option maxHeartbeats 4000000 in
theorem tq_269 : (.code ⟨"RecipePlans$Rules", "tell", "(IIIIII)V"⟩ prog_5_method_2_code 7 none : Cond) ∈ lw_tbl := List.mem_of_getElem? (i := 328) rfl
set_option maxRecDepth 100000 in
set_option maxHeartbeats 4000000 in
theorem tq_270 : (.methodLink "RecipePlansLaw" 29 ⟨"RecipePlans", "ratio", "(IIIIII)Z"⟩ : Cond) ∈ lw_tbl := List.mem_of_getElem? (i := 329) rfl
set_option maxRecDepth 100000 in
set_option maxHeartbeats 4000000 in
theorem tq_271 : (.instanceMethod ⟨"RecipePlans", "ratio", "(IIIIII)Z"⟩ : Cond) ∈ lw_tbl := List.mem_of_getElem? (i := 330) rfl
set_option maxRecDepth 100000 in
set_option maxHeartbeats 4000000 in
theorem tq_272 : (.selects "RecipePlans" ⟨"RecipePlans", "ratio", "(IIIIII)Z"⟩ ⟨"RecipePlans", "ratio", "(IIIIII)Z"⟩ : Cond) ∈ lw_tbl := List.mem_of_getElem? (i := 331) rfl
set_option maxRecDepth 100000 in
set_option maxHeartbeats 4000000 in
theorem tq_273 : (.code ⟨"RecipePlans", "ratio", "(IIIIII)Z"⟩ prog_1_method_5_code 7 (some .boolean) : Cond) ∈ lw_tbl := List.mem_of_getElem? (i := 332) rfl
set_option maxRecDepth 100000 in
set_option maxHeartbeats 4000000 in
theorem tq_274 : (.methodLink "RecipePlansLaw" 34 ⟨"RecipePlans", "loads", "(II)Z"⟩ : Cond) ∈ lw_tbl := List.mem_of_getElem? (i := 333) rfl
set_option maxRecDepth 100000 in
set_option maxHeartbeats 4000000 in
theorem tq_275 : (.instanceMethod ⟨"RecipePlans", "loads", "(II)Z"⟩ : Cond) ∈ lw_tbl := List.mem_of_getElem? (i := 334) rfl
set_option maxRecDepth 100000 in
set_option maxHeartbeats 4000000 in
theorem tq_276 : (.selects "RecipePlans" ⟨"RecipePlans", "loads", "(II)Z"⟩ ⟨"RecipePlans", "loads", "(II)Z"⟩ : Cond) ∈ lw_tbl := List.mem_of_getElem? (i := 335) rfl
set_option maxRecDepth 100000 in
set_option maxHeartbeats 4000000 in
theorem tq_277 : (.code ⟨"RecipePlans", "loads", "(II)Z"⟩ prog_1_method_6_code 3 (some .boolean) : Cond) ∈ lw_tbl := List.mem_of_getElem? (i := 336) rfl
set_option maxRecDepth 100000 in
set_option maxHeartbeats 4000000 in
theorem tq_278 : (.methodLink "RecipePlansLaw" 39 ⟨"RecipePlans", "untell", "(I)Z"⟩ : Cond) ∈ lw_tbl := List.mem_of_getElem? (i := 337) rfl
set_option maxRecDepth 100000 in
set_option maxHeartbeats 4000000 in
theorem tq_279 : (.instanceMethod ⟨"RecipePlans", "untell", "(I)Z"⟩ : Cond) ∈ lw_tbl := List.mem_of_getElem? (i := 338) rfl
set_option maxRecDepth 100000 in
set_option maxHeartbeats 4000000 in
theorem tq_280 : (.selects "RecipePlans" ⟨"RecipePlans", "untell", "(I)Z"⟩ ⟨"RecipePlans", "untell", "(I)Z"⟩ : Cond) ∈ lw_tbl := List.mem_of_getElem? (i := 339) rfl
set_option maxRecDepth 100000 in
set_option maxHeartbeats 4000000 in
theorem tq_281 : (.code ⟨"RecipePlans", "untell", "(I)Z"⟩ prog_1_method_7_code 2 (some .boolean) : Cond) ∈ lw_tbl := List.mem_of_getElem? (i := 340) rfl
set_option maxRecDepth 100000 in
set_option maxHeartbeats 4000000 in
theorem tq_282 : (.constantLong "RecipePlans" 105 7 : Cond) ∈ lw_tbl := List.mem_of_getElem? (i := 341) rfl
set_option maxRecDepth 100000 in
set_option maxHeartbeats 4000000 in
theorem tq_283 : (.methodLink "RecipePlans" 107 ⟨"RecipePlans$Rules", "isTold", "(I)Z"⟩ : Cond) ∈ lw_tbl := List.mem_of_getElem? (i := 342) rfl
set_option maxRecDepth 100000 in
set_option maxHeartbeats 4000000 in
theorem tq_284 : (.instanceMethod ⟨"RecipePlans$Rules", "isTold", "(I)Z"⟩ : Cond) ∈ lw_tbl := List.mem_of_getElem? (i := 343) rfl
set_option maxRecDepth 100000 in
set_option maxHeartbeats 4000000 in
theorem tq_285 : (.selects "RecipePlans$Rules" ⟨"RecipePlans$Rules", "isTold", "(I)Z"⟩ ⟨"RecipePlans$Rules", "isTold", "(I)Z"⟩ : Cond) ∈ lw_tbl := List.mem_of_getElem? (i := 344) rfl
set_option maxRecDepth 100000 in
set_option maxHeartbeats 4000000 in
theorem tq_286 : (.code ⟨"RecipePlans$Rules", "isTold", "(I)Z"⟩ prog_5_method_3_code 2 (some .boolean) : Cond) ∈ lw_tbl := List.mem_of_getElem? (i := 345) rfl
set_option maxRecDepth 100000 in
set_option maxHeartbeats 4000000 in
theorem tq_287 : (.static ⟨"RecipePlans", "hasBit", "(II)Z"⟩ : Cond) ∈ lw_tbl := List.mem_of_getElem? (i := 347) rfl
set_option maxRecDepth 100000 in
set_option maxHeartbeats 4000000 in
theorem tq_288 : (.code ⟨"RecipePlans", "hasBit", "(II)Z"⟩ prog_1_method_18_code 2 (some .boolean) : Cond) ∈ lw_tbl := List.mem_of_getElem? (i := 348) rfl
set_option maxRecDepth 100000 in
set_option maxHeartbeats 4000000 in
theorem tq_289 : (.methodLink "RecipePlansLaw" 44 ⟨"RecipePlans", "run", "()I"⟩ : Cond) ∈ lw_tbl := List.mem_of_getElem? (i := 349) rfl
set_option maxRecDepth 100000 in
set_option maxHeartbeats 4000000 in
theorem tq_290 : (.instanceMethod ⟨"RecipePlans", "run", "()I"⟩ : Cond) ∈ lw_tbl := List.mem_of_getElem? (i := 350) rfl
set_option maxRecDepth 100000 in
set_option maxHeartbeats 4000000 in
theorem tq_291 : (.selects "RecipePlans" ⟨"RecipePlans", "run", "()I"⟩ ⟨"RecipePlans", "run", "()I"⟩ : Cond) ∈ lw_tbl := List.mem_of_getElem? (i := 351) rfl
set_option maxRecDepth 100000 in
set_option maxHeartbeats 4000000 in
theorem tq_292 : (.code ⟨"RecipePlans", "run", "()I"⟩ prog_1_method_8_code 1 (some .int) : Cond) ∈ lw_tbl := List.mem_of_getElem? (i := 352) rfl
set_option maxRecDepth 100000 in
set_option maxHeartbeats 4000000 in
theorem tq_293 : (.methodLink "RecipePlans" 113 ⟨"RecipePlans$Sides", "build", "(LRecipePlans$Lots;LRecipePlans$Rules;)V"⟩ : Cond) ∈ lw_tbl := List.mem_of_getElem? (i := 353) rfl
set_option maxRecDepth 100000 in
set_option maxHeartbeats 4000000 in
theorem tq_294 : (.instanceMethod ⟨"RecipePlans$Sides", "build", "(LRecipePlans$Lots;LRecipePlans$Rules;)V"⟩ : Cond) ∈ lw_tbl := List.mem_of_getElem? (i := 354) rfl
set_option maxRecDepth 100000 in
set_option maxHeartbeats 4000000 in
theorem tq_295 : (.selects "RecipePlans$Sides" ⟨"RecipePlans$Sides", "build", "(LRecipePlans$Lots;LRecipePlans$Rules;)V"⟩ ⟨"RecipePlans$Sides", "build", "(LRecipePlans$Lots;LRecipePlans$Rules;)V"⟩ : Cond) ∈ lw_tbl := List.mem_of_getElem? (i := 355) rfl
set_option maxRecDepth 100000 in
set_option maxHeartbeats 4000000 in
theorem tq_296 : (.code ⟨"RecipePlans$Sides", "build", "(LRecipePlans$Lots;LRecipePlans$Rules;)V"⟩ prog_6_method_2_code 4 none : Cond) ∈ lw_tbl := List.mem_of_getElem? (i := 356) rfl
set_option maxRecDepth 100000 in
set_option maxHeartbeats 4000000 in
theorem tq_297 : (.methodLink "RecipePlans$Sides" 24 ⟨"RecipePlans$Rules", "isTold", "(I)Z"⟩ : Cond) ∈ lw_tbl := List.mem_of_getElem? (i := 357) rfl
set_option maxRecDepth 100000 in
set_option maxHeartbeats 4000000 in
theorem tq_298 : (.methodLink "RecipePlans$Sides" 41 ⟨"RecipePlans$Sides", "fill", "([J[JLRecipePlans$Rules;I)V"⟩ : Cond) ∈ lw_tbl := List.mem_of_getElem? (i := 358) rfl
set_option maxRecDepth 100000 in
set_option maxHeartbeats 4000000 in
theorem tq_299 : (.instanceMethod ⟨"RecipePlans$Sides", "fill", "([J[JLRecipePlans$Rules;I)V"⟩ : Cond) ∈ lw_tbl := List.mem_of_getElem? (i := 360) rfl
set_option maxRecDepth 100000 in
set_option maxHeartbeats 4000000 in
theorem tq_300 : (.code ⟨"RecipePlans$Sides", "fill", "([J[JLRecipePlans$Rules;I)V"⟩ prog_6_method_3_code 10 none : Cond) ∈ lw_tbl := List.mem_of_getElem? (i := 361) rfl
set_option maxRecDepth 100000 in
set_option maxHeartbeats 4000000 in
theorem tq_301 : (.methodLink "RecipePlans" 117 ⟨"RecipePlans$CutSearch", "search", "()V"⟩ : Cond) ∈ lw_tbl := List.mem_of_getElem? (i := 362) rfl
set_option maxRecDepth 100000 in
set_option maxHeartbeats 4000000 in
theorem tq_302 : (.instanceMethod ⟨"RecipePlans$CutSearch", "search", "()V"⟩ : Cond) ∈ lw_tbl := List.mem_of_getElem? (i := 363) rfl
set_option maxRecDepth 100000 in
set_option maxHeartbeats 4000000 in
theorem tq_303 : (.selects "RecipePlans$CutSearch" ⟨"RecipePlans$CutSearch", "search", "()V"⟩ ⟨"RecipePlans$CutSearch", "search", "()V"⟩ : Cond) ∈ lw_tbl := List.mem_of_getElem? (i := 364) rfl
set_option maxRecDepth 100000 in
set_option maxHeartbeats 4000000 in
theorem tq_304 : (.code ⟨"RecipePlans$CutSearch", "search", "()V"⟩ prog_2_method_2_code 1 none : Cond) ∈ lw_tbl := List.mem_of_getElem? (i := 365) rfl
set_option maxRecDepth 100000 in
set_option maxHeartbeats 4000000 in
theorem tq_305 : (.methodLink "RecipePlans$CutSearch" 43 ⟨"RecipePlans$CutSearch", "begin", "()V"⟩ : Cond) ∈ lw_tbl := List.mem_of_getElem? (i := 366) rfl
set_option maxRecDepth 100000 in
set_option maxHeartbeats 4000000 in
theorem tq_306 : (.instanceMethod ⟨"RecipePlans$CutSearch", "begin", "()V"⟩ : Cond) ∈ lw_tbl := List.mem_of_getElem? (i := 368) rfl
set_option maxRecDepth 100000 in
set_option maxHeartbeats 4000000 in
theorem tq_307 : (.code ⟨"RecipePlans$CutSearch", "begin", "()V"⟩ prog_2_method_3_code 2 none : Cond) ∈ lw_tbl := List.mem_of_getElem? (i := 369) rfl
set_option maxRecDepth 100000 in
set_option maxHeartbeats 4000000 in
theorem tq_308 : (.methodLink "RecipePlans$CutSearch" 65 ⟨"RecipePlans$Lots", "inStock", "()I"⟩ : Cond) ∈ lw_tbl := List.mem_of_getElem? (i := 370) rfl
set_option maxRecDepth 100000 in
set_option maxHeartbeats 4000000 in
theorem tq_309 : (.instanceMethod ⟨"RecipePlans$Lots", "inStock", "()I"⟩ : Cond) ∈ lw_tbl := List.mem_of_getElem? (i := 371) rfl
set_option maxRecDepth 100000 in
set_option maxHeartbeats 4000000 in
theorem tq_310 : (.selects "RecipePlans$Lots" ⟨"RecipePlans$Lots", "inStock", "()I"⟩ ⟨"RecipePlans$Lots", "inStock", "()I"⟩ : Cond) ∈ lw_tbl := List.mem_of_getElem? (i := 372) rfl
set_option maxRecDepth 100000 in
set_option maxHeartbeats 4000000 in
theorem tq_311 : (.code ⟨"RecipePlans$Lots", "inStock", "()I"⟩ prog_4_method_4_code 3 (some .int) : Cond) ∈ lw_tbl := List.mem_of_getElem? (i := 373) rfl
set_option maxRecDepth 100000 in
set_option maxHeartbeats 4000000 in
theorem tq_312 : (.methodLink "RecipePlans$CutSearch" 46 ⟨"RecipePlans$CutSearch", "tighten", "(II)V"⟩ : Cond) ∈ lw_tbl := List.mem_of_getElem? (i := 374) rfl
set_option maxRecDepth 100000 in
set_option maxHeartbeats 4000000 in
theorem tq_313 : (.instanceMethod ⟨"RecipePlans$CutSearch", "tighten", "(II)V"⟩ : Cond) ∈ lw_tbl := List.mem_of_getElem? (i := 376) rfl
set_option maxRecDepth 100000 in
set_option maxHeartbeats 4000000 in
theorem tq_314 : (.code ⟨"RecipePlans$CutSearch", "tighten", "(II)V"⟩ prog_2_method_4_code 5 none : Cond) ∈ lw_tbl := List.mem_of_getElem? (i := 377) rfl
set_option maxRecDepth 100000 in
set_option maxHeartbeats 4000000 in
theorem tq_315 : (.methodLink "RecipePlans$CutSearch" 74 ⟨"RecipePlans$CutSearch", "visitCorners", "(I)V"⟩ : Cond) ∈ lw_tbl := List.mem_of_getElem? (i := 378) rfl
set_option maxRecDepth 100000 in
set_option maxHeartbeats 4000000 in
theorem tq_316 : (.instanceMethod ⟨"RecipePlans$CutSearch", "visitCorners", "(I)V"⟩ : Cond) ∈ lw_tbl := List.mem_of_getElem? (i := 380) rfl
set_option maxRecDepth 100000 in
set_option maxHeartbeats 4000000 in
theorem tq_317 : (.code ⟨"RecipePlans$CutSearch", "visitCorners", "(I)V"⟩ prog_2_method_8_code 7 none : Cond) ∈ lw_tbl := List.mem_of_getElem? (i := 381) rfl
set_option maxRecDepth 100000 in
set_option maxHeartbeats 4000000 in
theorem tq_318 : (.methodLink "RecipePlans$CutSearch" 127 ⟨"RecipePlans$CutSearch", "meets", "([JII)Z"⟩ : Cond) ∈ lw_tbl := List.mem_of_getElem? (i := 386) rfl
set_option maxRecDepth 100000 in
set_option maxHeartbeats 4000000 in
theorem tq_319 : (.instanceMethod ⟨"RecipePlans$CutSearch", "meets", "([JII)Z"⟩ : Cond) ∈ lw_tbl := List.mem_of_getElem? (i := 388) rfl
set_option maxRecDepth 100000 in
set_option maxHeartbeats 4000000 in
theorem tq_320 : (.code ⟨"RecipePlans$CutSearch", "meets", "([JII)Z"⟩ prog_2_method_9_code 13 (some .boolean) : Cond) ∈ lw_tbl := List.mem_of_getElem? (i := 389) rfl
set_option maxRecDepth 100000 in
set_option maxHeartbeats 4000000 in
theorem tq_321 : (.constantLong "RecipePlans$CutSearch" 134 (-1) : Cond) ∈ lw_tbl := List.mem_of_getElem? (i := 390) rfl
set_option maxRecDepth 100000 in
set_option maxHeartbeats 4000000 in
theorem tq_322 : (.methodLink "RecipePlans$CutSearch" 139 ⟨"RecipePlans$CutSearch", "replaced", "([JIII)J"⟩ : Cond) ∈ lw_tbl := List.mem_of_getElem? (i := 392) rfl
set_option maxRecDepth 100000 in
set_option maxHeartbeats 4000000 in
theorem tq_323 : (.instanceMethod ⟨"RecipePlans$CutSearch", "replaced", "([JIII)J"⟩ : Cond) ∈ lw_tbl := List.mem_of_getElem? (i := 394) rfl
set_option maxRecDepth 100000 in
set_option maxHeartbeats 4000000 in
theorem tq_324 : (.code ⟨"RecipePlans$CutSearch", "replaced", "([JIII)J"⟩ prog_2_method_10_code 14 (some .long) : Cond) ∈ lw_tbl := List.mem_of_getElem? (i := 395) rfl
set_option maxRecDepth 100000 in
set_option maxHeartbeats 4000000 in
theorem tq_325 : (.methodLink "RecipePlans$CutSearch" 147 ⟨"java/lang/Integer", "bitCount", "(I)I"⟩ : Cond) ∈ lw_tbl := List.mem_of_getElem? (i := 396) rfl
set_option maxRecDepth 100000 in
set_option maxHeartbeats 4000000 in
theorem tq_326 : (.static ⟨"java/lang/Integer", "bitCount", "(I)I"⟩ : Cond) ∈ lw_tbl := List.mem_of_getElem? (i := 397) rfl
set_option maxRecDepth 100000 in
set_option maxHeartbeats 4000000 in
theorem tq_327 : (.code ⟨"java/lang/Integer", "bitCount", "(I)I"⟩ prog_10_method_49_code 1 (some .int) : Cond) ∈ lw_tbl := List.mem_of_getElem? (i := 398) rfl
set_option maxRecDepth 100000 in
set_option maxHeartbeats 4000000 in
theorem tq_328 : (.constant "java/lang/Integer" 265 1431655765 : Cond) ∈ lw_tbl := List.mem_of_getElem? (i := 399) rfl
set_option maxRecDepth 100000 in
set_option maxHeartbeats 4000000 in
theorem tq_329 : (.constant "java/lang/Integer" 266 858993459 : Cond) ∈ lw_tbl := List.mem_of_getElem? (i := 400) rfl
set_option maxRecDepth 100000 in
set_option maxHeartbeats 4000000 in
theorem tq_330 : (.constant "java/lang/Integer" 267 252645135 : Cond) ∈ lw_tbl := List.mem_of_getElem? (i := 401) rfl
set_option maxRecDepth 100000 in
set_option maxHeartbeats 4000000 in
theorem tq_331 : (.methodLink "RecipePlans$CutSearch" 131 ⟨"RecipePlans$CutSearch", "weigh", "()V"⟩ : Cond) ∈ lw_tbl := List.mem_of_getElem? (i := 403) rfl
set_option maxRecDepth 100000 in
set_option maxHeartbeats 4000000 in
theorem tq_332 : (.instanceMethod ⟨"RecipePlans$CutSearch", "weigh", "()V"⟩ : Cond) ∈ lw_tbl := List.mem_of_getElem? (i := 405) rfl
set_option maxRecDepth 100000 in
set_option maxHeartbeats 4000000 in
theorem tq_333 : (.code ⟨"RecipePlans$CutSearch", "weigh", "()V"⟩ prog_2_method_11_code 5 none : Cond) ∈ lw_tbl := List.mem_of_getElem? (i := 406) rfl
set_option maxRecDepth 100000 in
set_option maxHeartbeats 4000000 in
theorem tq_334 : (.methodLink "RecipePlans$CutSearch" 153 ⟨"RecipePlans$Lots", "price", "([J)J"⟩ : Cond) ∈ lw_tbl := List.mem_of_getElem? (i := 407) rfl
set_option maxRecDepth 100000 in
set_option maxHeartbeats 4000000 in
theorem tq_335 : (.instanceMethod ⟨"RecipePlans$Lots", "price", "([J)J"⟩ : Cond) ∈ lw_tbl := List.mem_of_getElem? (i := 408) rfl
set_option maxRecDepth 100000 in
set_option maxHeartbeats 4000000 in
theorem tq_336 : (.selects "RecipePlans$Lots" ⟨"RecipePlans$Lots", "price", "([J)J"⟩ ⟨"RecipePlans$Lots", "price", "([J)J"⟩ : Cond) ∈ lw_tbl := List.mem_of_getElem? (i := 409) rfl
set_option maxRecDepth 100000 in
set_option maxHeartbeats 4000000 in
theorem tq_337 : (.code ⟨"RecipePlans$Lots", "price", "([J)J"⟩ prog_4_method_3_code 5 (some .long) : Cond) ∈ lw_tbl := List.mem_of_getElem? (i := 410) rfl
set_option maxRecDepth 100000 in
set_option maxHeartbeats 4000000 in
theorem tq_338 : (.methodLink "RecipePlans$CutSearch" 157 ⟨"RecipePlans$CutSearch", "isLess", "(JJJJ)Z"⟩ : Cond) ∈ lw_tbl := List.mem_of_getElem? (i := 411) rfl
set_option maxRecDepth 100000 in
set_option maxHeartbeats 4000000 in
theorem tq_339 : (.static ⟨"RecipePlans$CutSearch", "isLess", "(JJJJ)Z"⟩ : Cond) ∈ lw_tbl := List.mem_of_getElem? (i := 412) rfl
set_option maxRecDepth 100000 in
set_option maxHeartbeats 4000000 in
theorem tq_340 : (.code ⟨"RecipePlans$CutSearch", "isLess", "(JJJJ)Z"⟩ prog_2_method_12_code 17 (some .boolean) : Cond) ∈ lw_tbl := List.mem_of_getElem? (i := 413) rfl
set_option maxRecDepth 100000 in
set_option maxHeartbeats 4000000 in
theorem tq_341 : (.methodLink "RecipePlans$CutSearch" 168 ⟨"java/lang/Math", "floorDiv", "(JJ)J"⟩ : Cond) ∈ lw_tbl := List.mem_of_getElem? (i := 414) rfl
set_option maxRecDepth 100000 in
set_option maxHeartbeats 4000000 in
theorem tq_342 : (.static ⟨"java/lang/Math", "floorDiv", "(JJ)J"⟩ : Cond) ∈ lw_tbl := List.mem_of_getElem? (i := 415) rfl
set_option maxRecDepth 100000 in
set_option maxHeartbeats 4000000 in
theorem tq_343 : (.code ⟨"java/lang/Math", "floorDiv", "(JJ)J"⟩ prog_11_method_49_code 6 (some .long) : Cond) ∈ lw_tbl := List.mem_of_getElem? (i := 416) rfl
set_option maxRecDepth 100000 in
set_option maxHeartbeats 4000000 in
theorem tq_344 : (.methodLink "RecipePlans$CutSearch" 161 ⟨"RecipePlans$Lots", "hold", "([J[J)V"⟩ : Cond) ∈ lw_tbl := List.mem_of_getElem? (i := 417) rfl
set_option maxRecDepth 100000 in
set_option maxHeartbeats 4000000 in
theorem tq_345 : (.instanceMethod ⟨"RecipePlans$Lots", "hold", "([J[J)V"⟩ : Cond) ∈ lw_tbl := List.mem_of_getElem? (i := 418) rfl
set_option maxRecDepth 100000 in
set_option maxHeartbeats 4000000 in
theorem tq_346 : (.selects "RecipePlans$Lots" ⟨"RecipePlans$Lots", "hold", "([J[J)V"⟩ ⟨"RecipePlans$Lots", "hold", "([J[J)V"⟩ : Cond) ∈ lw_tbl := List.mem_of_getElem? (i := 419) rfl
set_option maxRecDepth 100000 in
set_option maxHeartbeats 4000000 in
theorem tq_347 : (.code ⟨"RecipePlans$Lots", "hold", "([J[J)V"⟩ prog_4_method_2_code 8 none : Cond) ∈ lw_tbl := List.mem_of_getElem? (i := 420) rfl
set_option maxRecDepth 100000 in
set_option maxHeartbeats 4000000 in
theorem tq_348 : (.methodLink "RecipePlans$CutSearch" 165 ⟨"RecipePlans$Rules", "keeps", "(I[J)Z"⟩ : Cond) ∈ lw_tbl := List.mem_of_getElem? (i := 421) rfl
set_option maxRecDepth 100000 in
set_option maxHeartbeats 4000000 in
theorem tq_349 : (.instanceMethod ⟨"RecipePlans$Rules", "keeps", "(I[J)Z"⟩ : Cond) ∈ lw_tbl := List.mem_of_getElem? (i := 422) rfl
set_option maxRecDepth 100000 in
set_option maxHeartbeats 4000000 in
theorem tq_350 : (.selects "RecipePlans$Rules" ⟨"RecipePlans$Rules", "keeps", "(I[J)Z"⟩ ⟨"RecipePlans$Rules", "keeps", "(I[J)Z"⟩ : Cond) ∈ lw_tbl := List.mem_of_getElem? (i := 423) rfl
set_option maxRecDepth 100000 in
set_option maxHeartbeats 4000000 in
theorem tq_351 : (.code ⟨"RecipePlans$Rules", "keeps", "(I[J)Z"⟩ prog_5_method_4_code 7 (some .boolean) : Cond) ∈ lw_tbl := List.mem_of_getElem? (i := 424) rfl
set_option maxRecDepth 100000 in
set_option maxHeartbeats 4000000 in
theorem tq_352 : (.methodLink "RecipePlans$Rules" 35 ⟨"RecipePlans$Rules", "atLeast", "(JJJJ)Z"⟩ : Cond) ∈ lw_tbl := List.mem_of_getElem? (i := 425) rfl
set_option maxRecDepth 100000 in
set_option maxHeartbeats 4000000 in
theorem tq_353 : (.static ⟨"RecipePlans$Rules", "atLeast", "(JJJJ)Z"⟩ : Cond) ∈ lw_tbl := List.mem_of_getElem? (i := 426) rfl
set_option maxRecDepth 100000 in
set_option maxHeartbeats 4000000 in
theorem tq_354 : (.code ⟨"RecipePlans$Rules", "atLeast", "(JJJJ)Z"⟩ prog_5_method_5_code 12 (some .boolean) : Cond) ∈ lw_tbl := List.mem_of_getElem? (i := 427) rfl
set_option maxRecDepth 100000 in
set_option maxHeartbeats 4000000 in
theorem tq_355 : (.constantLong "RecipePlans$Rules" 39 1048575 : Cond) ∈ lw_tbl := List.mem_of_getElem? (i := 428) rfl
set_option maxRecDepth 100000 in
set_option maxHeartbeats 4000000 in
theorem tq_356 : (.methodLink "RecipePlans$CutSearch" 89 ⟨"RecipePlans$CutSearch", "add", "(I[J)Z"⟩ : Cond) ∈ lw_tbl := List.mem_of_getElem? (i := 429) rfl
set_option maxRecDepth 100000 in
set_option maxHeartbeats 4000000 in
theorem tq_357 : (.instanceMethod ⟨"RecipePlans$CutSearch", "add", "(I[J)Z"⟩ : Cond) ∈ lw_tbl := List.mem_of_getElem? (i := 431) rfl
set_option maxRecDepth 100000 in
set_option maxHeartbeats 4000000 in
theorem tq_358 : (.code ⟨"RecipePlans$CutSearch", "add", "(I[J)Z"⟩ prog_2_method_6_code 8 (some .boolean) : Cond) ∈ lw_tbl := List.mem_of_getElem? (i := 432) rfl
set_option maxRecDepth 100000 in
set_option maxHeartbeats 4000000 in
theorem tq_359 : (.methodLink "RecipePlans$CutSearch" 120 ⟨"RecipePlans$CutSearch", "expand", "([J[JI)J"⟩ : Cond) ∈ lw_tbl := List.mem_of_getElem? (i := 433) rfl
set_option maxRecDepth 100000 in
set_option maxHeartbeats 4000000 in
theorem tq_360 : (.static ⟨"RecipePlans$CutSearch", "expand", "([J[JI)J"⟩ : Cond) ∈ lw_tbl := List.mem_of_getElem? (i := 434) rfl
set_option maxRecDepth 100000 in
set_option maxHeartbeats 4000000 in
theorem tq_361 : (.code ⟨"RecipePlans$CutSearch", "expand", "([J[JI)J"⟩ prog_2_method_7_code 8 (some .long) : Cond) ∈ lw_tbl := List.mem_of_getElem? (i := 435) rfl
set_option maxRecDepth 100000 in
set_option maxHeartbeats 4000000 in
theorem tq_362 : (.methodLink "RecipePlans$CutSearch" 101 ⟨"RecipePlans$CutSearch", "addBoth", "(II)Z"⟩ : Cond) ∈ lw_tbl := List.mem_of_getElem? (i := 436) rfl
set_option maxRecDepth 100000 in
set_option maxHeartbeats 4000000 in
theorem tq_363 : (.instanceMethod ⟨"RecipePlans$CutSearch", "addBoth", "(II)Z"⟩ : Cond) ∈ lw_tbl := List.mem_of_getElem? (i := 438) rfl
set_option maxRecDepth 100000 in
set_option maxHeartbeats 4000000 in
theorem tq_364 : (.code ⟨"RecipePlans$CutSearch", "addBoth", "(II)Z"⟩ prog_2_method_5_code 3 (some .boolean) : Cond) ∈ lw_tbl := List.mem_of_getElem? (i := 439) rfl
set_option maxRecDepth 100000 in
set_option maxHeartbeats 4000000 in
theorem tq_365 : (.methodLink "RecipePlans" 124 ⟨"RecipePlans$WholeSearch", "search", "(Z)V"⟩ : Cond) ∈ lw_tbl := List.mem_of_getElem? (i := 440) rfl
set_option maxRecDepth 100000 in
set_option maxHeartbeats 4000000 in
theorem tq_366 : (.instanceMethod ⟨"RecipePlans$WholeSearch", "search", "(Z)V"⟩ : Cond) ∈ lw_tbl := List.mem_of_getElem? (i := 441) rfl
set_option maxRecDepth 100000 in
set_option maxHeartbeats 4000000 in
theorem tq_367 : (.selects "RecipePlans$WholeSearch" ⟨"RecipePlans$WholeSearch", "search", "(Z)V"⟩ ⟨"RecipePlans$WholeSearch", "search", "(Z)V"⟩ : Cond) ∈ lw_tbl := List.mem_of_getElem? (i := 442) rfl
set_option maxRecDepth 100000 in
set_option maxHeartbeats 4000000 in
theorem tq_368 : (.code ⟨"RecipePlans$WholeSearch", "search", "(Z)V"⟩ prog_7_method_2_code 2 none : Cond) ∈ lw_tbl := List.mem_of_getElem? (i := 443) rfl
set_option maxRecDepth 100000 in
set_option maxHeartbeats 4000000 in
theorem tq_369 : (.methodLink "RecipePlans$WholeSearch" 46 ⟨"RecipePlans$WholeSearch", "begin", "()V"⟩ : Cond) ∈ lw_tbl := List.mem_of_getElem? (i := 444) rfl
set_option maxRecDepth 100000 in
set_option maxHeartbeats 4000000 in
theorem tq_370 : (.instanceMethod ⟨"RecipePlans$WholeSearch", "begin", "()V"⟩ : Cond) ∈ lw_tbl := List.mem_of_getElem? (i := 446) rfl
set_option maxRecDepth 100000 in
set_option maxHeartbeats 4000000 in
theorem tq_371 : (.code ⟨"RecipePlans$WholeSearch", "begin", "()V"⟩ prog_7_method_3_code 3 none : Cond) ∈ lw_tbl := List.mem_of_getElem? (i := 447) rfl
set_option maxRecDepth 100000 in
set_option maxHeartbeats 4000000 in
theorem tq_372 : (.methodLink "RecipePlans$WholeSearch" 70 ⟨"java/lang/Math", "min", "(JJ)J"⟩ : Cond) ∈ lw_tbl := List.mem_of_getElem? (i := 448) rfl
set_option maxRecDepth 100000 in
set_option maxHeartbeats 4000000 in
theorem tq_373 : (.static ⟨"java/lang/Math", "min", "(JJ)J"⟩ : Cond) ∈ lw_tbl := List.mem_of_getElem? (i := 449) rfl
set_option maxRecDepth 100000 in
set_option maxHeartbeats 4000000 in
theorem tq_374 : (.code ⟨"java/lang/Math", "min", "(JJ)J"⟩ prog_11_method_70_code 4 (some .long) : Cond) ∈ lw_tbl := List.mem_of_getElem? (i := 450) rfl
set_option maxRecDepth 100000 in
set_option maxHeartbeats 4000000 in
theorem tq_375 : (.methodLink "RecipePlans$WholeSearch" 76 ⟨"java/lang/Math", "max", "(JJ)J"⟩ : Cond) ∈ lw_tbl := List.mem_of_getElem? (i := 451) rfl
set_option maxRecDepth 100000 in
set_option maxHeartbeats 4000000 in
theorem tq_376 : (.static ⟨"java/lang/Math", "max", "(JJ)J"⟩ : Cond) ∈ lw_tbl := List.mem_of_getElem? (i := 452) rfl
set_option maxRecDepth 100000 in
set_option maxHeartbeats 4000000 in
theorem tq_377 : (.code ⟨"java/lang/Math", "max", "(JJ)J"⟩ prog_11_method_66_code 4 (some .long) : Cond) ∈ lw_tbl := List.mem_of_getElem? (i := 453) rfl
set_option maxRecDepth 100000 in
set_option maxHeartbeats 4000000 in
theorem tq_378 : (.methodLink "RecipePlans$WholeSearch" 49 ⟨"RecipePlans$WholeSearch", "place", "(IJ)V"⟩ : Cond) ∈ lw_tbl := List.mem_of_getElem? (i := 454) rfl
set_option maxRecDepth 100000 in
set_option maxHeartbeats 4000000 in
theorem tq_379 : (.instanceMethod ⟨"RecipePlans$WholeSearch", "place", "(IJ)V"⟩ : Cond) ∈ lw_tbl := List.mem_of_getElem? (i := 456) rfl
set_option maxRecDepth 100000 in
set_option maxHeartbeats 4000000 in
theorem tq_380 : (.code ⟨"RecipePlans$WholeSearch", "place", "(IJ)V"⟩ prog_7_method_4_code 7 none : Cond) ∈ lw_tbl := List.mem_of_getElem? (i := 457) rfl
set_option maxRecDepth 100000 in
set_option maxHeartbeats 4000000 in
theorem tq_381 : (.methodLink "RecipePlans$WholeSearch" 79 ⟨"RecipePlans$WholeSearch", "mostLoads", "(I)I"⟩ : Cond) ∈ lw_tbl := List.mem_of_getElem? (i := 458) rfl
set_option maxRecDepth 100000 in
set_option maxHeartbeats 4000000 in
theorem tq_382 : (.instanceMethod ⟨"RecipePlans$WholeSearch", "mostLoads", "(I)I"⟩ : Cond) ∈ lw_tbl := List.mem_of_getElem? (i := 460) rfl
set_option maxRecDepth 100000 in
set_option maxHeartbeats 4000000 in
theorem tq_383 : (.code ⟨"RecipePlans$WholeSearch", "mostLoads", "(I)I"⟩ prog_7_method_7_code 9 (some .int) : Cond) ∈ lw_tbl := List.mem_of_getElem? (i := 461) rfl
set_option maxRecDepth 100000 in
set_option maxHeartbeats 4000000 in
theorem tq_384 : (.methodLink "RecipePlans$WholeSearch" 94 ⟨"java/lang/Math", "floorDiv", "(JJ)J"⟩ : Cond) ∈ lw_tbl := List.mem_of_getElem? (i := 462) rfl
set_option maxRecDepth 100000 in
set_option maxHeartbeats 4000000 in
theorem tq_385 : (.constantLong "RecipePlans$WholeSearch" 97 (-1) : Cond) ∈ lw_tbl := List.mem_of_getElem? (i := 463) rfl
set_option maxRecDepth 100000 in
set_option maxHeartbeats 4000000 in
theorem tq_386 : (.methodLink "RecipePlans$WholeSearch" 83 ⟨"RecipePlans$WholeSearch", "fewestLoads", "(I)I"⟩ : Cond) ∈ lw_tbl := List.mem_of_getElem? (i := 464) rfl
set_option maxRecDepth 100000 in
set_option maxHeartbeats 4000000 in
theorem tq_387 : (.instanceMethod ⟨"RecipePlans$WholeSearch", "fewestLoads", "(I)I"⟩ : Cond) ∈ lw_tbl := List.mem_of_getElem? (i := 466) rfl
set_option maxRecDepth 100000 in
set_option maxHeartbeats 4000000 in
theorem tq_388 : (.code ⟨"RecipePlans$WholeSearch", "fewestLoads", "(I)I"⟩ prog_7_method_8_code 9 (some .int) : Cond) ∈ lw_tbl := List.mem_of_getElem? (i := 467) rfl
set_option maxRecDepth 100000 in
set_option maxHeartbeats 4000000 in
theorem tq_389 : (.constantLong "RecipePlans$WholeSearch" 99 10 : Cond) ∈ lw_tbl := List.mem_of_getElem? (i := 468) rfl
set_option maxRecDepth 100000 in
set_option maxHeartbeats 4000000 in
theorem tq_390 : (.methodLink "RecipePlans$WholeSearch" 86 ⟨"RecipePlans$WholeSearch", "take", "(IIJ)V"⟩ : Cond) ∈ lw_tbl := List.mem_of_getElem? (i := 469) rfl
set_option maxRecDepth 100000 in
set_option maxHeartbeats 4000000 in
theorem tq_391 : (.instanceMethod ⟨"RecipePlans$WholeSearch", "take", "(IIJ)V"⟩ : Cond) ∈ lw_tbl := List.mem_of_getElem? (i := 471) rfl
set_option maxRecDepth 100000 in
set_option maxHeartbeats 4000000 in
theorem tq_392 : (.code ⟨"RecipePlans$WholeSearch", "take", "(IIJ)V"⟩ prog_7_method_5_code 6 none : Cond) ∈ lw_tbl := List.mem_of_getElem? (i := 472) rfl
set_option maxRecDepth 100000 in
set_option maxHeartbeats 4000000 in
theorem tq_393 : (.methodLink "RecipePlans$WholeSearch" 90 ⟨"RecipePlans$WholeSearch", "offer", "(J)V"⟩ : Cond) ∈ lw_tbl := List.mem_of_getElem? (i := 473) rfl
set_option maxRecDepth 100000 in
set_option maxHeartbeats 4000000 in
theorem tq_394 : (.instanceMethod ⟨"RecipePlans$WholeSearch", "offer", "(J)V"⟩ : Cond) ∈ lw_tbl := List.mem_of_getElem? (i := 475) rfl
set_option maxRecDepth 100000 in
set_option maxHeartbeats 4000000 in
theorem tq_395 : (.code ⟨"RecipePlans$WholeSearch", "offer", "(J)V"⟩ prog_7_method_6_code 4 none : Cond) ∈ lw_tbl := List.mem_of_getElem? (i := 476) rfl
set_option maxRecDepth 100000 in
set_option maxHeartbeats 4000000 in
theorem tq_396 : (.methodLink "RecipePlans" 127 ⟨"RecipePlans$Found", "takeCut", "(LRecipePlans$CutSearch;)V"⟩ : Cond) ∈ lw_tbl := List.mem_of_getElem? (i := 477) rfl
set_option maxRecDepth 100000 in
set_option maxHeartbeats 4000000 in
theorem tq_397 : (.instanceMethod ⟨"RecipePlans$Found", "takeCut", "(LRecipePlans$CutSearch;)V"⟩ : Cond) ∈ lw_tbl := List.mem_of_getElem? (i := 478) rfl
set_option maxRecDepth 100000 in
set_option maxHeartbeats 4000000 in
theorem tq_398 : (.selects "RecipePlans$Found" ⟨"RecipePlans$Found", "takeCut", "(LRecipePlans$CutSearch;)V"⟩ ⟨"RecipePlans$Found", "takeCut", "(LRecipePlans$CutSearch;)V"⟩ : Cond) ∈ lw_tbl := List.mem_of_getElem? (i := 479) rfl
set_option maxRecDepth 100000 in
set_option maxHeartbeats 4000000 in
theorem tq_399 : (.code ⟨"RecipePlans$Found", "takeCut", "(LRecipePlans$CutSearch;)V"⟩ prog_3_method_2_code 4 none : Cond) ∈ lw_tbl := List.mem_of_getElem? (i := 480) rfl
set_option maxRecDepth 100000 in
set_option maxHeartbeats 4000000 in
theorem tq_400 : (.methodLink "RecipePlans$Found" 15 ⟨"RecipePlans$CutSearch", "commonDivisor", "()J"⟩ : Cond) ∈ lw_tbl := List.mem_of_getElem? (i := 481) rfl
set_option maxRecDepth 100000 in
set_option maxHeartbeats 4000000 in
theorem tq_401 : (.instanceMethod ⟨"RecipePlans$CutSearch", "commonDivisor", "()J"⟩ : Cond) ∈ lw_tbl := List.mem_of_getElem? (i := 482) rfl
set_option maxRecDepth 100000 in
set_option maxHeartbeats 4000000 in
theorem tq_402 : (.selects "RecipePlans$CutSearch" ⟨"RecipePlans$CutSearch", "commonDivisor", "()J"⟩ ⟨"RecipePlans$CutSearch", "commonDivisor", "()J"⟩ : Cond) ∈ lw_tbl := List.mem_of_getElem? (i := 483) rfl
set_option maxRecDepth 100000 in
set_option maxHeartbeats 4000000 in
theorem tq_403 : (.code ⟨"RecipePlans$CutSearch", "commonDivisor", "()J"⟩ prog_2_method_13_code 8 (some .long) : Cond) ∈ lw_tbl := List.mem_of_getElem? (i := 484) rfl
set_option maxRecDepth 100000 in
set_option maxHeartbeats 4000000 in
theorem tq_404 : (.methodLink "RecipePlans$CutSearch" 174 ⟨"java/lang/Math", "abs", "(J)J"⟩ : Cond) ∈ lw_tbl := List.mem_of_getElem? (i := 485) rfl
set_option maxRecDepth 100000 in
set_option maxHeartbeats 4000000 in
theorem tq_405 : (.static ⟨"java/lang/Math", "abs", "(J)J"⟩ : Cond) ∈ lw_tbl := List.mem_of_getElem? (i := 486) rfl
set_option maxRecDepth 100000 in
set_option maxHeartbeats 4000000 in
theorem tq_406 : (.code ⟨"java/lang/Math", "abs", "(J)J"⟩ prog_11_method_61_code 2 (some .long) : Cond) ∈ lw_tbl := List.mem_of_getElem? (i := 487) rfl
set_option maxRecDepth 100000 in
set_option maxHeartbeats 4000000 in
theorem tq_407 : (.methodLink "RecipePlans$Found" 37 ⟨"RecipePlans$CutSearch", "fewestClashing", "()I"⟩ : Cond) ∈ lw_tbl := List.mem_of_getElem? (i := 488) rfl
set_option maxRecDepth 100000 in
set_option maxHeartbeats 4000000 in
theorem tq_408 : (.instanceMethod ⟨"RecipePlans$CutSearch", "fewestClashing", "()I"⟩ : Cond) ∈ lw_tbl := List.mem_of_getElem? (i := 489) rfl
set_option maxRecDepth 100000 in
set_option maxHeartbeats 4000000 in
theorem tq_409 : (.selects "RecipePlans$CutSearch" ⟨"RecipePlans$CutSearch", "fewestClashing", "()I"⟩ ⟨"RecipePlans$CutSearch", "fewestClashing", "()I"⟩ : Cond) ∈ lw_tbl := List.mem_of_getElem? (i := 490) rfl
set_option maxRecDepth 100000 in
set_option maxHeartbeats 4000000 in
theorem tq_410 : (.code ⟨"RecipePlans$CutSearch", "fewestClashing", "()I"⟩ prog_2_method_14_code 4 (some .int) : Cond) ∈ lw_tbl := List.mem_of_getElem? (i := 491) rfl
set_option maxRecDepth 100000 in
set_option maxHeartbeats 4000000 in
theorem tq_411 : (.methodLink "RecipePlans$CutSearch" 181 ⟨"RecipePlans$CutSearch", "allBreak", "(I)Z"⟩ : Cond) ∈ lw_tbl := List.mem_of_getElem? (i := 492) rfl
set_option maxRecDepth 100000 in
set_option maxHeartbeats 4000000 in
theorem tq_412 : (.instanceMethod ⟨"RecipePlans$CutSearch", "allBreak", "(I)Z"⟩ : Cond) ∈ lw_tbl := List.mem_of_getElem? (i := 494) rfl
set_option maxRecDepth 100000 in
set_option maxHeartbeats 4000000 in
theorem tq_413 : (.code ⟨"RecipePlans$CutSearch", "allBreak", "(I)Z"⟩ prog_2_method_15_code 3 (some .boolean) : Cond) ∈ lw_tbl := List.mem_of_getElem? (i := 495) rfl
set_option maxRecDepth 100000 in
set_option maxHeartbeats 4000000 in
theorem tq_414 : (.methodLink "RecipePlans" 131 ⟨"RecipePlans$Found", "takeWhole", "(LRecipePlans$WholeSearch;I)V"⟩ : Cond) ∈ lw_tbl := List.mem_of_getElem? (i := 496) rfl
set_option maxRecDepth 100000 in
set_option maxHeartbeats 4000000 in
theorem tq_415 : (.instanceMethod ⟨"RecipePlans$Found", "takeWhole", "(LRecipePlans$WholeSearch;I)V"⟩ : Cond) ∈ lw_tbl := List.mem_of_getElem? (i := 497) rfl
set_option maxRecDepth 100000 in
set_option maxHeartbeats 4000000 in
theorem tq_416 : (.selects "RecipePlans$Found" ⟨"RecipePlans$Found", "takeWhole", "(LRecipePlans$WholeSearch;I)V"⟩ ⟨"RecipePlans$Found", "takeWhole", "(LRecipePlans$WholeSearch;I)V"⟩ : Cond) ∈ lw_tbl := List.mem_of_getElem? (i := 498) rfl
set_option maxRecDepth 100000 in
set_option maxHeartbeats 4000000 in
theorem tq_417 : (.code ⟨"RecipePlans$Found", "takeWhole", "(LRecipePlans$WholeSearch;I)V"⟩ prog_3_method_3_code 4 none : Cond) ∈ lw_tbl := List.mem_of_getElem? (i := 499) rfl
set_option maxRecDepth 100000 in
set_option maxHeartbeats 4000000 in
theorem tq_418 : (.methodLink "RecipePlansLaw" 49 ⟨"RecipePlans", "best", "(I)I"⟩ : Cond) ∈ lw_tbl := List.mem_of_getElem? (i := 500) rfl
set_option maxRecDepth 100000 in
set_option maxHeartbeats 4000000 in
theorem tq_419 : (.instanceMethod ⟨"RecipePlans", "best", "(I)I"⟩ : Cond) ∈ lw_tbl := List.mem_of_getElem? (i := 501) rfl
set_option maxRecDepth 100000 in
set_option maxHeartbeats 4000000 in
theorem tq_420 : (.selects "RecipePlans" ⟨"RecipePlans", "best", "(I)I"⟩ ⟨"RecipePlans", "best", "(I)I"⟩ : Cond) ∈ lw_tbl := List.mem_of_getElem? (i := 502) rfl
set_option maxRecDepth 100000 in
set_option maxHeartbeats 4000000 in
theorem tq_421 : (.code ⟨"RecipePlans", "best", "(I)I"⟩ prog_1_method_9_code 2 (some .int) : Cond) ∈ lw_tbl := List.mem_of_getElem? (i := 503) rfl
set_option maxRecDepth 100000 in
set_option maxHeartbeats 4000000 in
theorem tq_422 : (.methodLink "RecipePlansLaw" 54 ⟨"RecipePlans", "cost", "()J"⟩ : Cond) ∈ lw_tbl := List.mem_of_getElem? (i := 504) rfl
set_option maxRecDepth 100000 in
set_option maxHeartbeats 4000000 in
theorem tq_423 : (.instanceMethod ⟨"RecipePlans", "cost", "()J"⟩ : Cond) ∈ lw_tbl := List.mem_of_getElem? (i := 505) rfl
set_option maxRecDepth 100000 in
set_option maxHeartbeats 4000000 in
theorem tq_424 : (.selects "RecipePlans" ⟨"RecipePlans", "cost", "()J"⟩ ⟨"RecipePlans", "cost", "()J"⟩ : Cond) ∈ lw_tbl := List.mem_of_getElem? (i := 506) rfl
set_option maxRecDepth 100000 in
set_option maxHeartbeats 4000000 in
theorem tq_425 : (.code ⟨"RecipePlans", "cost", "()J"⟩ prog_1_method_10_code 1 (some .long) : Cond) ∈ lw_tbl := List.mem_of_getElem? (i := 507) rfl
set_option maxRecDepth 100000 in
set_option maxHeartbeats 4000000 in
theorem tq_426 : (.constantLong "RecipePlans" 150 (-9223372036854775808) : Cond) ∈ lw_tbl := List.mem_of_getElem? (i := 508) rfl
set_option maxRecDepth 100000 in
set_option maxHeartbeats 4000000 in
theorem tq_427 : (.methodLink "RecipePlansLaw" 59 ⟨"RecipePlans", "cut", "(I)J"⟩ : Cond) ∈ lw_tbl := List.mem_of_getElem? (i := 509) rfl
set_option maxRecDepth 100000 in
set_option maxHeartbeats 4000000 in
theorem tq_428 : (.instanceMethod ⟨"RecipePlans", "cut", "(I)J"⟩ : Cond) ∈ lw_tbl := List.mem_of_getElem? (i := 510) rfl
set_option maxRecDepth 100000 in
set_option maxHeartbeats 4000000 in
theorem tq_429 : (.selects "RecipePlans" ⟨"RecipePlans", "cut", "(I)J"⟩ ⟨"RecipePlans", "cut", "(I)J"⟩ : Cond) ∈ lw_tbl := List.mem_of_getElem? (i := 511) rfl
set_option maxRecDepth 100000 in
set_option maxHeartbeats 4000000 in
theorem tq_430 : (.code ⟨"RecipePlans", "cut", "(I)J"⟩ prog_1_method_11_code 2 (some .long) : Cond) ∈ lw_tbl := List.mem_of_getElem? (i := 512) rfl
set_option maxRecDepth 100000 in
set_option maxHeartbeats 4000000 in
theorem tq_431 : (.methodLink "RecipePlansLaw" 64 ⟨"RecipePlans", "clashes", "()I"⟩ : Cond) ∈ lw_tbl := List.mem_of_getElem? (i := 513) rfl
set_option maxRecDepth 100000 in
set_option maxHeartbeats 4000000 in
theorem tq_432 : (.instanceMethod ⟨"RecipePlans", "clashes", "()I"⟩ : Cond) ∈ lw_tbl := List.mem_of_getElem? (i := 514) rfl
set_option maxRecDepth 100000 in
set_option maxHeartbeats 4000000 in
theorem tq_433 : (.selects "RecipePlans" ⟨"RecipePlans", "clashes", "()I"⟩ ⟨"RecipePlans", "clashes", "()I"⟩ : Cond) ∈ lw_tbl := List.mem_of_getElem? (i := 515) rfl
set_option maxRecDepth 100000 in
set_option maxHeartbeats 4000000 in
theorem tq_434 : (.code ⟨"RecipePlans", "clashes", "()I"⟩ prog_1_method_12_code 1 (some .int) : Cond) ∈ lw_tbl := List.mem_of_getElem? (i := 516) rfl
set_option maxRecDepth 100000 in
set_option maxHeartbeats 4000000 in
theorem tq_435 : (.methodLink "RecipePlans" 164 ⟨"java/lang/Integer", "bitCount", "(I)I"⟩ : Cond) ∈ lw_tbl := List.mem_of_getElem? (i := 517) rfl
set_option maxRecDepth 100000 in
set_option maxHeartbeats 4000000 in
theorem tq_436 : (.methodLink "RecipePlansLaw" 68 ⟨"RecipePlans", "clash", "(I)Z"⟩ : Cond) ∈ lw_tbl := List.mem_of_getElem? (i := 518) rfl
set_option maxRecDepth 100000 in
set_option maxHeartbeats 4000000 in
theorem tq_437 : (.instanceMethod ⟨"RecipePlans", "clash", "(I)Z"⟩ : Cond) ∈ lw_tbl := List.mem_of_getElem? (i := 519) rfl
set_option maxRecDepth 100000 in
set_option maxHeartbeats 4000000 in
theorem tq_438 : (.selects "RecipePlans" ⟨"RecipePlans", "clash", "(I)Z"⟩ ⟨"RecipePlans", "clash", "(I)Z"⟩ : Cond) ∈ lw_tbl := List.mem_of_getElem? (i := 520) rfl
set_option maxRecDepth 100000 in
set_option maxHeartbeats 4000000 in
theorem tq_439 : (.code ⟨"RecipePlans", "clash", "(I)Z"⟩ prog_1_method_13_code 2 (some .boolean) : Cond) ∈ lw_tbl := List.mem_of_getElem? (i := 521) rfl
set_option maxRecDepth 100000 in
set_option maxHeartbeats 4000000 in
theorem tq_440 : (.methodLink "RecipePlans" 170 ⟨"RecipePlans", "hasBit", "(II)Z"⟩ : Cond) ∈ lw_tbl := List.mem_of_getElem? (i := 522) rfl
set_option maxRecDepth 100000 in
set_option maxHeartbeats 4000000 in
theorem tq_441 : (.methodLink "RecipePlansLaw" 72 ⟨"RecipePlans", "broken", "(IIII)I"⟩ : Cond) ∈ lw_tbl := List.mem_of_getElem? (i := 523) rfl
set_option maxRecDepth 100000 in
set_option maxHeartbeats 4000000 in
theorem tq_442 : (.instanceMethod ⟨"RecipePlans", "broken", "(IIII)I"⟩ : Cond) ∈ lw_tbl := List.mem_of_getElem? (i := 524) rfl
set_option maxRecDepth 100000 in
set_option maxHeartbeats 4000000 in
theorem tq_443 : (.selects "RecipePlans" ⟨"RecipePlans", "broken", "(IIII)I"⟩ ⟨"RecipePlans", "broken", "(IIII)I"⟩ : Cond) ∈ lw_tbl := List.mem_of_getElem? (i := 525) rfl
set_option maxRecDepth 100000 in
set_option maxHeartbeats 4000000 in
theorem tq_444 : (.code ⟨"RecipePlans", "broken", "(IIII)I"⟩ prog_1_method_14_code 6 (some .int) : Cond) ∈ lw_tbl := List.mem_of_getElem? (i := 526) rfl
set_option maxRecDepth 100000 in
set_option maxHeartbeats 4000000 in
theorem tq_445 : (.methodLink "RecipePlans" 174 ⟨"RecipePlans$Lots", "hold", "([J[J)V"⟩ : Cond) ∈ lw_tbl := List.mem_of_getElem? (i := 527) rfl
set_option maxRecDepth 100000 in
set_option maxHeartbeats 4000000 in
theorem tq_446 : (.methodLink "RecipePlans" 178 ⟨"RecipePlans$Rules", "keeps", "(I[J)Z"⟩ : Cond) ∈ lw_tbl := List.mem_of_getElem? (i := 528) rfl
set_option maxRecDepth 100000 in
set_option maxHeartbeats 4000000 in
theorem tq_447 : (.classLink "RecipePlansLaw" 10 "RecipePlansModel" : Cond) ∈ lw_tbl := List.mem_of_getElem? (i := 529) rfl
set_option maxRecDepth 100000 in
set_option maxHeartbeats 4000000 in
theorem tq_448 : (.instantiable "RecipePlansModel" 24 : Cond) ∈ lw_tbl := List.mem_of_getElem? (i := 530) rfl
set_option maxRecDepth 100000 in
set_option maxHeartbeats 4000000 in
theorem tq_449 : (.methodLink "RecipePlansLaw" 12 ⟨"RecipePlansModel", "<init>", "()V"⟩ : Cond) ∈ lw_tbl := List.mem_of_getElem? (i := 531) rfl
set_option maxRecDepth 100000 in
set_option maxHeartbeats 4000000 in
theorem tq_450 : (.instanceMethod ⟨"RecipePlansModel", "<init>", "()V"⟩ : Cond) ∈ lw_tbl := List.mem_of_getElem? (i := 532) rfl
set_option maxRecDepth 100000 in
set_option maxHeartbeats 4000000 in
theorem tq_451 : (.code ⟨"RecipePlansModel", "<init>", "()V"⟩ prog_9_method_1_code 1 none : Cond) ∈ lw_tbl := List.mem_of_getElem? (i := 533) rfl
set_option maxRecDepth 100000 in
set_option maxHeartbeats 4000000 in
theorem tq_452 : (.methodLink "RecipePlansModel" 1 ⟨"java/lang/Object", "<init>", "()V"⟩ : Cond) ∈ lw_tbl := List.mem_of_getElem? (i := 534) rfl
set_option maxRecDepth 100000 in
set_option maxHeartbeats 4000000 in
theorem tq_453 : (.fieldLink "RecipePlansModel" 64 "RecipePlansModel" "lots" "I" : Cond) ∈ lw_tbl := List.mem_of_getElem? (i := 535) rfl
set_option maxRecDepth 100000 in
set_option maxHeartbeats 4000000 in
theorem tq_454 : (.fieldLink "RecipePlansModel" 7 "RecipePlansModel" "stocks" "[I" : Cond) ∈ lw_tbl := List.mem_of_getElem? (i := 536) rfl
set_option maxRecDepth 100000 in
set_option maxHeartbeats 4000000 in
theorem tq_455 : (.fieldLink "RecipePlansModel" 13 "RecipePlansModel" "cents" "[I" : Cond) ∈ lw_tbl := List.mem_of_getElem? (i := 537) rfl
set_option maxRecDepth 100000 in
set_option maxHeartbeats 4000000 in
theorem tq_456 : (.fieldLink "RecipePlansModel" 16 "RecipePlansModel" "amounts" "[I" : Cond) ∈ lw_tbl := List.mem_of_getElem? (i := 538) rfl
set_option maxRecDepth 100000 in
set_option maxHeartbeats 4000000 in
theorem tq_457 : (.fieldLink "RecipePlansModel" 19 "RecipePlansModel" "told" "[Z" : Cond) ∈ lw_tbl := List.mem_of_getElem? (i := 539) rfl
set_option maxRecDepth 100000 in
set_option maxHeartbeats 4000000 in
theorem tq_458 : (.fieldLink "RecipePlansModel" 23 "RecipePlansModel" "lows" "[I" : Cond) ∈ lw_tbl := List.mem_of_getElem? (i := 540) rfl
set_option maxRecDepth 100000 in
set_option maxHeartbeats 4000000 in
theorem tq_459 : (.fieldLink "RecipePlansModel" 26 "RecipePlansModel" "highs" "[I" : Cond) ∈ lw_tbl := List.mem_of_getElem? (i := 541) rfl
set_option maxRecDepth 100000 in
set_option maxHeartbeats 4000000 in
theorem tq_460 : (.fieldLink "RecipePlansModel" 29 "RecipePlansModel" "overs" "[I" : Cond) ∈ lw_tbl := List.mem_of_getElem? (i := 542) rfl
set_option maxRecDepth 100000 in
set_option maxHeartbeats 4000000 in
theorem tq_461 : (.fieldLink "RecipePlansModel" 32 "RecipePlansModel" "firsts" "[I" : Cond) ∈ lw_tbl := List.mem_of_getElem? (i := 543) rfl
set_option maxRecDepth 100000 in
set_option maxHeartbeats 4000000 in
theorem tq_462 : (.fieldLink "RecipePlansModel" 35 "RecipePlansModel" "seconds" "[I" : Cond) ∈ lw_tbl := List.mem_of_getElem? (i := 544) rfl
set_option maxRecDepth 100000 in
set_option maxHeartbeats 4000000 in
theorem tq_463 : (.fieldLink "RecipePlansModel" 38 "RecipePlansModel" "found" "I" : Cond) ∈ lw_tbl := List.mem_of_getElem? (i := 545) rfl
set_option maxRecDepth 100000 in
set_option maxHeartbeats 4000000 in
theorem tq_464 : (.fieldLink "RecipePlansModel" 176 "RecipePlansModel" "foundLots" "I" : Cond) ∈ lw_tbl := List.mem_of_getElem? (i := 546) rfl
set_option maxRecDepth 100000 in
set_option maxHeartbeats 4000000 in
theorem tq_465 : (.fieldLink "RecipePlansModel" 42 "RecipePlansModel" "best" "[I" : Cond) ∈ lw_tbl := List.mem_of_getElem? (i := 547) rfl
set_option maxRecDepth 100000 in
set_option maxHeartbeats 4000000 in
theorem tq_466 : (.fieldLink "RecipePlansModel" 106 "RecipePlansModel" "bestCost" "J" : Cond) ∈ lw_tbl := List.mem_of_getElem? (i := 548) rfl
set_option maxRecDepth 100000 in
set_option maxHeartbeats 4000000 in
theorem tq_467 : (.fieldLink "RecipePlansModel" 148 "RecipePlansModel" "cutOver" "J" : Cond) ∈ lw_tbl := List.mem_of_getElem? (i := 549) rfl
set_option maxRecDepth 100000 in
set_option maxHeartbeats 4000000 in
theorem tq_468 : (.fieldLink "RecipePlansModel" 145 "RecipePlansModel" "cutUnder" "J" : Cond) ∈ lw_tbl := List.mem_of_getElem? (i := 550) rfl
set_option maxRecDepth 100000 in
set_option maxHeartbeats 4000000 in
theorem tq_469 : (.fieldLink "RecipePlansModel" 158 "RecipePlansModel" "clashSet" "I" : Cond) ∈ lw_tbl := List.mem_of_getElem? (i := 551) rfl
set_option maxRecDepth 100000 in
set_option maxHeartbeats 4000000 in
theorem tq_470 : (.fieldLink "RecipePlansModel" 45 "RecipePlansModel" "mix" "[I" : Cond) ∈ lw_tbl := List.mem_of_getElem? (i := 552) rfl
set_option maxRecDepth 100000 in
set_option maxHeartbeats 4000000 in
theorem tq_471 : (.fieldLink "RecipePlansModel" 48 "RecipePlansModel" "limits" "[I" : Cond) ∈ lw_tbl := List.mem_of_getElem? (i := 553) rfl
set_option maxRecDepth 100000 in
set_option maxHeartbeats 4000000 in
theorem tq_472 : (.fieldLink "RecipePlansModel" 51 "RecipePlansModel" "isLimit" "[Z" : Cond) ∈ lw_tbl := List.mem_of_getElem? (i := 554) rfl
set_option maxRecDepth 100000 in
set_option maxHeartbeats 4000000 in
theorem tq_473 : (.fieldLink "RecipePlansModel" 54 "RecipePlansModel" "corner" "[I" : Cond) ∈ lw_tbl := List.mem_of_getElem? (i := 555) rfl
set_option maxRecDepth 100000 in
set_option maxHeartbeats 4000000 in
theorem tq_474 : (.fieldLink "RecipePlansModel" 57 "RecipePlansModel" "over" "[J" : Cond) ∈ lw_tbl := List.mem_of_getElem? (i := 556) rfl
set_option maxRecDepth 100000 in
set_option maxHeartbeats 4000000 in
theorem tq_475 : (.fieldLink "RecipePlansModel" 126 "RecipePlansModel" "under" "J" : Cond) ∈ lw_tbl := List.mem_of_getElem? (i := 557) rfl
set_option maxRecDepth 100000 in
set_option maxHeartbeats 4000000 in
theorem tq_476 : (.fieldLink "RecipePlansModel" 61 "RecipePlansModel" "kept" "[Z" : Cond) ∈ lw_tbl := List.mem_of_getElem? (i := 558) rfl
set_option maxRecDepth 100000 in
set_option maxHeartbeats 4000000 in
theorem tq_477 : (.lays "RecipePlansModel" "RecipePlansModel" "lots" "I" : Cond) ∈ lw_tbl := List.mem_of_getElem? (i := 559) rfl
set_option maxRecDepth 100000 in
set_option maxHeartbeats 4000000 in
theorem tq_478 : (.laysFinal "RecipePlansModel" "RecipePlansModel" "stocks" "[I" : Cond) ∈ lw_tbl := List.mem_of_getElem? (i := 561) rfl
set_option maxRecDepth 100000 in
set_option maxHeartbeats 4000000 in
theorem tq_479 : (.laysFinal "RecipePlansModel" "RecipePlansModel" "cents" "[I" : Cond) ∈ lw_tbl := List.mem_of_getElem? (i := 563) rfl
set_option maxRecDepth 100000 in
set_option maxHeartbeats 4000000 in
theorem tq_480 : (.laysFinal "RecipePlansModel" "RecipePlansModel" "amounts" "[I" : Cond) ∈ lw_tbl := List.mem_of_getElem? (i := 565) rfl
set_option maxRecDepth 100000 in
set_option maxHeartbeats 4000000 in
theorem tq_481 : (.laysFinal "RecipePlansModel" "RecipePlansModel" "told" "[Z" : Cond) ∈ lw_tbl := List.mem_of_getElem? (i := 567) rfl
set_option maxRecDepth 100000 in
set_option maxHeartbeats 4000000 in
theorem tq_482 : (.laysFinal "RecipePlansModel" "RecipePlansModel" "lows" "[I" : Cond) ∈ lw_tbl := List.mem_of_getElem? (i := 569) rfl
set_option maxRecDepth 100000 in
set_option maxHeartbeats 4000000 in
theorem tq_483 : (.laysFinal "RecipePlansModel" "RecipePlansModel" "highs" "[I" : Cond) ∈ lw_tbl := List.mem_of_getElem? (i := 571) rfl
set_option maxRecDepth 100000 in
set_option maxHeartbeats 4000000 in
theorem tq_484 : (.laysFinal "RecipePlansModel" "RecipePlansModel" "overs" "[I" : Cond) ∈ lw_tbl := List.mem_of_getElem? (i := 573) rfl
set_option maxRecDepth 100000 in
set_option maxHeartbeats 4000000 in
theorem tq_485 : (.laysFinal "RecipePlansModel" "RecipePlansModel" "firsts" "[I" : Cond) ∈ lw_tbl := List.mem_of_getElem? (i := 575) rfl
set_option maxRecDepth 100000 in
set_option maxHeartbeats 4000000 in
theorem tq_486 : (.laysFinal "RecipePlansModel" "RecipePlansModel" "seconds" "[I" : Cond) ∈ lw_tbl := List.mem_of_getElem? (i := 577) rfl
set_option maxRecDepth 100000 in
set_option maxHeartbeats 4000000 in
theorem tq_487 : (.lays "RecipePlansModel" "RecipePlansModel" "found" "I" : Cond) ∈ lw_tbl := List.mem_of_getElem? (i := 579) rfl
set_option maxRecDepth 100000 in
set_option maxHeartbeats 4000000 in
theorem tq_488 : (.lays "RecipePlansModel" "RecipePlansModel" "foundLots" "I" : Cond) ∈ lw_tbl := List.mem_of_getElem? (i := 581) rfl
set_option maxRecDepth 100000 in
set_option maxHeartbeats 4000000 in
theorem tq_489 : (.laysFinal "RecipePlansModel" "RecipePlansModel" "best" "[I" : Cond) ∈ lw_tbl := List.mem_of_getElem? (i := 583) rfl
set_option maxRecDepth 100000 in
set_option maxHeartbeats 4000000 in
theorem tq_490 : (.lays "RecipePlansModel" "RecipePlansModel" "bestCost" "J" : Cond) ∈ lw_tbl := List.mem_of_getElem? (i := 585) rfl
set_option maxRecDepth 100000 in
set_option maxHeartbeats 4000000 in
theorem tq_491 : (.lays "RecipePlansModel" "RecipePlansModel" "cutOver" "J" : Cond) ∈ lw_tbl := List.mem_of_getElem? (i := 587) rfl
set_option maxRecDepth 100000 in
set_option maxHeartbeats 4000000 in
theorem tq_492 : (.lays "RecipePlansModel" "RecipePlansModel" "cutUnder" "J" : Cond) ∈ lw_tbl := List.mem_of_getElem? (i := 589) rfl
set_option maxRecDepth 100000 in
set_option maxHeartbeats 4000000 in
theorem tq_493 : (.lays "RecipePlansModel" "RecipePlansModel" "clashSet" "I" : Cond) ∈ lw_tbl := List.mem_of_getElem? (i := 591) rfl
set_option maxRecDepth 100000 in
set_option maxHeartbeats 4000000 in
theorem tq_494 : (.laysFinal "RecipePlansModel" "RecipePlansModel" "mix" "[I" : Cond) ∈ lw_tbl := List.mem_of_getElem? (i := 593) rfl
set_option maxRecDepth 100000 in
set_option maxHeartbeats 4000000 in
theorem tq_495 : (.laysFinal "RecipePlansModel" "RecipePlansModel" "limits" "[I" : Cond) ∈ lw_tbl := List.mem_of_getElem? (i := 595) rfl
set_option maxRecDepth 100000 in
set_option maxHeartbeats 4000000 in
theorem tq_496 : (.laysFinal "RecipePlansModel" "RecipePlansModel" "isLimit" "[Z" : Cond) ∈ lw_tbl := List.mem_of_getElem? (i := 597) rfl
set_option maxRecDepth 100000 in
set_option maxHeartbeats 4000000 in
theorem tq_497 : (.laysFinal "RecipePlansModel" "RecipePlansModel" "corner" "[I" : Cond) ∈ lw_tbl := List.mem_of_getElem? (i := 599) rfl
set_option maxRecDepth 100000 in
set_option maxHeartbeats 4000000 in
theorem tq_498 : (.laysFinal "RecipePlansModel" "RecipePlansModel" "over" "[J" : Cond) ∈ lw_tbl := List.mem_of_getElem? (i := 601) rfl
set_option maxRecDepth 100000 in
set_option maxHeartbeats 4000000 in
theorem tq_499 : (.lays "RecipePlansModel" "RecipePlansModel" "under" "J" : Cond) ∈ lw_tbl := List.mem_of_getElem? (i := 603) rfl
set_option maxRecDepth 100000 in
set_option maxHeartbeats 4000000 in
theorem tq_500 : (.laysFinal "RecipePlansModel" "RecipePlansModel" "kept" "[Z" : Cond) ∈ lw_tbl := List.mem_of_getElem? (i := 605) rfl
set_option maxRecDepth 100000 in
set_option maxHeartbeats 4000000 in
theorem tq_501 : (.methodLink "RecipePlansLaw" 19 ⟨"RecipePlansModel", "lot", "(IJ)I"⟩ : Cond) ∈ lw_tbl := List.mem_of_getElem? (i := 608) rfl
set_option maxRecDepth 100000 in
set_option maxHeartbeats 4000000 in
theorem tq_502 : (.instanceMethod ⟨"RecipePlansModel", "lot", "(IJ)I"⟩ : Cond) ∈ lw_tbl := List.mem_of_getElem? (i := 609) rfl
set_option maxRecDepth 100000 in
set_option maxHeartbeats 4000000 in
theorem tq_503 : (.selects "RecipePlansModel" ⟨"RecipePlansModel", "lot", "(IJ)I"⟩ ⟨"RecipePlansModel", "lot", "(IJ)I"⟩ : Cond) ∈ lw_tbl := List.mem_of_getElem? (i := 610) rfl
set_option maxRecDepth 100000 in
set_option maxHeartbeats 4000000 in
theorem tq_504 : (.code ⟨"RecipePlansModel", "lot", "(IJ)I"⟩ prog_9_method_5_code 4 (some .int) : Cond) ∈ lw_tbl := List.mem_of_getElem? (i := 611) rfl
set_option maxRecDepth 100000 in
set_option maxHeartbeats 4000000 in
theorem tq_505 : (.constantLong "RecipePlansModel" 67 9 : Cond) ∈ lw_tbl := List.mem_of_getElem? (i := 612) rfl
set_option maxRecDepth 100000 in
set_option maxHeartbeats 4000000 in
theorem tq_506 : (.methodLink "RecipePlansModel" 69 ⟨"RecipePlansModel", "isIn", "(JJJ)Z"⟩ : Cond) ∈ lw_tbl := List.mem_of_getElem? (i := 613) rfl
set_option maxRecDepth 100000 in
set_option maxHeartbeats 4000000 in
theorem tq_507 : (.static ⟨"RecipePlansModel", "isIn", "(JJJ)Z"⟩ : Cond) ∈ lw_tbl := List.mem_of_getElem? (i := 614) rfl
set_option maxRecDepth 100000 in
set_option maxHeartbeats 4000000 in
theorem tq_508 : (.code ⟨"RecipePlansModel", "isIn", "(JJJ)Z"⟩ prog_9_method_3_code 6 (some .boolean) : Cond) ∈ lw_tbl := List.mem_of_getElem? (i := 615) rfl
set_option maxRecDepth 100000 in
set_option maxHeartbeats 4000000 in
theorem tq_509 : (.constantLong "RecipePlansModel" 73 (-1000) : Cond) ∈ lw_tbl := List.mem_of_getElem? (i := 616) rfl
set_option maxRecDepth 100000 in
set_option maxHeartbeats 4000000 in
theorem tq_510 : (.constantLong "RecipePlansModel" 75 1000 : Cond) ∈ lw_tbl := List.mem_of_getElem? (i := 617) rfl
set_option maxRecDepth 100000 in
set_option maxHeartbeats 4000000 in
theorem tq_511 : (.methodLink "RecipePlansLaw" 24 ⟨"RecipePlansModel", "amount", "(III)Z"⟩ : Cond) ∈ lw_tbl := List.mem_of_getElem? (i := 618) rfl
set_option maxRecDepth 100000 in
set_option maxHeartbeats 4000000 in
theorem tq_512 : (.instanceMethod ⟨"RecipePlansModel", "amount", "(III)Z"⟩ : Cond) ∈ lw_tbl := List.mem_of_getElem? (i := 619) rfl
set_option maxRecDepth 100000 in
set_option maxHeartbeats 4000000 in
theorem tq_513 : (.selects "RecipePlansModel" ⟨"RecipePlansModel", "amount", "(III)Z"⟩ ⟨"RecipePlansModel", "amount", "(III)Z"⟩ : Cond) ∈ lw_tbl := List.mem_of_getElem? (i := 620) rfl
set_option maxRecDepth 100000 in
set_option maxHeartbeats 4000000 in
theorem tq_514 : (.code ⟨"RecipePlansModel", "amount", "(III)Z"⟩ prog_9_method_6_code 4 (some .boolean) : Cond) ∈ lw_tbl := List.mem_of_getElem? (i := 621) rfl
set_option maxRecDepth 100000 in
set_option maxHeartbeats 4000000 in
theorem tq_515 : (.methodLink "RecipePlansModel" 77 ⟨"RecipePlansModel", "isWhat", "(I)Z"⟩ : Cond) ∈ lw_tbl := List.mem_of_getElem? (i := 622) rfl
set_option maxRecDepth 100000 in
set_option maxHeartbeats 4000000 in
theorem tq_516 : (.static ⟨"RecipePlansModel", "isWhat", "(I)Z"⟩ : Cond) ∈ lw_tbl := List.mem_of_getElem? (i := 623) rfl
set_option maxRecDepth 100000 in
set_option maxHeartbeats 4000000 in
theorem tq_517 : (.code ⟨"RecipePlansModel", "isWhat", "(I)Z"⟩ prog_9_method_4_code 1 (some .boolean) : Cond) ∈ lw_tbl := List.mem_of_getElem? (i := 624) rfl
set_option maxRecDepth 100000 in
set_option maxHeartbeats 4000000 in
theorem tq_518 : (.constantLong "RecipePlansModel" 81 (-100) : Cond) ∈ lw_tbl := List.mem_of_getElem? (i := 625) rfl
set_option maxRecDepth 100000 in
set_option maxHeartbeats 4000000 in
theorem tq_519 : (.constantLong "RecipePlansModel" 83 100 : Cond) ∈ lw_tbl := List.mem_of_getElem? (i := 626) rfl
set_option maxRecDepth 100000 in
set_option maxHeartbeats 4000000 in
theorem tq_520 : (.methodLink "RecipePlansLaw" 28 ⟨"RecipePlansModel", "span", "(III)Z"⟩ : Cond) ∈ lw_tbl := List.mem_of_getElem? (i := 627) rfl
set_option maxRecDepth 100000 in
set_option maxHeartbeats 4000000 in
theorem tq_521 : (.instanceMethod ⟨"RecipePlansModel", "span", "(III)Z"⟩ : Cond) ∈ lw_tbl := List.mem_of_getElem? (i := 628) rfl
set_option maxRecDepth 100000 in
set_option maxHeartbeats 4000000 in
theorem tq_522 : (.selects "RecipePlansModel" ⟨"RecipePlansModel", "span", "(III)Z"⟩ ⟨"RecipePlansModel", "span", "(III)Z"⟩ : Cond) ∈ lw_tbl := List.mem_of_getElem? (i := 629) rfl
set_option maxRecDepth 100000 in
set_option maxHeartbeats 4000000 in
theorem tq_523 : (.code ⟨"RecipePlansModel", "span", "(III)Z"⟩ prog_9_method_8_code 4 (some .boolean) : Cond) ∈ lw_tbl := List.mem_of_getElem? (i := 630) rfl
set_option maxRecDepth 100000 in
set_option maxHeartbeats 4000000 in
theorem tq_524 : (.constantLong "RecipePlansModel" 85 (-100000) : Cond) ∈ lw_tbl := List.mem_of_getElem? (i := 631) rfl
set_option maxRecDepth 100000 in
set_option maxHeartbeats 4000000 in
theorem tq_525 : (.constantLong "RecipePlansModel" 87 100000 : Cond) ∈ lw_tbl := List.mem_of_getElem? (i := 632) rfl
set_option maxRecDepth 100000 in
set_option maxHeartbeats 4000000 in
theorem tq_526 : (.methodLink "RecipePlansModel" 89 ⟨"RecipePlansModel", "tell", "(III)Z"⟩ : Cond) ∈ lw_tbl := List.mem_of_getElem? (i := 633) rfl
set_option maxRecDepth 100000 in
set_option maxHeartbeats 4000000 in
theorem tq_527 : (.instanceMethod ⟨"RecipePlansModel", "tell", "(III)Z"⟩ : Cond) ∈ lw_tbl := List.mem_of_getElem? (i := 635) rfl
set_option maxRecDepth 100000 in
set_option maxHeartbeats 4000000 in
theorem tq_528 : (.code ⟨"RecipePlansModel", "tell", "(III)Z"⟩ prog_9_method_7_code 4 (some .boolean) : Cond) ∈ lw_tbl := List.mem_of_getElem? (i := 636) rfl
set_option maxRecDepth 100000 in
set_option maxHeartbeats 4000000 in
theorem tq_529 : (.methodLink "RecipePlansLaw" 33 ⟨"RecipePlansModel", "ratio", "(IIIIII)Z"⟩ : Cond) ∈ lw_tbl := List.mem_of_getElem? (i := 637) rfl
set_option maxRecDepth 100000 in
set_option maxHeartbeats 4000000 in
theorem tq_530 : (.instanceMethod ⟨"RecipePlansModel", "ratio", "(IIIIII)Z"⟩ : Cond) ∈ lw_tbl := List.mem_of_getElem? (i := 638) rfl
set_option maxRecDepth 100000 in
set_option maxHeartbeats 4000000 in
theorem tq_531 : (.selects "RecipePlansModel" ⟨"RecipePlansModel", "ratio", "(IIIIII)Z"⟩ ⟨"RecipePlansModel", "ratio", "(IIIIII)Z"⟩ : Cond) ∈ lw_tbl := List.mem_of_getElem? (i := 639) rfl
set_option maxRecDepth 100000 in
set_option maxHeartbeats 4000000 in
theorem tq_532 : (.code ⟨"RecipePlansModel", "ratio", "(IIIIII)Z"⟩ prog_9_method_9_code 7 (some .boolean) : Cond) ∈ lw_tbl := List.mem_of_getElem? (i := 640) rfl
set_option maxRecDepth 100000 in
set_option maxHeartbeats 4000000 in
theorem tq_533 : (.methodLink "RecipePlansLaw" 38 ⟨"RecipePlansModel", "loads", "(II)Z"⟩ : Cond) ∈ lw_tbl := List.mem_of_getElem? (i := 641) rfl
set_option maxRecDepth 100000 in
set_option maxHeartbeats 4000000 in
theorem tq_534 : (.instanceMethod ⟨"RecipePlansModel", "loads", "(II)Z"⟩ : Cond) ∈ lw_tbl := List.mem_of_getElem? (i := 642) rfl
set_option maxRecDepth 100000 in
set_option maxHeartbeats 4000000 in
theorem tq_535 : (.selects "RecipePlansModel" ⟨"RecipePlansModel", "loads", "(II)Z"⟩ ⟨"RecipePlansModel", "loads", "(II)Z"⟩ : Cond) ∈ lw_tbl := List.mem_of_getElem? (i := 643) rfl
set_option maxRecDepth 100000 in
set_option maxHeartbeats 4000000 in
theorem tq_536 : (.code ⟨"RecipePlansModel", "loads", "(II)Z"⟩ prog_9_method_10_code 3 (some .boolean) : Cond) ∈ lw_tbl := List.mem_of_getElem? (i := 644) rfl
set_option maxRecDepth 100000 in
set_option maxHeartbeats 4000000 in
theorem tq_537 : (.constantLong "RecipePlansModel" 93 36 : Cond) ∈ lw_tbl := List.mem_of_getElem? (i := 645) rfl
set_option maxRecDepth 100000 in
set_option maxHeartbeats 4000000 in
theorem tq_538 : (.methodLink "RecipePlansLaw" 43 ⟨"RecipePlansModel", "untell", "(I)Z"⟩ : Cond) ∈ lw_tbl := List.mem_of_getElem? (i := 646) rfl
set_option maxRecDepth 100000 in
set_option maxHeartbeats 4000000 in
theorem tq_539 : (.instanceMethod ⟨"RecipePlansModel", "untell", "(I)Z"⟩ : Cond) ∈ lw_tbl := List.mem_of_getElem? (i := 647) rfl
set_option maxRecDepth 100000 in
set_option maxHeartbeats 4000000 in
theorem tq_540 : (.selects "RecipePlansModel" ⟨"RecipePlansModel", "untell", "(I)Z"⟩ ⟨"RecipePlansModel", "untell", "(I)Z"⟩ : Cond) ∈ lw_tbl := List.mem_of_getElem? (i := 648) rfl
set_option maxRecDepth 100000 in
set_option maxHeartbeats 4000000 in
theorem tq_541 : (.code ⟨"RecipePlansModel", "untell", "(I)Z"⟩ prog_9_method_11_code 2 (some .boolean) : Cond) ∈ lw_tbl := List.mem_of_getElem? (i := 649) rfl
set_option maxRecDepth 100000 in
set_option maxHeartbeats 4000000 in
theorem tq_542 : (.methodLink "RecipePlansLaw" 76 ⟨"RecipePlansModel", "broken", "(IIII)I"⟩ : Cond) ∈ lw_tbl := List.mem_of_getElem? (i := 650) rfl
set_option maxRecDepth 100000 in
set_option maxHeartbeats 4000000 in
theorem tq_543 : (.instanceMethod ⟨"RecipePlansModel", "broken", "(IIII)I"⟩ : Cond) ∈ lw_tbl := List.mem_of_getElem? (i := 651) rfl
set_option maxRecDepth 100000 in
set_option maxHeartbeats 4000000 in
theorem tq_544 : (.selects "RecipePlansModel" ⟨"RecipePlansModel", "broken", "(IIII)I"⟩ ⟨"RecipePlansModel", "broken", "(IIII)I"⟩ : Cond) ∈ lw_tbl := List.mem_of_getElem? (i := 652) rfl
set_option maxRecDepth 100000 in
set_option maxHeartbeats 4000000 in
theorem tq_545 : (.code ⟨"RecipePlansModel", "broken", "(IIII)I"⟩ prog_9_method_15_code 6 (some .int) : Cond) ∈ lw_tbl := List.mem_of_getElem? (i := 653) rfl
set_option maxRecDepth 100000 in
set_option maxHeartbeats 4000000 in
theorem tq_546 : (.methodLink "RecipePlansModel" 102 ⟨"RecipePlansModel", "firstBroken", "()I"⟩ : Cond) ∈ lw_tbl := List.mem_of_getElem? (i := 654) rfl
set_option maxRecDepth 100000 in
set_option maxHeartbeats 4000000 in
theorem tq_547 : (.instanceMethod ⟨"RecipePlansModel", "firstBroken", "()I"⟩ : Cond) ∈ lw_tbl := List.mem_of_getElem? (i := 656) rfl
set_option maxRecDepth 100000 in
set_option maxHeartbeats 4000000 in
theorem tq_548 : (.code ⟨"RecipePlansModel", "firstBroken", "()I"⟩ prog_9_method_14_code 2 (some .int) : Cond) ∈ lw_tbl := List.mem_of_getElem? (i := 657) rfl
set_option maxRecDepth 100000 in
set_option maxHeartbeats 4000000 in
theorem tq_549 : (.methodLink "RecipePlansModel" 99 ⟨"RecipePlansModel", "keeps", "(I)Z"⟩ : Cond) ∈ lw_tbl := List.mem_of_getElem? (i := 658) rfl
set_option maxRecDepth 100000 in
set_option maxHeartbeats 4000000 in
theorem tq_550 : (.instanceMethod ⟨"RecipePlansModel", "keeps", "(I)Z"⟩ : Cond) ∈ lw_tbl := List.mem_of_getElem? (i := 660) rfl
set_option maxRecDepth 100000 in
set_option maxHeartbeats 4000000 in
theorem tq_551 : (.code ⟨"RecipePlansModel", "keeps", "(I)Z"⟩ prog_9_method_13_code 6 (some .boolean) : Cond) ∈ lw_tbl := List.mem_of_getElem? (i := 661) rfl
set_option maxRecDepth 100000 in
set_option maxHeartbeats 4000000 in
theorem tq_552 : (.methodLink "RecipePlansModel" 95 ⟨"RecipePlansModel", "holds", "(I)I"⟩ : Cond) ∈ lw_tbl := List.mem_of_getElem? (i := 662) rfl
set_option maxRecDepth 100000 in
set_option maxHeartbeats 4000000 in
theorem tq_553 : (.instanceMethod ⟨"RecipePlansModel", "holds", "(I)I"⟩ : Cond) ∈ lw_tbl := List.mem_of_getElem? (i := 664) rfl
set_option maxRecDepth 100000 in
set_option maxHeartbeats 4000000 in
theorem tq_554 : (.code ⟨"RecipePlansModel", "holds", "(I)I"⟩ prog_9_method_12_code 4 (some .int) : Cond) ∈ lw_tbl := List.mem_of_getElem? (i := 665) rfl
set_option maxRecDepth 100000 in
set_option maxHeartbeats 4000000 in
theorem tq_555 : (.methodLink "RecipePlansLaw" 48 ⟨"RecipePlansModel", "run", "()I"⟩ : Cond) ∈ lw_tbl := List.mem_of_getElem? (i := 666) rfl
set_option maxRecDepth 100000 in
set_option maxHeartbeats 4000000 in
theorem tq_556 : (.instanceMethod ⟨"RecipePlansModel", "run", "()I"⟩ : Cond) ∈ lw_tbl := List.mem_of_getElem? (i := 667) rfl
set_option maxRecDepth 100000 in
set_option maxHeartbeats 4000000 in
theorem tq_557 : (.selects "RecipePlansModel" ⟨"RecipePlansModel", "run", "()I"⟩ ⟨"RecipePlansModel", "run", "()I"⟩ : Cond) ∈ lw_tbl := List.mem_of_getElem? (i := 668) rfl
set_option maxRecDepth 100000 in
set_option maxHeartbeats 4000000 in
theorem tq_558 : (.code ⟨"RecipePlansModel", "run", "()I"⟩ prog_9_method_32_code 2 (some .int) : Cond) ∈ lw_tbl := List.mem_of_getElem? (i := 669) rfl
set_option maxRecDepth 100000 in
set_option maxHeartbeats 4000000 in
theorem tq_559 : (.methodLink "RecipePlansModel" 167 ⟨"RecipePlansModel", "findWhole", "()Z"⟩ : Cond) ∈ lw_tbl := List.mem_of_getElem? (i := 670) rfl
set_option maxRecDepth 100000 in
set_option maxHeartbeats 4000000 in
theorem tq_560 : (.instanceMethod ⟨"RecipePlansModel", "findWhole", "()Z"⟩ : Cond) ∈ lw_tbl := List.mem_of_getElem? (i := 672) rfl
set_option maxRecDepth 100000 in
set_option maxHeartbeats 4000000 in
theorem tq_561 : (.code ⟨"RecipePlansModel", "findWhole", "()Z"⟩ prog_9_method_16_code 8 (some .boolean) : Cond) ∈ lw_tbl := List.mem_of_getElem? (i := 673) rfl
set_option maxRecDepth 100000 in
set_option maxHeartbeats 4000000 in
theorem tq_562 : (.methodLink "RecipePlansModel" 170 ⟨"RecipePlansModel", "setLimits", "()V"⟩ : Cond) ∈ lw_tbl := List.mem_of_getElem? (i := 674) rfl
set_option maxRecDepth 100000 in
set_option maxHeartbeats 4000000 in
theorem tq_563 : (.instanceMethod ⟨"RecipePlansModel", "setLimits", "()V"⟩ : Cond) ∈ lw_tbl := List.mem_of_getElem? (i := 676) rfl
set_option maxRecDepth 100000 in
set_option maxHeartbeats 4000000 in
theorem tq_564 : (.code ⟨"RecipePlansModel", "setLimits", "()V"⟩ prog_9_method_18_code 5 none : Cond) ∈ lw_tbl := List.mem_of_getElem? (i := 677) rfl
set_option maxRecDepth 100000 in
set_option maxHeartbeats 4000000 in
theorem tq_565 : (.methodLink "RecipePlansModel" 110 ⟨"RecipePlansModel", "setLimit", "(IIZ)V"⟩ : Cond) ∈ lw_tbl := List.mem_of_getElem? (i := 678) rfl
set_option maxRecDepth 100000 in
set_option maxHeartbeats 4000000 in
theorem tq_566 : (.instanceMethod ⟨"RecipePlansModel", "setLimit", "(IIZ)V"⟩ : Cond) ∈ lw_tbl := List.mem_of_getElem? (i := 680) rfl
set_option maxRecDepth 100000 in
set_option maxHeartbeats 4000000 in
theorem tq_567 : (.code ⟨"RecipePlansModel", "setLimit", "(IIZ)V"⟩ prog_9_method_17_code 8 none : Cond) ∈ lw_tbl := List.mem_of_getElem? (i := 681) rfl
set_option maxRecDepth 100000 in
set_option maxHeartbeats 4000000 in
theorem tq_568 : (.methodLink "RecipePlansModel" 173 ⟨"RecipePlansModel", "lookAtCorners", "()V"⟩ : Cond) ∈ lw_tbl := List.mem_of_getElem? (i := 682) rfl
set_option maxRecDepth 100000 in
set_option maxHeartbeats 4000000 in
theorem tq_569 : (.instanceMethod ⟨"RecipePlansModel", "lookAtCorners", "()V"⟩ : Cond) ∈ lw_tbl := List.mem_of_getElem? (i := 684) rfl
set_option maxRecDepth 100000 in
set_option maxHeartbeats 4000000 in
theorem tq_570 : (.code ⟨"RecipePlansModel", "lookAtCorners", "()V"⟩ prog_9_method_28_code 5 none : Cond) ∈ lw_tbl := List.mem_of_getElem? (i := 685) rfl
set_option maxRecDepth 100000 in
set_option maxHeartbeats 4000000 in
theorem tq_571 : (.methodLink "RecipePlansModel" 155 ⟨"RecipePlansModel", "lookAtCorner", "()V"⟩ : Cond) ∈ lw_tbl := List.mem_of_getElem? (i := 686) rfl
set_option maxRecDepth 100000 in
set_option maxHeartbeats 4000000 in
theorem tq_572 : (.instanceMethod ⟨"RecipePlansModel", "lookAtCorner", "()V"⟩ : Cond) ∈ lw_tbl := List.mem_of_getElem? (i := 688) rfl
set_option maxRecDepth 100000 in
set_option maxHeartbeats 4000000 in
theorem tq_573 : (.code ⟨"RecipePlansModel", "lookAtCorner", "()V"⟩ prog_9_method_27_code 6 none : Cond) ∈ lw_tbl := List.mem_of_getElem? (i := 689) rfl
set_option maxRecDepth 100000 in
set_option maxHeartbeats 4000000 in
theorem tq_574 : (.methodLink "RecipePlansModel" 138 ⟨"RecipePlansModel", "meet", "()Z"⟩ : Cond) ∈ lw_tbl := List.mem_of_getElem? (i := 690) rfl
set_option maxRecDepth 100000 in
set_option maxHeartbeats 4000000 in
theorem tq_575 : (.instanceMethod ⟨"RecipePlansModel", "meet", "()Z"⟩ : Cond) ∈ lw_tbl := List.mem_of_getElem? (i := 692) rfl
set_option maxRecDepth 100000 in
set_option maxHeartbeats 4000000 in
theorem tq_576 : (.code ⟨"RecipePlansModel", "meet", "()Z"⟩ prog_9_method_23_code 4 (some .boolean) : Cond) ∈ lw_tbl := List.mem_of_getElem? (i := 693) rfl
set_option maxRecDepth 100000 in
set_option maxHeartbeats 4000000 in
theorem tq_577 : (.methodLink "RecipePlansModel" 122 ⟨"RecipePlansModel", "determinant", "(I)J"⟩ : Cond) ∈ lw_tbl := List.mem_of_getElem? (i := 694) rfl
set_option maxRecDepth 100000 in
set_option maxHeartbeats 4000000 in
theorem tq_578 : (.instanceMethod ⟨"RecipePlansModel", "determinant", "(I)J"⟩ : Cond) ∈ lw_tbl := List.mem_of_getElem? (i := 696) rfl
set_option maxRecDepth 100000 in
set_option maxHeartbeats 4000000 in
theorem tq_579 : (.code ⟨"RecipePlansModel", "determinant", "(I)J"⟩ prog_9_method_21_code 2 (some .long) : Cond) ∈ lw_tbl := List.mem_of_getElem? (i := 697) rfl
set_option maxRecDepth 100000 in
set_option maxHeartbeats 4000000 in
theorem tq_580 : (.methodLink "RecipePlansModel" 118 ⟨"RecipePlansModel", "minor", "(IIIII)J"⟩ : Cond) ∈ lw_tbl := List.mem_of_getElem? (i := 698) rfl
set_option maxRecDepth 100000 in
set_option maxHeartbeats 4000000 in
theorem tq_581 : (.instanceMethod ⟨"RecipePlansModel", "minor", "(IIIII)J"⟩ : Cond) ∈ lw_tbl := List.mem_of_getElem? (i := 700) rfl
set_option maxRecDepth 100000 in
set_option maxHeartbeats 4000000 in
theorem tq_582 : (.code ⟨"RecipePlansModel", "minor", "(IIIII)J"⟩ prog_9_method_20_code 6 (some .long) : Cond) ∈ lw_tbl := List.mem_of_getElem? (i := 701) rfl
set_option maxRecDepth 100000 in
set_option maxHeartbeats 4000000 in
theorem tq_583 : (.methodLink "RecipePlansModel" 114 ⟨"RecipePlansModel", "at", "(III)J"⟩ : Cond) ∈ lw_tbl := List.mem_of_getElem? (i := 702) rfl
set_option maxRecDepth 100000 in
set_option maxHeartbeats 4000000 in
theorem tq_584 : (.instanceMethod ⟨"RecipePlansModel", "at", "(III)J"⟩ : Cond) ∈ lw_tbl := List.mem_of_getElem? (i := 704) rfl
set_option maxRecDepth 100000 in
set_option maxHeartbeats 4000000 in
theorem tq_585 : (.code ⟨"RecipePlansModel", "at", "(III)J"⟩ prog_9_method_19_code 4 (some .long) : Cond) ∈ lw_tbl := List.mem_of_getElem? (i := 705) rfl
set_option maxRecDepth 100000 in
set_option maxHeartbeats 4000000 in
theorem tq_586 : (.methodLink "RecipePlansModel" 129 ⟨"RecipePlansModel", "common", "(JJ)J"⟩ : Cond) ∈ lw_tbl := List.mem_of_getElem? (i := 706) rfl
set_option maxRecDepth 100000 in
set_option maxHeartbeats 4000000 in
theorem tq_587 : (.static ⟨"RecipePlansModel", "common", "(JJ)J"⟩ : Cond) ∈ lw_tbl := List.mem_of_getElem? (i := 707) rfl
set_option maxRecDepth 100000 in
set_option maxHeartbeats 4000000 in
theorem tq_588 : (.code ⟨"RecipePlansModel", "common", "(JJ)J"⟩ prog_9_method_22_code 10 (some .long) : Cond) ∈ lw_tbl := List.mem_of_getElem? (i := 708) rfl
set_option maxRecDepth 100000 in
set_option maxHeartbeats 4000000 in
theorem tq_589 : (.methodLink "RecipePlansModel" 142 ⟨"RecipePlansModel", "keptRules", "()I"⟩ : Cond) ∈ lw_tbl := List.mem_of_getElem? (i := 709) rfl
set_option maxRecDepth 100000 in
set_option maxHeartbeats 4000000 in
theorem tq_590 : (.instanceMethod ⟨"RecipePlansModel", "keptRules", "()I"⟩ : Cond) ∈ lw_tbl := List.mem_of_getElem? (i := 711) rfl
set_option maxRecDepth 100000 in
set_option maxHeartbeats 4000000 in
theorem tq_591 : (.code ⟨"RecipePlansModel", "keptRules", "()I"⟩ prog_9_method_25_code 3 (some .int) : Cond) ∈ lw_tbl := List.mem_of_getElem? (i := 712) rfl
set_option maxRecDepth 100000 in
set_option maxHeartbeats 4000000 in
theorem tq_592 : (.methodLink "RecipePlansModel" 135 ⟨"RecipePlansModel", "isKept", "(I)Z"⟩ : Cond) ∈ lw_tbl := List.mem_of_getElem? (i := 713) rfl
set_option maxRecDepth 100000 in
set_option maxHeartbeats 4000000 in
theorem tq_593 : (.instanceMethod ⟨"RecipePlansModel", "isKept", "(I)Z"⟩ : Cond) ∈ lw_tbl := List.mem_of_getElem? (i := 715) rfl
set_option maxRecDepth 100000 in
set_option maxHeartbeats 4000000 in
theorem tq_594 : (.code ⟨"RecipePlansModel", "isKept", "(I)Z"⟩ prog_9_method_24_code 13 (some .boolean) : Cond) ∈ lw_tbl := List.mem_of_getElem? (i := 716) rfl
set_option maxRecDepth 100000 in
set_option maxHeartbeats 4000000 in
theorem tq_595 : (.constantLong "RecipePlansModel" 133 2147483648 : Cond) ∈ lw_tbl := List.mem_of_getElem? (i := 717) rfl
set_option maxRecDepth 100000 in
set_option maxHeartbeats 4000000 in
theorem tq_596 : (.methodLink "RecipePlansModel" 151 ⟨"RecipePlansModel", "isLess", "(JJJJ)Z"⟩ : Cond) ∈ lw_tbl := List.mem_of_getElem? (i := 718) rfl
set_option maxRecDepth 100000 in
set_option maxHeartbeats 4000000 in
theorem tq_597 : (.static ⟨"RecipePlansModel", "isLess", "(JJJJ)Z"⟩ : Cond) ∈ lw_tbl := List.mem_of_getElem? (i := 719) rfl
set_option maxRecDepth 100000 in
set_option maxHeartbeats 4000000 in
theorem tq_598 : (.code ⟨"RecipePlansModel", "isLess", "(JJJJ)Z"⟩ prog_9_method_26_code 25 (some .boolean) : Cond) ∈ lw_tbl := List.mem_of_getElem? (i := 720) rfl
set_option maxRecDepth 100000 in
set_option maxHeartbeats 4000000 in
theorem tq_599 : (.methodLink "RecipePlansModel" 179 ⟨"RecipePlansModel", "findClash", "()V"⟩ : Cond) ∈ lw_tbl := List.mem_of_getElem? (i := 721) rfl
set_option maxRecDepth 100000 in
set_option maxHeartbeats 4000000 in
theorem tq_600 : (.instanceMethod ⟨"RecipePlansModel", "findClash", "()V"⟩ : Cond) ∈ lw_tbl := List.mem_of_getElem? (i := 723) rfl
set_option maxRecDepth 100000 in
set_option maxHeartbeats 4000000 in
theorem tq_601 : (.code ⟨"RecipePlansModel", "findClash", "()V"⟩ prog_9_method_31_code 4 none : Cond) ∈ lw_tbl := List.mem_of_getElem? (i := 724) rfl
set_option maxRecDepth 100000 in
set_option maxHeartbeats 4000000 in
theorem tq_602 : (.methodLink "RecipePlansModel" 161 ⟨"RecipePlansModel", "sizeOf", "(I)I"⟩ : Cond) ∈ lw_tbl := List.mem_of_getElem? (i := 725) rfl
set_option maxRecDepth 100000 in
set_option maxHeartbeats 4000000 in
theorem tq_603 : (.static ⟨"RecipePlansModel", "sizeOf", "(I)I"⟩ : Cond) ∈ lw_tbl := List.mem_of_getElem? (i := 726) rfl
set_option maxRecDepth 100000 in
set_option maxHeartbeats 4000000 in
theorem tq_604 : (.code ⟨"RecipePlansModel", "sizeOf", "(I)I"⟩ prog_9_method_30_code 3 (some .int) : Cond) ∈ lw_tbl := List.mem_of_getElem? (i := 727) rfl
set_option maxRecDepth 100000 in
set_option maxHeartbeats 4000000 in
theorem tq_605 : (.methodLink "RecipePlansModel" 164 ⟨"RecipePlansModel", "canBeKept", "(I)Z"⟩ : Cond) ∈ lw_tbl := List.mem_of_getElem? (i := 728) rfl
set_option maxRecDepth 100000 in
set_option maxHeartbeats 4000000 in
theorem tq_606 : (.instanceMethod ⟨"RecipePlansModel", "canBeKept", "(I)Z"⟩ : Cond) ∈ lw_tbl := List.mem_of_getElem? (i := 730) rfl
set_option maxRecDepth 100000 in
set_option maxHeartbeats 4000000 in
theorem tq_607 : (.code ⟨"RecipePlansModel", "canBeKept", "(I)Z"⟩ prog_9_method_29_code 3 (some .boolean) : Cond) ∈ lw_tbl := List.mem_of_getElem? (i := 731) rfl
set_option maxRecDepth 100000 in
set_option maxHeartbeats 4000000 in
theorem tq_608 : (.methodLink "RecipePlansLaw" 53 ⟨"RecipePlansModel", "best", "(I)I"⟩ : Cond) ∈ lw_tbl := List.mem_of_getElem? (i := 732) rfl
set_option maxRecDepth 100000 in
set_option maxHeartbeats 4000000 in
theorem tq_609 : (.instanceMethod ⟨"RecipePlansModel", "best", "(I)I"⟩ : Cond) ∈ lw_tbl := List.mem_of_getElem? (i := 733) rfl
set_option maxRecDepth 100000 in
set_option maxHeartbeats 4000000 in
theorem tq_610 : (.selects "RecipePlansModel" ⟨"RecipePlansModel", "best", "(I)I"⟩ ⟨"RecipePlansModel", "best", "(I)I"⟩ : Cond) ∈ lw_tbl := List.mem_of_getElem? (i := 734) rfl
set_option maxRecDepth 100000 in
set_option maxHeartbeats 4000000 in
theorem tq_611 : (.code ⟨"RecipePlansModel", "best", "(I)I"⟩ prog_9_method_33_code 2 (some .int) : Cond) ∈ lw_tbl := List.mem_of_getElem? (i := 735) rfl
set_option maxRecDepth 100000 in
set_option maxHeartbeats 4000000 in
theorem tq_612 : (.methodLink "RecipePlansLaw" 58 ⟨"RecipePlansModel", "cost", "()J"⟩ : Cond) ∈ lw_tbl := List.mem_of_getElem? (i := 736) rfl
set_option maxRecDepth 100000 in
set_option maxHeartbeats 4000000 in
theorem tq_613 : (.instanceMethod ⟨"RecipePlansModel", "cost", "()J"⟩ : Cond) ∈ lw_tbl := List.mem_of_getElem? (i := 737) rfl
set_option maxRecDepth 100000 in
set_option maxHeartbeats 4000000 in
theorem tq_614 : (.selects "RecipePlansModel" ⟨"RecipePlansModel", "cost", "()J"⟩ ⟨"RecipePlansModel", "cost", "()J"⟩ : Cond) ∈ lw_tbl := List.mem_of_getElem? (i := 738) rfl
set_option maxRecDepth 100000 in
set_option maxHeartbeats 4000000 in
theorem tq_615 : (.code ⟨"RecipePlansModel", "cost", "()J"⟩ prog_9_method_34_code 1 (some .long) : Cond) ∈ lw_tbl := List.mem_of_getElem? (i := 739) rfl
set_option maxRecDepth 100000 in
set_option maxHeartbeats 4000000 in
theorem tq_616 : (.constantLong "RecipePlansModel" 182 (-9223372036854775808) : Cond) ∈ lw_tbl := List.mem_of_getElem? (i := 740) rfl
set_option maxRecDepth 100000 in
set_option maxHeartbeats 4000000 in
theorem tq_617 : (.methodLink "RecipePlansLaw" 63 ⟨"RecipePlansModel", "cut", "(I)J"⟩ : Cond) ∈ lw_tbl := List.mem_of_getElem? (i := 741) rfl
set_option maxRecDepth 100000 in
set_option maxHeartbeats 4000000 in
theorem tq_618 : (.instanceMethod ⟨"RecipePlansModel", "cut", "(I)J"⟩ : Cond) ∈ lw_tbl := List.mem_of_getElem? (i := 742) rfl
set_option maxRecDepth 100000 in
set_option maxHeartbeats 4000000 in
theorem tq_619 : (.selects "RecipePlansModel" ⟨"RecipePlansModel", "cut", "(I)J"⟩ ⟨"RecipePlansModel", "cut", "(I)J"⟩ : Cond) ∈ lw_tbl := List.mem_of_getElem? (i := 743) rfl
set_option maxRecDepth 100000 in
set_option maxHeartbeats 4000000 in
theorem tq_620 : (.code ⟨"RecipePlansModel", "cut", "(I)J"⟩ prog_9_method_35_code 2 (some .long) : Cond) ∈ lw_tbl := List.mem_of_getElem? (i := 744) rfl
set_option maxRecDepth 100000 in
set_option maxHeartbeats 4000000 in
theorem tq_621 : (.methodLink "RecipePlansLaw" 67 ⟨"RecipePlansModel", "clashes", "()I"⟩ : Cond) ∈ lw_tbl := List.mem_of_getElem? (i := 745) rfl
set_option maxRecDepth 100000 in
set_option maxHeartbeats 4000000 in
theorem tq_622 : (.instanceMethod ⟨"RecipePlansModel", "clashes", "()I"⟩ : Cond) ∈ lw_tbl := List.mem_of_getElem? (i := 746) rfl
set_option maxRecDepth 100000 in
set_option maxHeartbeats 4000000 in
theorem tq_623 : (.selects "RecipePlansModel" ⟨"RecipePlansModel", "clashes", "()I"⟩ ⟨"RecipePlansModel", "clashes", "()I"⟩ : Cond) ∈ lw_tbl := List.mem_of_getElem? (i := 747) rfl
set_option maxRecDepth 100000 in
set_option maxHeartbeats 4000000 in
theorem tq_624 : (.code ⟨"RecipePlansModel", "clashes", "()I"⟩ prog_9_method_36_code 1 (some .int) : Cond) ∈ lw_tbl := List.mem_of_getElem? (i := 748) rfl
set_option maxRecDepth 100000 in
set_option maxHeartbeats 4000000 in
theorem tq_625 : (.methodLink "RecipePlansLaw" 71 ⟨"RecipePlansModel", "clash", "(I)Z"⟩ : Cond) ∈ lw_tbl := List.mem_of_getElem? (i := 749) rfl
set_option maxRecDepth 100000 in
set_option maxHeartbeats 4000000 in
theorem tq_626 : (.instanceMethod ⟨"RecipePlansModel", "clash", "(I)Z"⟩ : Cond) ∈ lw_tbl := List.mem_of_getElem? (i := 750) rfl
set_option maxRecDepth 100000 in
set_option maxHeartbeats 4000000 in
theorem tq_627 : (.selects "RecipePlansModel" ⟨"RecipePlansModel", "clash", "(I)Z"⟩ ⟨"RecipePlansModel", "clash", "(I)Z"⟩ : Cond) ∈ lw_tbl := List.mem_of_getElem? (i := 751) rfl
set_option maxRecDepth 100000 in
set_option maxHeartbeats 4000000 in
theorem tq_628 : (.code ⟨"RecipePlansModel", "clash", "(I)Z"⟩ prog_9_method_37_code 2 (some .boolean) : Cond) ∈ lw_tbl := List.mem_of_getElem? (i := 752) rfl
set_option maxRecDepth 100000 in
set_option maxHeartbeats 4000000 in
theorem tq_629 : (.constantLong "RecipePlansLaw" 13 4294967295 : Cond) ∈ lw_tbl := List.mem_of_getElem? (i := 753) rfl
set_option maxRecDepth 100000 in
set_option maxHeartbeats 4000000 in
theorem wq_600 : ∀ w ∈ wsAll.drop 600, w ∈ lw_tbl := List.forall_mem_cons.mpr ⟨tq_600, List.forall_mem_cons.mpr ⟨tq_601, List.forall_mem_cons.mpr ⟨tq_602, List.forall_mem_cons.mpr ⟨tq_603, List.forall_mem_cons.mpr ⟨tq_604, List.forall_mem_cons.mpr ⟨tq_605, List.forall_mem_cons.mpr ⟨tq_606, List.forall_mem_cons.mpr ⟨tq_607, List.forall_mem_cons.mpr ⟨tq_608, List.forall_mem_cons.mpr ⟨tq_609, List.forall_mem_cons.mpr ⟨tq_610, List.forall_mem_cons.mpr ⟨tq_611, List.forall_mem_cons.mpr ⟨tq_612, List.forall_mem_cons.mpr ⟨tq_613, List.forall_mem_cons.mpr ⟨tq_614, List.forall_mem_cons.mpr ⟨tq_615, List.forall_mem_cons.mpr ⟨tq_616, List.forall_mem_cons.mpr ⟨tq_617, List.forall_mem_cons.mpr ⟨tq_618, List.forall_mem_cons.mpr ⟨tq_619, List.forall_mem_cons.mpr ⟨tq_620, List.forall_mem_cons.mpr ⟨tq_621, List.forall_mem_cons.mpr ⟨tq_622, List.forall_mem_cons.mpr ⟨tq_623, List.forall_mem_cons.mpr ⟨tq_624, List.forall_mem_cons.mpr ⟨tq_625, List.forall_mem_cons.mpr ⟨tq_626, List.forall_mem_cons.mpr ⟨tq_627, List.forall_mem_cons.mpr ⟨tq_628, List.forall_mem_cons.mpr ⟨tq_629, fun _ h => absurd h List.not_mem_nil⟩⟩⟩⟩⟩⟩⟩⟩⟩⟩⟩⟩⟩⟩⟩⟩⟩⟩⟩⟩⟩⟩⟩⟩⟩⟩⟩⟩⟩⟩
set_option maxRecDepth 100000 in
set_option maxHeartbeats 4000000 in
theorem wq_560 : ∀ w ∈ wsAll.drop 560, w ∈ lw_tbl := List.forall_mem_cons.mpr ⟨tq_560, List.forall_mem_cons.mpr ⟨tq_561, List.forall_mem_cons.mpr ⟨tq_562, List.forall_mem_cons.mpr ⟨tq_563, List.forall_mem_cons.mpr ⟨tq_564, List.forall_mem_cons.mpr ⟨tq_565, List.forall_mem_cons.mpr ⟨tq_566, List.forall_mem_cons.mpr ⟨tq_567, List.forall_mem_cons.mpr ⟨tq_568, List.forall_mem_cons.mpr ⟨tq_569, List.forall_mem_cons.mpr ⟨tq_570, List.forall_mem_cons.mpr ⟨tq_571, List.forall_mem_cons.mpr ⟨tq_572, List.forall_mem_cons.mpr ⟨tq_573, List.forall_mem_cons.mpr ⟨tq_574, List.forall_mem_cons.mpr ⟨tq_575, List.forall_mem_cons.mpr ⟨tq_576, List.forall_mem_cons.mpr ⟨tq_577, List.forall_mem_cons.mpr ⟨tq_578, List.forall_mem_cons.mpr ⟨tq_579, List.forall_mem_cons.mpr ⟨tq_580, List.forall_mem_cons.mpr ⟨tq_581, List.forall_mem_cons.mpr ⟨tq_582, List.forall_mem_cons.mpr ⟨tq_583, List.forall_mem_cons.mpr ⟨tq_584, List.forall_mem_cons.mpr ⟨tq_585, List.forall_mem_cons.mpr ⟨tq_586, List.forall_mem_cons.mpr ⟨tq_587, List.forall_mem_cons.mpr ⟨tq_588, List.forall_mem_cons.mpr ⟨tq_589, List.forall_mem_cons.mpr ⟨tq_590, List.forall_mem_cons.mpr ⟨tq_591, List.forall_mem_cons.mpr ⟨tq_592, List.forall_mem_cons.mpr ⟨tq_593, List.forall_mem_cons.mpr ⟨tq_594, List.forall_mem_cons.mpr ⟨tq_595, List.forall_mem_cons.mpr ⟨tq_596, List.forall_mem_cons.mpr ⟨tq_597, List.forall_mem_cons.mpr ⟨tq_598, List.forall_mem_cons.mpr ⟨tq_599, wq_600⟩⟩⟩⟩⟩⟩⟩⟩⟩⟩⟩⟩⟩⟩⟩⟩⟩⟩⟩⟩⟩⟩⟩⟩⟩⟩⟩⟩⟩⟩⟩⟩⟩⟩⟩⟩⟩⟩⟩⟩
set_option maxRecDepth 100000 in
set_option maxHeartbeats 4000000 in
theorem wq_520 : ∀ w ∈ wsAll.drop 520, w ∈ lw_tbl := List.forall_mem_cons.mpr ⟨tq_520, List.forall_mem_cons.mpr ⟨tq_521, List.forall_mem_cons.mpr ⟨tq_522, List.forall_mem_cons.mpr ⟨tq_523, List.forall_mem_cons.mpr ⟨tq_524, List.forall_mem_cons.mpr ⟨tq_525, List.forall_mem_cons.mpr ⟨tq_526, List.forall_mem_cons.mpr ⟨tq_527, List.forall_mem_cons.mpr ⟨tq_528, List.forall_mem_cons.mpr ⟨tq_529, List.forall_mem_cons.mpr ⟨tq_530, List.forall_mem_cons.mpr ⟨tq_531, List.forall_mem_cons.mpr ⟨tq_532, List.forall_mem_cons.mpr ⟨tq_533, List.forall_mem_cons.mpr ⟨tq_534, List.forall_mem_cons.mpr ⟨tq_535, List.forall_mem_cons.mpr ⟨tq_536, List.forall_mem_cons.mpr ⟨tq_537, List.forall_mem_cons.mpr ⟨tq_538, List.forall_mem_cons.mpr ⟨tq_539, List.forall_mem_cons.mpr ⟨tq_540, List.forall_mem_cons.mpr ⟨tq_541, List.forall_mem_cons.mpr ⟨tq_542, List.forall_mem_cons.mpr ⟨tq_543, List.forall_mem_cons.mpr ⟨tq_544, List.forall_mem_cons.mpr ⟨tq_545, List.forall_mem_cons.mpr ⟨tq_546, List.forall_mem_cons.mpr ⟨tq_547, List.forall_mem_cons.mpr ⟨tq_548, List.forall_mem_cons.mpr ⟨tq_549, List.forall_mem_cons.mpr ⟨tq_550, List.forall_mem_cons.mpr ⟨tq_551, List.forall_mem_cons.mpr ⟨tq_552, List.forall_mem_cons.mpr ⟨tq_553, List.forall_mem_cons.mpr ⟨tq_554, List.forall_mem_cons.mpr ⟨tq_555, List.forall_mem_cons.mpr ⟨tq_556, List.forall_mem_cons.mpr ⟨tq_557, List.forall_mem_cons.mpr ⟨tq_558, List.forall_mem_cons.mpr ⟨tq_559, wq_560⟩⟩⟩⟩⟩⟩⟩⟩⟩⟩⟩⟩⟩⟩⟩⟩⟩⟩⟩⟩⟩⟩⟩⟩⟩⟩⟩⟩⟩⟩⟩⟩⟩⟩⟩⟩⟩⟩⟩⟩
set_option maxRecDepth 100000 in
set_option maxHeartbeats 4000000 in
theorem wq_480 : ∀ w ∈ wsAll.drop 480, w ∈ lw_tbl := List.forall_mem_cons.mpr ⟨tq_480, List.forall_mem_cons.mpr ⟨tq_481, List.forall_mem_cons.mpr ⟨tq_482, List.forall_mem_cons.mpr ⟨tq_483, List.forall_mem_cons.mpr ⟨tq_484, List.forall_mem_cons.mpr ⟨tq_485, List.forall_mem_cons.mpr ⟨tq_486, List.forall_mem_cons.mpr ⟨tq_487, List.forall_mem_cons.mpr ⟨tq_488, List.forall_mem_cons.mpr ⟨tq_489, List.forall_mem_cons.mpr ⟨tq_490, List.forall_mem_cons.mpr ⟨tq_491, List.forall_mem_cons.mpr ⟨tq_492, List.forall_mem_cons.mpr ⟨tq_493, List.forall_mem_cons.mpr ⟨tq_494, List.forall_mem_cons.mpr ⟨tq_495, List.forall_mem_cons.mpr ⟨tq_496, List.forall_mem_cons.mpr ⟨tq_497, List.forall_mem_cons.mpr ⟨tq_498, List.forall_mem_cons.mpr ⟨tq_499, List.forall_mem_cons.mpr ⟨tq_500, List.forall_mem_cons.mpr ⟨tq_501, List.forall_mem_cons.mpr ⟨tq_502, List.forall_mem_cons.mpr ⟨tq_503, List.forall_mem_cons.mpr ⟨tq_504, List.forall_mem_cons.mpr ⟨tq_505, List.forall_mem_cons.mpr ⟨tq_506, List.forall_mem_cons.mpr ⟨tq_507, List.forall_mem_cons.mpr ⟨tq_508, List.forall_mem_cons.mpr ⟨tq_509, List.forall_mem_cons.mpr ⟨tq_510, List.forall_mem_cons.mpr ⟨tq_511, List.forall_mem_cons.mpr ⟨tq_512, List.forall_mem_cons.mpr ⟨tq_513, List.forall_mem_cons.mpr ⟨tq_514, List.forall_mem_cons.mpr ⟨tq_515, List.forall_mem_cons.mpr ⟨tq_516, List.forall_mem_cons.mpr ⟨tq_517, List.forall_mem_cons.mpr ⟨tq_518, List.forall_mem_cons.mpr ⟨tq_519, wq_520⟩⟩⟩⟩⟩⟩⟩⟩⟩⟩⟩⟩⟩⟩⟩⟩⟩⟩⟩⟩⟩⟩⟩⟩⟩⟩⟩⟩⟩⟩⟩⟩⟩⟩⟩⟩⟩⟩⟩⟩
set_option maxRecDepth 100000 in
set_option maxHeartbeats 4000000 in
theorem wq_440 : ∀ w ∈ wsAll.drop 440, w ∈ lw_tbl := List.forall_mem_cons.mpr ⟨tq_440, List.forall_mem_cons.mpr ⟨tq_441, List.forall_mem_cons.mpr ⟨tq_442, List.forall_mem_cons.mpr ⟨tq_443, List.forall_mem_cons.mpr ⟨tq_444, List.forall_mem_cons.mpr ⟨tq_445, List.forall_mem_cons.mpr ⟨tq_446, List.forall_mem_cons.mpr ⟨tq_447, List.forall_mem_cons.mpr ⟨tq_448, List.forall_mem_cons.mpr ⟨tq_449, List.forall_mem_cons.mpr ⟨tq_450, List.forall_mem_cons.mpr ⟨tq_451, List.forall_mem_cons.mpr ⟨tq_452, List.forall_mem_cons.mpr ⟨tq_453, List.forall_mem_cons.mpr ⟨tq_454, List.forall_mem_cons.mpr ⟨tq_455, List.forall_mem_cons.mpr ⟨tq_456, List.forall_mem_cons.mpr ⟨tq_457, List.forall_mem_cons.mpr ⟨tq_458, List.forall_mem_cons.mpr ⟨tq_459, List.forall_mem_cons.mpr ⟨tq_460, List.forall_mem_cons.mpr ⟨tq_461, List.forall_mem_cons.mpr ⟨tq_462, List.forall_mem_cons.mpr ⟨tq_463, List.forall_mem_cons.mpr ⟨tq_464, List.forall_mem_cons.mpr ⟨tq_465, List.forall_mem_cons.mpr ⟨tq_466, List.forall_mem_cons.mpr ⟨tq_467, List.forall_mem_cons.mpr ⟨tq_468, List.forall_mem_cons.mpr ⟨tq_469, List.forall_mem_cons.mpr ⟨tq_470, List.forall_mem_cons.mpr ⟨tq_471, List.forall_mem_cons.mpr ⟨tq_472, List.forall_mem_cons.mpr ⟨tq_473, List.forall_mem_cons.mpr ⟨tq_474, List.forall_mem_cons.mpr ⟨tq_475, List.forall_mem_cons.mpr ⟨tq_476, List.forall_mem_cons.mpr ⟨tq_477, List.forall_mem_cons.mpr ⟨tq_478, List.forall_mem_cons.mpr ⟨tq_479, wq_480⟩⟩⟩⟩⟩⟩⟩⟩⟩⟩⟩⟩⟩⟩⟩⟩⟩⟩⟩⟩⟩⟩⟩⟩⟩⟩⟩⟩⟩⟩⟩⟩⟩⟩⟩⟩⟩⟩⟩⟩
set_option maxRecDepth 100000 in
set_option maxHeartbeats 4000000 in
theorem wq_400 : ∀ w ∈ wsAll.drop 400, w ∈ lw_tbl := List.forall_mem_cons.mpr ⟨tq_400, List.forall_mem_cons.mpr ⟨tq_401, List.forall_mem_cons.mpr ⟨tq_402, List.forall_mem_cons.mpr ⟨tq_403, List.forall_mem_cons.mpr ⟨tq_404, List.forall_mem_cons.mpr ⟨tq_405, List.forall_mem_cons.mpr ⟨tq_406, List.forall_mem_cons.mpr ⟨tq_407, List.forall_mem_cons.mpr ⟨tq_408, List.forall_mem_cons.mpr ⟨tq_409, List.forall_mem_cons.mpr ⟨tq_410, List.forall_mem_cons.mpr ⟨tq_411, List.forall_mem_cons.mpr ⟨tq_412, List.forall_mem_cons.mpr ⟨tq_413, List.forall_mem_cons.mpr ⟨tq_414, List.forall_mem_cons.mpr ⟨tq_415, List.forall_mem_cons.mpr ⟨tq_416, List.forall_mem_cons.mpr ⟨tq_417, List.forall_mem_cons.mpr ⟨tq_418, List.forall_mem_cons.mpr ⟨tq_419, List.forall_mem_cons.mpr ⟨tq_420, List.forall_mem_cons.mpr ⟨tq_421, List.forall_mem_cons.mpr ⟨tq_422, List.forall_mem_cons.mpr ⟨tq_423, List.forall_mem_cons.mpr ⟨tq_424, List.forall_mem_cons.mpr ⟨tq_425, List.forall_mem_cons.mpr ⟨tq_426, List.forall_mem_cons.mpr ⟨tq_427, List.forall_mem_cons.mpr ⟨tq_428, List.forall_mem_cons.mpr ⟨tq_429, List.forall_mem_cons.mpr ⟨tq_430, List.forall_mem_cons.mpr ⟨tq_431, List.forall_mem_cons.mpr ⟨tq_432, List.forall_mem_cons.mpr ⟨tq_433, List.forall_mem_cons.mpr ⟨tq_434, List.forall_mem_cons.mpr ⟨tq_435, List.forall_mem_cons.mpr ⟨tq_436, List.forall_mem_cons.mpr ⟨tq_437, List.forall_mem_cons.mpr ⟨tq_438, List.forall_mem_cons.mpr ⟨tq_439, wq_440⟩⟩⟩⟩⟩⟩⟩⟩⟩⟩⟩⟩⟩⟩⟩⟩⟩⟩⟩⟩⟩⟩⟩⟩⟩⟩⟩⟩⟩⟩⟩⟩⟩⟩⟩⟩⟩⟩⟩⟩
set_option maxRecDepth 100000 in
set_option maxHeartbeats 4000000 in
theorem wq_360 : ∀ w ∈ wsAll.drop 360, w ∈ lw_tbl := List.forall_mem_cons.mpr ⟨tq_360, List.forall_mem_cons.mpr ⟨tq_361, List.forall_mem_cons.mpr ⟨tq_362, List.forall_mem_cons.mpr ⟨tq_363, List.forall_mem_cons.mpr ⟨tq_364, List.forall_mem_cons.mpr ⟨tq_365, List.forall_mem_cons.mpr ⟨tq_366, List.forall_mem_cons.mpr ⟨tq_367, List.forall_mem_cons.mpr ⟨tq_368, List.forall_mem_cons.mpr ⟨tq_369, List.forall_mem_cons.mpr ⟨tq_370, List.forall_mem_cons.mpr ⟨tq_371, List.forall_mem_cons.mpr ⟨tq_372, List.forall_mem_cons.mpr ⟨tq_373, List.forall_mem_cons.mpr ⟨tq_374, List.forall_mem_cons.mpr ⟨tq_375, List.forall_mem_cons.mpr ⟨tq_376, List.forall_mem_cons.mpr ⟨tq_377, List.forall_mem_cons.mpr ⟨tq_378, List.forall_mem_cons.mpr ⟨tq_379, List.forall_mem_cons.mpr ⟨tq_380, List.forall_mem_cons.mpr ⟨tq_381, List.forall_mem_cons.mpr ⟨tq_382, List.forall_mem_cons.mpr ⟨tq_383, List.forall_mem_cons.mpr ⟨tq_384, List.forall_mem_cons.mpr ⟨tq_385, List.forall_mem_cons.mpr ⟨tq_386, List.forall_mem_cons.mpr ⟨tq_387, List.forall_mem_cons.mpr ⟨tq_388, List.forall_mem_cons.mpr ⟨tq_389, List.forall_mem_cons.mpr ⟨tq_390, List.forall_mem_cons.mpr ⟨tq_391, List.forall_mem_cons.mpr ⟨tq_392, List.forall_mem_cons.mpr ⟨tq_393, List.forall_mem_cons.mpr ⟨tq_394, List.forall_mem_cons.mpr ⟨tq_395, List.forall_mem_cons.mpr ⟨tq_396, List.forall_mem_cons.mpr ⟨tq_397, List.forall_mem_cons.mpr ⟨tq_398, List.forall_mem_cons.mpr ⟨tq_399, wq_400⟩⟩⟩⟩⟩⟩⟩⟩⟩⟩⟩⟩⟩⟩⟩⟩⟩⟩⟩⟩⟩⟩⟩⟩⟩⟩⟩⟩⟩⟩⟩⟩⟩⟩⟩⟩⟩⟩⟩⟩
set_option maxRecDepth 100000 in
set_option maxHeartbeats 4000000 in
theorem wq_320 : ∀ w ∈ wsAll.drop 320, w ∈ lw_tbl := List.forall_mem_cons.mpr ⟨tq_320, List.forall_mem_cons.mpr ⟨tq_321, List.forall_mem_cons.mpr ⟨tq_322, List.forall_mem_cons.mpr ⟨tq_323, List.forall_mem_cons.mpr ⟨tq_324, List.forall_mem_cons.mpr ⟨tq_325, List.forall_mem_cons.mpr ⟨tq_326, List.forall_mem_cons.mpr ⟨tq_327, List.forall_mem_cons.mpr ⟨tq_328, List.forall_mem_cons.mpr ⟨tq_329, List.forall_mem_cons.mpr ⟨tq_330, List.forall_mem_cons.mpr ⟨tq_331, List.forall_mem_cons.mpr ⟨tq_332, List.forall_mem_cons.mpr ⟨tq_333, List.forall_mem_cons.mpr ⟨tq_334, List.forall_mem_cons.mpr ⟨tq_335, List.forall_mem_cons.mpr ⟨tq_336, List.forall_mem_cons.mpr ⟨tq_337, List.forall_mem_cons.mpr ⟨tq_338, List.forall_mem_cons.mpr ⟨tq_339, List.forall_mem_cons.mpr ⟨tq_340, List.forall_mem_cons.mpr ⟨tq_341, List.forall_mem_cons.mpr ⟨tq_342, List.forall_mem_cons.mpr ⟨tq_343, List.forall_mem_cons.mpr ⟨tq_344, List.forall_mem_cons.mpr ⟨tq_345, List.forall_mem_cons.mpr ⟨tq_346, List.forall_mem_cons.mpr ⟨tq_347, List.forall_mem_cons.mpr ⟨tq_348, List.forall_mem_cons.mpr ⟨tq_349, List.forall_mem_cons.mpr ⟨tq_350, List.forall_mem_cons.mpr ⟨tq_351, List.forall_mem_cons.mpr ⟨tq_352, List.forall_mem_cons.mpr ⟨tq_353, List.forall_mem_cons.mpr ⟨tq_354, List.forall_mem_cons.mpr ⟨tq_355, List.forall_mem_cons.mpr ⟨tq_356, List.forall_mem_cons.mpr ⟨tq_357, List.forall_mem_cons.mpr ⟨tq_358, List.forall_mem_cons.mpr ⟨tq_359, wq_360⟩⟩⟩⟩⟩⟩⟩⟩⟩⟩⟩⟩⟩⟩⟩⟩⟩⟩⟩⟩⟩⟩⟩⟩⟩⟩⟩⟩⟩⟩⟩⟩⟩⟩⟩⟩⟩⟩⟩⟩
set_option maxRecDepth 100000 in
set_option maxHeartbeats 4000000 in
theorem wq_280 : ∀ w ∈ wsAll.drop 280, w ∈ lw_tbl := List.forall_mem_cons.mpr ⟨tq_280, List.forall_mem_cons.mpr ⟨tq_281, List.forall_mem_cons.mpr ⟨tq_282, List.forall_mem_cons.mpr ⟨tq_283, List.forall_mem_cons.mpr ⟨tq_284, List.forall_mem_cons.mpr ⟨tq_285, List.forall_mem_cons.mpr ⟨tq_286, List.forall_mem_cons.mpr ⟨tq_287, List.forall_mem_cons.mpr ⟨tq_288, List.forall_mem_cons.mpr ⟨tq_289, List.forall_mem_cons.mpr ⟨tq_290, List.forall_mem_cons.mpr ⟨tq_291, List.forall_mem_cons.mpr ⟨tq_292, List.forall_mem_cons.mpr ⟨tq_293, List.forall_mem_cons.mpr ⟨tq_294, List.forall_mem_cons.mpr ⟨tq_295, List.forall_mem_cons.mpr ⟨tq_296, List.forall_mem_cons.mpr ⟨tq_297, List.forall_mem_cons.mpr ⟨tq_298, List.forall_mem_cons.mpr ⟨tq_299, List.forall_mem_cons.mpr ⟨tq_300, List.forall_mem_cons.mpr ⟨tq_301, List.forall_mem_cons.mpr ⟨tq_302, List.forall_mem_cons.mpr ⟨tq_303, List.forall_mem_cons.mpr ⟨tq_304, List.forall_mem_cons.mpr ⟨tq_305, List.forall_mem_cons.mpr ⟨tq_306, List.forall_mem_cons.mpr ⟨tq_307, List.forall_mem_cons.mpr ⟨tq_308, List.forall_mem_cons.mpr ⟨tq_309, List.forall_mem_cons.mpr ⟨tq_310, List.forall_mem_cons.mpr ⟨tq_311, List.forall_mem_cons.mpr ⟨tq_312, List.forall_mem_cons.mpr ⟨tq_313, List.forall_mem_cons.mpr ⟨tq_314, List.forall_mem_cons.mpr ⟨tq_315, List.forall_mem_cons.mpr ⟨tq_316, List.forall_mem_cons.mpr ⟨tq_317, List.forall_mem_cons.mpr ⟨tq_318, List.forall_mem_cons.mpr ⟨tq_319, wq_320⟩⟩⟩⟩⟩⟩⟩⟩⟩⟩⟩⟩⟩⟩⟩⟩⟩⟩⟩⟩⟩⟩⟩⟩⟩⟩⟩⟩⟩⟩⟩⟩⟩⟩⟩⟩⟩⟩⟩⟩
set_option maxRecDepth 100000 in
set_option maxHeartbeats 4000000 in
theorem wq_240 : ∀ w ∈ wsAll.drop 240, w ∈ lw_tbl := List.forall_mem_cons.mpr ⟨tq_240, List.forall_mem_cons.mpr ⟨tq_241, List.forall_mem_cons.mpr ⟨tq_242, List.forall_mem_cons.mpr ⟨tq_243, List.forall_mem_cons.mpr ⟨tq_244, List.forall_mem_cons.mpr ⟨tq_245, List.forall_mem_cons.mpr ⟨tq_246, List.forall_mem_cons.mpr ⟨tq_247, List.forall_mem_cons.mpr ⟨tq_248, List.forall_mem_cons.mpr ⟨tq_249, List.forall_mem_cons.mpr ⟨tq_250, List.forall_mem_cons.mpr ⟨tq_251, List.forall_mem_cons.mpr ⟨tq_252, List.forall_mem_cons.mpr ⟨tq_253, List.forall_mem_cons.mpr ⟨tq_254, List.forall_mem_cons.mpr ⟨tq_255, List.forall_mem_cons.mpr ⟨tq_256, List.forall_mem_cons.mpr ⟨tq_257, List.forall_mem_cons.mpr ⟨tq_258, List.forall_mem_cons.mpr ⟨tq_259, List.forall_mem_cons.mpr ⟨tq_260, List.forall_mem_cons.mpr ⟨tq_261, List.forall_mem_cons.mpr ⟨tq_262, List.forall_mem_cons.mpr ⟨tq_263, List.forall_mem_cons.mpr ⟨tq_264, List.forall_mem_cons.mpr ⟨tq_265, List.forall_mem_cons.mpr ⟨tq_266, List.forall_mem_cons.mpr ⟨tq_267, List.forall_mem_cons.mpr ⟨tq_268, List.forall_mem_cons.mpr ⟨tq_269, List.forall_mem_cons.mpr ⟨tq_270, List.forall_mem_cons.mpr ⟨tq_271, List.forall_mem_cons.mpr ⟨tq_272, List.forall_mem_cons.mpr ⟨tq_273, List.forall_mem_cons.mpr ⟨tq_274, List.forall_mem_cons.mpr ⟨tq_275, List.forall_mem_cons.mpr ⟨tq_276, List.forall_mem_cons.mpr ⟨tq_277, List.forall_mem_cons.mpr ⟨tq_278, List.forall_mem_cons.mpr ⟨tq_279, wq_280⟩⟩⟩⟩⟩⟩⟩⟩⟩⟩⟩⟩⟩⟩⟩⟩⟩⟩⟩⟩⟩⟩⟩⟩⟩⟩⟩⟩⟩⟩⟩⟩⟩⟩⟩⟩⟩⟩⟩⟩
set_option maxRecDepth 100000 in
set_option maxHeartbeats 4000000 in
theorem wq_200 : ∀ w ∈ wsAll.drop 200, w ∈ lw_tbl := List.forall_mem_cons.mpr ⟨tq_200, List.forall_mem_cons.mpr ⟨tq_201, List.forall_mem_cons.mpr ⟨tq_202, List.forall_mem_cons.mpr ⟨tq_203, List.forall_mem_cons.mpr ⟨tq_204, List.forall_mem_cons.mpr ⟨tq_205, List.forall_mem_cons.mpr ⟨tq_206, List.forall_mem_cons.mpr ⟨tq_207, List.forall_mem_cons.mpr ⟨tq_208, List.forall_mem_cons.mpr ⟨tq_209, List.forall_mem_cons.mpr ⟨tq_210, List.forall_mem_cons.mpr ⟨tq_211, List.forall_mem_cons.mpr ⟨tq_212, List.forall_mem_cons.mpr ⟨tq_213, List.forall_mem_cons.mpr ⟨tq_214, List.forall_mem_cons.mpr ⟨tq_215, List.forall_mem_cons.mpr ⟨tq_216, List.forall_mem_cons.mpr ⟨tq_217, List.forall_mem_cons.mpr ⟨tq_218, List.forall_mem_cons.mpr ⟨tq_219, List.forall_mem_cons.mpr ⟨tq_220, List.forall_mem_cons.mpr ⟨tq_221, List.forall_mem_cons.mpr ⟨tq_222, List.forall_mem_cons.mpr ⟨tq_223, List.forall_mem_cons.mpr ⟨tq_224, List.forall_mem_cons.mpr ⟨tq_225, List.forall_mem_cons.mpr ⟨tq_226, List.forall_mem_cons.mpr ⟨tq_227, List.forall_mem_cons.mpr ⟨tq_228, List.forall_mem_cons.mpr ⟨tq_229, List.forall_mem_cons.mpr ⟨tq_230, List.forall_mem_cons.mpr ⟨tq_231, List.forall_mem_cons.mpr ⟨tq_232, List.forall_mem_cons.mpr ⟨tq_233, List.forall_mem_cons.mpr ⟨tq_234, List.forall_mem_cons.mpr ⟨tq_235, List.forall_mem_cons.mpr ⟨tq_236, List.forall_mem_cons.mpr ⟨tq_237, List.forall_mem_cons.mpr ⟨tq_238, List.forall_mem_cons.mpr ⟨tq_239, wq_240⟩⟩⟩⟩⟩⟩⟩⟩⟩⟩⟩⟩⟩⟩⟩⟩⟩⟩⟩⟩⟩⟩⟩⟩⟩⟩⟩⟩⟩⟩⟩⟩⟩⟩⟩⟩⟩⟩⟩⟩
set_option maxRecDepth 100000 in
set_option maxHeartbeats 4000000 in
theorem wq_160 : ∀ w ∈ wsAll.drop 160, w ∈ lw_tbl := List.forall_mem_cons.mpr ⟨tq_160, List.forall_mem_cons.mpr ⟨tq_161, List.forall_mem_cons.mpr ⟨tq_162, List.forall_mem_cons.mpr ⟨tq_163, List.forall_mem_cons.mpr ⟨tq_164, List.forall_mem_cons.mpr ⟨tq_165, List.forall_mem_cons.mpr ⟨tq_166, List.forall_mem_cons.mpr ⟨tq_167, List.forall_mem_cons.mpr ⟨tq_168, List.forall_mem_cons.mpr ⟨tq_169, List.forall_mem_cons.mpr ⟨tq_170, List.forall_mem_cons.mpr ⟨tq_171, List.forall_mem_cons.mpr ⟨tq_172, List.forall_mem_cons.mpr ⟨tq_173, List.forall_mem_cons.mpr ⟨tq_174, List.forall_mem_cons.mpr ⟨tq_175, List.forall_mem_cons.mpr ⟨tq_176, List.forall_mem_cons.mpr ⟨tq_177, List.forall_mem_cons.mpr ⟨tq_178, List.forall_mem_cons.mpr ⟨tq_179, List.forall_mem_cons.mpr ⟨tq_180, List.forall_mem_cons.mpr ⟨tq_181, List.forall_mem_cons.mpr ⟨tq_182, List.forall_mem_cons.mpr ⟨tq_183, List.forall_mem_cons.mpr ⟨tq_184, List.forall_mem_cons.mpr ⟨tq_185, List.forall_mem_cons.mpr ⟨tq_186, List.forall_mem_cons.mpr ⟨tq_187, List.forall_mem_cons.mpr ⟨tq_188, List.forall_mem_cons.mpr ⟨tq_189, List.forall_mem_cons.mpr ⟨tq_190, List.forall_mem_cons.mpr ⟨tq_191, List.forall_mem_cons.mpr ⟨tq_192, List.forall_mem_cons.mpr ⟨tq_193, List.forall_mem_cons.mpr ⟨tq_194, List.forall_mem_cons.mpr ⟨tq_195, List.forall_mem_cons.mpr ⟨tq_196, List.forall_mem_cons.mpr ⟨tq_197, List.forall_mem_cons.mpr ⟨tq_198, List.forall_mem_cons.mpr ⟨tq_199, wq_200⟩⟩⟩⟩⟩⟩⟩⟩⟩⟩⟩⟩⟩⟩⟩⟩⟩⟩⟩⟩⟩⟩⟩⟩⟩⟩⟩⟩⟩⟩⟩⟩⟩⟩⟩⟩⟩⟩⟩⟩
set_option maxRecDepth 100000 in
set_option maxHeartbeats 4000000 in
theorem wq_120 : ∀ w ∈ wsAll.drop 120, w ∈ lw_tbl := List.forall_mem_cons.mpr ⟨tq_120, List.forall_mem_cons.mpr ⟨tq_121, List.forall_mem_cons.mpr ⟨tq_122, List.forall_mem_cons.mpr ⟨tq_123, List.forall_mem_cons.mpr ⟨tq_124, List.forall_mem_cons.mpr ⟨tq_125, List.forall_mem_cons.mpr ⟨tq_126, List.forall_mem_cons.mpr ⟨tq_127, List.forall_mem_cons.mpr ⟨tq_128, List.forall_mem_cons.mpr ⟨tq_129, List.forall_mem_cons.mpr ⟨tq_130, List.forall_mem_cons.mpr ⟨tq_131, List.forall_mem_cons.mpr ⟨tq_132, List.forall_mem_cons.mpr ⟨tq_133, List.forall_mem_cons.mpr ⟨tq_134, List.forall_mem_cons.mpr ⟨tq_135, List.forall_mem_cons.mpr ⟨tq_136, List.forall_mem_cons.mpr ⟨tq_137, List.forall_mem_cons.mpr ⟨tq_138, List.forall_mem_cons.mpr ⟨tq_139, List.forall_mem_cons.mpr ⟨tq_140, List.forall_mem_cons.mpr ⟨tq_141, List.forall_mem_cons.mpr ⟨tq_142, List.forall_mem_cons.mpr ⟨tq_143, List.forall_mem_cons.mpr ⟨tq_144, List.forall_mem_cons.mpr ⟨tq_145, List.forall_mem_cons.mpr ⟨tq_146, List.forall_mem_cons.mpr ⟨tq_147, List.forall_mem_cons.mpr ⟨tq_148, List.forall_mem_cons.mpr ⟨tq_149, List.forall_mem_cons.mpr ⟨tq_150, List.forall_mem_cons.mpr ⟨tq_151, List.forall_mem_cons.mpr ⟨tq_152, List.forall_mem_cons.mpr ⟨tq_153, List.forall_mem_cons.mpr ⟨tq_154, List.forall_mem_cons.mpr ⟨tq_155, List.forall_mem_cons.mpr ⟨tq_156, List.forall_mem_cons.mpr ⟨tq_157, List.forall_mem_cons.mpr ⟨tq_158, List.forall_mem_cons.mpr ⟨tq_159, wq_160⟩⟩⟩⟩⟩⟩⟩⟩⟩⟩⟩⟩⟩⟩⟩⟩⟩⟩⟩⟩⟩⟩⟩⟩⟩⟩⟩⟩⟩⟩⟩⟩⟩⟩⟩⟩⟩⟩⟩⟩
set_option maxRecDepth 100000 in
set_option maxHeartbeats 4000000 in
theorem wq_80 : ∀ w ∈ wsAll.drop 80, w ∈ lw_tbl := List.forall_mem_cons.mpr ⟨tq_80, List.forall_mem_cons.mpr ⟨tq_81, List.forall_mem_cons.mpr ⟨tq_82, List.forall_mem_cons.mpr ⟨tq_83, List.forall_mem_cons.mpr ⟨tq_84, List.forall_mem_cons.mpr ⟨tq_85, List.forall_mem_cons.mpr ⟨tq_86, List.forall_mem_cons.mpr ⟨tq_87, List.forall_mem_cons.mpr ⟨tq_88, List.forall_mem_cons.mpr ⟨tq_89, List.forall_mem_cons.mpr ⟨tq_90, List.forall_mem_cons.mpr ⟨tq_91, List.forall_mem_cons.mpr ⟨tq_92, List.forall_mem_cons.mpr ⟨tq_93, List.forall_mem_cons.mpr ⟨tq_94, List.forall_mem_cons.mpr ⟨tq_95, List.forall_mem_cons.mpr ⟨tq_96, List.forall_mem_cons.mpr ⟨tq_97, List.forall_mem_cons.mpr ⟨tq_98, List.forall_mem_cons.mpr ⟨tq_99, List.forall_mem_cons.mpr ⟨tq_100, List.forall_mem_cons.mpr ⟨tq_101, List.forall_mem_cons.mpr ⟨tq_102, List.forall_mem_cons.mpr ⟨tq_103, List.forall_mem_cons.mpr ⟨tq_104, List.forall_mem_cons.mpr ⟨tq_105, List.forall_mem_cons.mpr ⟨tq_106, List.forall_mem_cons.mpr ⟨tq_107, List.forall_mem_cons.mpr ⟨tq_108, List.forall_mem_cons.mpr ⟨tq_109, List.forall_mem_cons.mpr ⟨tq_110, List.forall_mem_cons.mpr ⟨tq_111, List.forall_mem_cons.mpr ⟨tq_112, List.forall_mem_cons.mpr ⟨tq_113, List.forall_mem_cons.mpr ⟨tq_114, List.forall_mem_cons.mpr ⟨tq_115, List.forall_mem_cons.mpr ⟨tq_116, List.forall_mem_cons.mpr ⟨tq_117, List.forall_mem_cons.mpr ⟨tq_118, List.forall_mem_cons.mpr ⟨tq_119, wq_120⟩⟩⟩⟩⟩⟩⟩⟩⟩⟩⟩⟩⟩⟩⟩⟩⟩⟩⟩⟩⟩⟩⟩⟩⟩⟩⟩⟩⟩⟩⟩⟩⟩⟩⟩⟩⟩⟩⟩⟩
set_option maxRecDepth 100000 in
set_option maxHeartbeats 4000000 in
theorem wq_40 : ∀ w ∈ wsAll.drop 40, w ∈ lw_tbl := List.forall_mem_cons.mpr ⟨tq_40, List.forall_mem_cons.mpr ⟨tq_41, List.forall_mem_cons.mpr ⟨tq_42, List.forall_mem_cons.mpr ⟨tq_43, List.forall_mem_cons.mpr ⟨tq_44, List.forall_mem_cons.mpr ⟨tq_45, List.forall_mem_cons.mpr ⟨tq_46, List.forall_mem_cons.mpr ⟨tq_47, List.forall_mem_cons.mpr ⟨tq_48, List.forall_mem_cons.mpr ⟨tq_49, List.forall_mem_cons.mpr ⟨tq_50, List.forall_mem_cons.mpr ⟨tq_51, List.forall_mem_cons.mpr ⟨tq_52, List.forall_mem_cons.mpr ⟨tq_53, List.forall_mem_cons.mpr ⟨tq_54, List.forall_mem_cons.mpr ⟨tq_55, List.forall_mem_cons.mpr ⟨tq_56, List.forall_mem_cons.mpr ⟨tq_57, List.forall_mem_cons.mpr ⟨tq_58, List.forall_mem_cons.mpr ⟨tq_59, List.forall_mem_cons.mpr ⟨tq_60, List.forall_mem_cons.mpr ⟨tq_61, List.forall_mem_cons.mpr ⟨tq_62, List.forall_mem_cons.mpr ⟨tq_63, List.forall_mem_cons.mpr ⟨tq_64, List.forall_mem_cons.mpr ⟨tq_65, List.forall_mem_cons.mpr ⟨tq_66, List.forall_mem_cons.mpr ⟨tq_67, List.forall_mem_cons.mpr ⟨tq_68, List.forall_mem_cons.mpr ⟨tq_69, List.forall_mem_cons.mpr ⟨tq_70, List.forall_mem_cons.mpr ⟨tq_71, List.forall_mem_cons.mpr ⟨tq_72, List.forall_mem_cons.mpr ⟨tq_73, List.forall_mem_cons.mpr ⟨tq_74, List.forall_mem_cons.mpr ⟨tq_75, List.forall_mem_cons.mpr ⟨tq_76, List.forall_mem_cons.mpr ⟨tq_77, List.forall_mem_cons.mpr ⟨tq_78, List.forall_mem_cons.mpr ⟨tq_79, wq_80⟩⟩⟩⟩⟩⟩⟩⟩⟩⟩⟩⟩⟩⟩⟩⟩⟩⟩⟩⟩⟩⟩⟩⟩⟩⟩⟩⟩⟩⟩⟩⟩⟩⟩⟩⟩⟩⟩⟩⟩
set_option maxRecDepth 100000 in
set_option maxHeartbeats 4000000 in
theorem wq_0 : ∀ w ∈ wsAll.drop 0, w ∈ lw_tbl := List.forall_mem_cons.mpr ⟨tq_0, List.forall_mem_cons.mpr ⟨tq_1, List.forall_mem_cons.mpr ⟨tq_2, List.forall_mem_cons.mpr ⟨tq_3, List.forall_mem_cons.mpr ⟨tq_4, List.forall_mem_cons.mpr ⟨tq_5, List.forall_mem_cons.mpr ⟨tq_6, List.forall_mem_cons.mpr ⟨tq_7, List.forall_mem_cons.mpr ⟨tq_8, List.forall_mem_cons.mpr ⟨tq_9, List.forall_mem_cons.mpr ⟨tq_10, List.forall_mem_cons.mpr ⟨tq_11, List.forall_mem_cons.mpr ⟨tq_12, List.forall_mem_cons.mpr ⟨tq_13, List.forall_mem_cons.mpr ⟨tq_14, List.forall_mem_cons.mpr ⟨tq_15, List.forall_mem_cons.mpr ⟨tq_16, List.forall_mem_cons.mpr ⟨tq_17, List.forall_mem_cons.mpr ⟨tq_18, List.forall_mem_cons.mpr ⟨tq_19, List.forall_mem_cons.mpr ⟨tq_20, List.forall_mem_cons.mpr ⟨tq_21, List.forall_mem_cons.mpr ⟨tq_22, List.forall_mem_cons.mpr ⟨tq_23, List.forall_mem_cons.mpr ⟨tq_24, List.forall_mem_cons.mpr ⟨tq_25, List.forall_mem_cons.mpr ⟨tq_26, List.forall_mem_cons.mpr ⟨tq_27, List.forall_mem_cons.mpr ⟨tq_28, List.forall_mem_cons.mpr ⟨tq_29, List.forall_mem_cons.mpr ⟨tq_30, List.forall_mem_cons.mpr ⟨tq_31, List.forall_mem_cons.mpr ⟨tq_32, List.forall_mem_cons.mpr ⟨tq_33, List.forall_mem_cons.mpr ⟨tq_34, List.forall_mem_cons.mpr ⟨tq_35, List.forall_mem_cons.mpr ⟨tq_36, List.forall_mem_cons.mpr ⟨tq_37, List.forall_mem_cons.mpr ⟨tq_38, List.forall_mem_cons.mpr ⟨tq_39, wq_40⟩⟩⟩⟩⟩⟩⟩⟩⟩⟩⟩⟩⟩⟩⟩⟩⟩⟩⟩⟩⟩⟩⟩⟩⟩⟩⟩⟩⟩⟩⟩⟩⟩⟩⟩⟩⟩⟩⟩⟩
set_option maxRecDepth 100000 in
set_option maxHeartbeats 4000000 in
theorem wsAll_in : ∀ w ∈ wsAll, w ∈ lw_tbl := wq_0
set_option maxRecDepth 100000 in
set_option maxHeartbeats 4000000 in
theorem z_full : ∀ q ∈ [(0, 0), (0, 1), (0, 2), (0, 3), (0, 4), (0, 5), (0, 6), (0, 7), (1, 1), (1, 2), (1, 3), (2, 1), (2, 2), (2, 3), (2, 4), (2, 5), (3, 1), (3, 2), (4, 0), (4, 1), (4, 2), (4, 3), (4, 4), (4, 5), (4, 6), (4, 7), (5, 0), (5, 1), (5, 2), (5, 3), (5, 4), (5, 5), (5, 8), (6, 2), (7, 1), (7, 2), (7, 3), (7, 4), (7, 5), (7, 6), (7, 7), (7, 8), (7, 9), (7, 12), (7, 17), (7, 18), (7, 19), (7, 20), (7, 21), (7, 23)], (z_56.1 q.1 (100 + q.2) = 0) = False := by
  have h : ∀ q ∈ [(0, 0), (0, 1), (0, 2), (0, 3), (0, 4), (0, 5), (0, 6), (0, 7), (1, 1), (1, 2), (1, 3), (2, 1), (2, 2), (2, 3), (2, 4), (2, 5), (3, 1), (3, 2), (4, 0), (4, 1), (4, 2), (4, 3), (4, 4), (4, 5), (4, 6), (4, 7), (5, 0), (5, 1), (5, 2), (5, 3), (5, 4), (5, 5), (5, 8), (6, 2), (7, 1), (7, 2), (7, 3), (7, 4), (7, 5), (7, 6), (7, 7), (7, 8), (7, 9), (7, 12), (7, 17), (7, 18), (7, 19), (7, 20), (7, 21), (7, 23)], ¬ (z_56.1 q.1 (100 + q.2) = 0) := by decide +kernel
  exact fun q hq => eq_false (h q hq)
theorem rfc_full {G : Gw} {k j a b : Nat} (hAd : ∀ k, k < 85 → G.2.1 k = G.2.1 0 + off k) (hb : b < 85) (ha : off b = a) (hq : (z_56.1 k (100 + j) = 0) = False) : rfc G z_56 k j a = .ref (G.2.1 b) := by
  unfold rfc
  rw [if_neg (fun h => by rw [hq] at h; exact h), hAd b hb, ha]
set_option maxRecDepth 100000 in
set_option maxHeartbeats 4000000 in
theorem obK_full0 {G : Gw} (hAd : ∀ k, k < 85 → G.2.1 k = G.2.1 0 + off k) : obK G z_56 0 = obF G z_56 0 := by
  show ([rfc G z_56 0 0 1, rfc G z_56 0 1 12, rfc G z_56 0 2 18, rfc G z_56 0 3 37, rfc G z_56 0 4 48, rfc G z_56 0 5 64, rfc G z_56 0 6 66, rfc G z_56 0 7 67] : List Value) = [.ref (G.2.1 1), .ref (G.2.1 2), .ref (G.2.1 3), .ref (G.2.1 4), .ref (G.2.1 5), .ref (G.2.1 6), .ref (G.2.1 40), .ref (G.2.1 41)]
  rw [rfc_full hAd (b := 1) (by decide) (by decide +kernel) (z_full (0, 0) (by decide +kernel)), rfc_full hAd (b := 2) (by decide) (by decide +kernel) (z_full (0, 1) (by decide +kernel)), rfc_full hAd (b := 3) (by decide) (by decide +kernel) (z_full (0, 2) (by decide +kernel)), rfc_full hAd (b := 4) (by decide) (by decide +kernel) (z_full (0, 3) (by decide +kernel)), rfc_full hAd (b := 5) (by decide) (by decide +kernel) (z_full (0, 4) (by decide +kernel)), rfc_full hAd (b := 6) (by decide) (by decide +kernel) (z_full (0, 5) (by decide +kernel)), rfc_full hAd (b := 40) (by decide) (by decide +kernel) (z_full (0, 6) (by decide +kernel)), rfc_full hAd (b := 41) (by decide) (by decide +kernel) (z_full (0, 7) (by decide +kernel))]
set_option maxRecDepth 100000 in
set_option maxHeartbeats 4000000 in
theorem obK_full1 {G : Gw} (hAd : ∀ k, k < 85 → G.2.1 k = G.2.1 0 + off k) : obK G z_56 1 = obF G z_56 1 := by
  show ([.int (z_56.1 1 0), rfc G z_56 1 1 2, rfc G z_56 1 2 3, rfc G z_56 1 3 4] : List Value) = [.int (z_56.1 1 0), .ref (G.2.1 17), .ref (G.2.1 42), .ref (G.2.1 8)]
  rw [rfc_full hAd (b := 17) (by decide) (by decide +kernel) (z_full (1, 1) (by decide +kernel)), rfc_full hAd (b := 42) (by decide) (by decide +kernel) (z_full (1, 2) (by decide +kernel)), rfc_full hAd (b := 8) (by decide) (by decide +kernel) (z_full (1, 3) (by decide +kernel))]
set_option maxRecDepth 100000 in
set_option maxHeartbeats 4000000 in
theorem obK_full2 {G : Gw} (hAd : ∀ k, k < 85 → G.2.1 k = G.2.1 0 + off k) : obK G z_56 2 = obF G z_56 2 := by
  show ([.int (z_56.1 2 0), rfc G z_56 2 1 13, rfc G z_56 2 2 14, rfc G z_56 2 3 15, rfc G z_56 2 4 16, rfc G z_56 2 5 17] : List Value) = [.int (z_56.1 2 0), .ref (G.2.1 18), .ref (G.2.1 19), .ref (G.2.1 20), .ref (G.2.1 21), .ref (G.2.1 22)]
  rw [rfc_full hAd (b := 18) (by decide) (by decide +kernel) (z_full (2, 1) (by decide +kernel)), rfc_full hAd (b := 19) (by decide) (by decide +kernel) (z_full (2, 2) (by decide +kernel)), rfc_full hAd (b := 20) (by decide) (by decide +kernel) (z_full (2, 3) (by decide +kernel)), rfc_full hAd (b := 21) (by decide) (by decide +kernel) (z_full (2, 4) (by decide +kernel)), rfc_full hAd (b := 22) (by decide) (by decide +kernel) (z_full (2, 5) (by decide +kernel))]
set_option maxRecDepth 100000 in
set_option maxHeartbeats 4000000 in
theorem obK_full3 {G : Gw} (hAd : ∀ k, k < 85 → G.2.1 k = G.2.1 0 + off k) : obK G z_56 3 = obF G z_56 3 := by
  show ([.int (z_56.1 3 0), rfc G z_56 3 1 19, rfc G z_56 3 2 20] : List Value) = [.int (z_56.1 3 0), .ref (G.2.1 23), .ref (G.2.1 9)]
  rw [rfc_full hAd (b := 23) (by decide) (by decide +kernel) (z_full (3, 1) (by decide +kernel)), rfc_full hAd (b := 9) (by decide) (by decide +kernel) (z_full (3, 2) (by decide +kernel))]
set_option maxRecDepth 100000 in
set_option maxHeartbeats 4000000 in
theorem obK_full4 {G : Gw} (hAd : ∀ k, k < 85 → G.2.1 k = G.2.1 0 + off k) : obK G z_56 4 = obF G z_56 4 := by
  show ([rfc G z_56 4 0 1, rfc G z_56 4 1 12, rfc G z_56 4 2 18, rfc G z_56 4 3 38, rfc G z_56 4 4 44, rfc G z_56 4 5 45, rfc G z_56 4 6 46, rfc G z_56 4 7 47, .int (z_56.1 4 8), .int (z_56.1 4 9), .int (z_56.1 4 10), .long (z_56.2 4 11), .long (z_56.2 4 12)] : List Value) = [.ref (G.2.1 1), .ref (G.2.1 2), .ref (G.2.1 3), .ref (G.2.1 10), .ref (G.2.1 43), .ref (G.2.1 44), .ref (G.2.1 13), .ref (G.2.1 24), .int (z_56.1 4 8), .int (z_56.1 4 9), .int (z_56.1 4 10), .long (z_56.2 4 11), .long (z_56.2 4 12)]
  rw [rfc_full hAd (b := 1) (by decide) (by decide +kernel) (z_full (4, 0) (by decide +kernel)), rfc_full hAd (b := 2) (by decide) (by decide +kernel) (z_full (4, 1) (by decide +kernel)), rfc_full hAd (b := 3) (by decide) (by decide +kernel) (z_full (4, 2) (by decide +kernel)), rfc_full hAd (b := 10) (by decide) (by decide +kernel) (z_full (4, 3) (by decide +kernel)), rfc_full hAd (b := 43) (by decide) (by decide +kernel) (z_full (4, 4) (by decide +kernel)), rfc_full hAd (b := 44) (by decide) (by decide +kernel) (z_full (4, 5) (by decide +kernel)), rfc_full hAd (b := 13) (by decide) (by decide +kernel) (z_full (4, 6) (by decide +kernel)), rfc_full hAd (b := 24) (by decide) (by decide +kernel) (z_full (4, 7) (by decide +kernel))]
set_option maxRecDepth 100000 in
set_option maxHeartbeats 4000000 in
theorem obK_full5 {G : Gw} (hAd : ∀ k, k < 85 → G.2.1 k = G.2.1 0 + off k) : obK G z_56 5 = obF G z_56 5 := by
  show ([rfc G z_56 5 0 1, rfc G z_56 5 1 18, rfc G z_56 5 2 49, rfc G z_56 5 3 55, rfc G z_56 5 4 61, rfc G z_56 5 5 62, .int (z_56.1 5 6), .long (z_56.2 5 7), rfc G z_56 5 8 63] : List Value) = [.ref (G.2.1 1), .ref (G.2.1 3), .ref (G.2.1 11), .ref (G.2.1 12), .ref (G.2.1 45), .ref (G.2.1 25), .int (z_56.1 5 6), .long (z_56.2 5 7), .ref (G.2.1 26)]
  rw [rfc_full hAd (b := 1) (by decide) (by decide +kernel) (z_full (5, 0) (by decide +kernel)), rfc_full hAd (b := 3) (by decide) (by decide +kernel) (z_full (5, 1) (by decide +kernel)), rfc_full hAd (b := 11) (by decide) (by decide +kernel) (z_full (5, 2) (by decide +kernel)), rfc_full hAd (b := 12) (by decide) (by decide +kernel) (z_full (5, 3) (by decide +kernel)), rfc_full hAd (b := 45) (by decide) (by decide +kernel) (z_full (5, 4) (by decide +kernel)), rfc_full hAd (b := 25) (by decide) (by decide +kernel) (z_full (5, 5) (by decide +kernel)), rfc_full hAd (b := 26) (by decide) (by decide +kernel) (z_full (5, 8) (by decide +kernel))]
set_option maxRecDepth 100000 in
set_option maxHeartbeats 4000000 in
theorem obK_full6 {G : Gw} (hAd : ∀ k, k < 85 → G.2.1 k = G.2.1 0 + off k) : obK G z_56 6 = obF G z_56 6 := by
  show ([.int (z_56.1 6 0), .int (z_56.1 6 1), rfc G z_56 6 2 65, .long (z_56.2 6 3), .int (z_56.1 6 4), .long (z_56.2 6 5), .long (z_56.2 6 6), .int (z_56.1 6 7)] : List Value) = [.int (z_56.1 6 0), .int (z_56.1 6 1), .ref (G.2.1 27), .long (z_56.2 6 3), .int (z_56.1 6 4), .long (z_56.2 6 5), .long (z_56.2 6 6), .int (z_56.1 6 7)]
  rw [rfc_full hAd (b := 27) (by decide) (by decide +kernel) (z_full (6, 2) (by decide +kernel))]
set_option maxRecDepth 100000 in
set_option maxHeartbeats 4000000 in
theorem obK_full7 {G : Gw} (hAd : ∀ k, k < 85 → G.2.1 k = G.2.1 0 + off k) : obK G z_56 7 = obF G z_56 7 := by
  show ([.int (z_56.1 7 0), rfc G z_56 7 1 69, rfc G z_56 7 2 70, rfc G z_56 7 3 71, rfc G z_56 7 4 72, rfc G z_56 7 5 73, rfc G z_56 7 6 74, rfc G z_56 7 7 75, rfc G z_56 7 8 76, rfc G z_56 7 9 77, .int (z_56.1 7 10), .int (z_56.1 7 11), rfc G z_56 7 12 78, .long (z_56.2 7 13), .long (z_56.2 7 14), .long (z_56.2 7 15), .int (z_56.1 7 16), rfc G z_56 7 17 79, rfc G z_56 7 18 80, rfc G z_56 7 19 81, rfc G z_56 7 20 82, rfc G z_56 7 21 83, .long (z_56.2 7 22), rfc G z_56 7 23 84] : List Value) = [.int (z_56.1 7 0), .ref (G.2.1 28), .ref (G.2.1 29), .ref (G.2.1 30), .ref (G.2.1 14), .ref (G.2.1 31), .ref (G.2.1 32), .ref (G.2.1 33), .ref (G.2.1 34), .ref (G.2.1 35), .int (z_56.1 7 10), .int (z_56.1 7 11), .ref (G.2.1 36), .long (z_56.2 7 13), .long (z_56.2 7 14), .long (z_56.2 7 15), .int (z_56.1 7 16), .ref (G.2.1 37), .ref (G.2.1 38), .ref (G.2.1 15), .ref (G.2.1 39), .ref (G.2.1 46), .long (z_56.2 7 22), .ref (G.2.1 16)]
  rw [rfc_full hAd (b := 28) (by decide) (by decide +kernel) (z_full (7, 1) (by decide +kernel)), rfc_full hAd (b := 29) (by decide) (by decide +kernel) (z_full (7, 2) (by decide +kernel)), rfc_full hAd (b := 30) (by decide) (by decide +kernel) (z_full (7, 3) (by decide +kernel)), rfc_full hAd (b := 14) (by decide) (by decide +kernel) (z_full (7, 4) (by decide +kernel)), rfc_full hAd (b := 31) (by decide) (by decide +kernel) (z_full (7, 5) (by decide +kernel)), rfc_full hAd (b := 32) (by decide) (by decide +kernel) (z_full (7, 6) (by decide +kernel)), rfc_full hAd (b := 33) (by decide) (by decide +kernel) (z_full (7, 7) (by decide +kernel)), rfc_full hAd (b := 34) (by decide) (by decide +kernel) (z_full (7, 8) (by decide +kernel)), rfc_full hAd (b := 35) (by decide) (by decide +kernel) (z_full (7, 9) (by decide +kernel)), rfc_full hAd (b := 36) (by decide) (by decide +kernel) (z_full (7, 12) (by decide +kernel)), rfc_full hAd (b := 37) (by decide) (by decide +kernel) (z_full (7, 17) (by decide +kernel)), rfc_full hAd (b := 38) (by decide) (by decide +kernel) (z_full (7, 18) (by decide +kernel)), rfc_full hAd (b := 15) (by decide) (by decide +kernel) (z_full (7, 19) (by decide +kernel)), rfc_full hAd (b := 39) (by decide) (by decide +kernel) (z_full (7, 20) (by decide +kernel)), rfc_full hAd (b := 46) (by decide) (by decide +kernel) (z_full (7, 21) (by decide +kernel)), rfc_full hAd (b := 16) (by decide) (by decide +kernel) (z_full (7, 23) (by decide +kernel))]
theorem obK_full {G : Gw} (hAd : ∀ k, k < 85 → G.2.1 k = G.2.1 0 + off k) {k : Nat} (h8 : k < 8) : obK G z_56 k = obF G z_56 k := by
  match k, h8 with
  | 0, _ => exact obK_full0 hAd
  | 1, _ => exact obK_full1 hAd
  | 2, _ => exact obK_full2 hAd
  | 3, _ => exact obK_full3 hAd
  | 4, _ => exact obK_full4 hAd
  | 5, _ => exact obK_full5 hAd
  | 6, _ => exact obK_full6 hAd
  | 7, _ => exact obK_full7 hAd
theorem wc_wk {G : Gw} {s : State} {H : Heap} {locs : List Loc} (hAd : ∀ k, k < 85 → G.2.1 k = G.2.1 0 + off k) (hs : s.heap.size = G.2.1 0) (hw : Wc G s 85 z_56 H locs) : Wk G s z_56 H locs := by
  obtain ⟨h1, h2, h3, -⟩ := hw
  refine ⟨fun k q hk => ?_, ⟨fun i j p q hi hj e => ?_, fun k q hk => ?_⟩, h3.1, fun q q1 q2 => h3.2.1 q q1 (fun z => q2 (Or.inr (by rw [hs]; exact z))), fun q hq => Or.inr (by rw [hs]; exact h3.2.2 q hq)⟩
  · have hk85 : k < 85 := by rw [← WL_len (G := G) (μ := z_56)]; exact (List.getElem?_eq_some_iff.mp hk).1
    rw [WL_get hk85] at hk
    cases hk
    have h9 := h2 (off k) _ (WG_get (off_lt k hk85))
    rw [al_off k hk85, ← hAd k hk85] at h9
    unfold entC at h9
    by_cases h8 : k < 8
    · rw [if_pos h8, obK_full hAd h8] at h9
      rw [ent_O h8]
      exact h9
    · rw [if_neg h8] at h9
      by_cases h13 : k < 13
      · rw [if_pos h13] at h9
        rw [ent_A (by omega) h13]
        show H[_]? = some (vp_cell _ _)
        have h9' : H[G.2.1 k]? = some (vp_cell _ _) := h9
        rw [h9', vp_cell_q, vp_cell_q]
        refine congrArg some (arrV_ext (fun i hi => ?_))
        obtain ⟨e1, e2⟩ := off_out k h13 (by omega) i hi
        rw [hAd _ e2, e1]
      · rw [if_neg h13] at h9
        exact h9
  · have hi85 : i < 85 := by rw [← WL_len (G := G) (μ := z_56)]; exact (List.getElem?_eq_some_iff.mp hi).1
    have hj85 : j < 85 := by rw [← WL_len (G := G) (μ := z_56)]; exact (List.getElem?_eq_some_iff.mp hj).1
    rw [WL_get hi85] at hi
    rw [WL_get hj85] at hj
    cases hi
    cases hj
    have e' : G.2.1 i = G.2.1 j := e
    rw [hAd i hi85, hAd j hj85] at e'
    have e2 : off i = off j := by omega
    rw [← al_off i hi85, ← al_off j hj85, e2]
  · have hk85 : k < 85 := by rw [← WL_len (G := G) (μ := z_56)]; exact (List.getElem?_eq_some_iff.mp hk).1
    rw [WL_get hk85] at hk
    cases hk
    exact Or.inl ⟨k, hk85, rfl⟩
set_option maxRecDepth 100000 in
set_option maxHeartbeats 4000000 in
theorem st_SETS : ∀ j, j < 32 → (Cond.eq (.elem (.static "RecipePlans" "SETS" "[I") (.int (Int32.ofNat j))) (.int (tSETS.getD j 0))) ∈ flatC (Jvm.Cond.and given_1 narrow_1) := by decide +kernel
set_option maxRecDepth 100000 in
set_option maxHeartbeats 4000000 in
theorem tab_SETS {s : State} {args : Array Value} {A : Nat → Prop} (hs : ∀ c ∈ flatC (Jvm.Cond.and given_1 narrow_1), c.before args s = true) (ht : ∀ w ∈ lw_tbl, w.before args s = true) (hA : ∀ a : Nat, a < s.heap.size → ¬ A a) : ∃ t, va_Z "RecipePlans" "SETS" "[I" (.ref t) A s s.heap ∧ va_T .int t 32 (fun j => .int (tSETS.getD j 0)) A s s.heap := by
  obtain ⟨t, h1, h2⟩ := va_Tof (tm := .static "RecipePlans" "SETS" "[I") (ty := .int) (N := 32) (f := fun j => .int (tSETS.getD j 0)) (A := A) (by decide) (hs _ (by decide +kernel)) (va_eqt (hs (Cond.eq (.length (.static "RecipePlans" "SETS" "[I")) (.int 32)) (by decide +kernel))) (fun j hj => va_eqt (hs _ (st_SETS j hj))) hA
  exact ⟨t, va_Zref (ht (.laysStatic "RecipePlans" "SETS" "[I") (by decide +kernel)) (ht (.initialized "RecipePlans") (by decide +kernel)) h1 hA, h2⟩
set_option maxRecDepth 100000 in
set_option maxHeartbeats 4000000 in
theorem st_STARTS : ∀ j, j < 6 → (Cond.eq (.elem (.static "RecipePlans" "STARTS" "[I") (.int (Int32.ofNat j))) (.int (tSTARTS.getD j 0))) ∈ flatC (Jvm.Cond.and given_1 narrow_1) := by decide +kernel
set_option maxRecDepth 100000 in
set_option maxHeartbeats 4000000 in
theorem tab_STARTS {s : State} {args : Array Value} {A : Nat → Prop} (hs : ∀ c ∈ flatC (Jvm.Cond.and given_1 narrow_1), c.before args s = true) (ht : ∀ w ∈ lw_tbl, w.before args s = true) (hA : ∀ a : Nat, a < s.heap.size → ¬ A a) : ∃ t, va_Z "RecipePlans" "STARTS" "[I" (.ref t) A s s.heap ∧ va_T .int t 6 (fun j => .int (tSTARTS.getD j 0)) A s s.heap := by
  obtain ⟨t, h1, h2⟩ := va_Tof (tm := .static "RecipePlans" "STARTS" "[I") (ty := .int) (N := 6) (f := fun j => .int (tSTARTS.getD j 0)) (A := A) (by decide) (hs _ (by decide +kernel)) (va_eqt (hs (Cond.eq (.length (.static "RecipePlans" "STARTS" "[I")) (.int 6)) (by decide +kernel))) (fun j hj => va_eqt (hs _ (st_STARTS j hj))) hA
  exact ⟨t, va_Zref (ht (.laysStatic "RecipePlans" "STARTS" "[I") (by decide +kernel)) (ht (.initialized "RecipePlans") (by decide +kernel)) h1 hA, h2⟩
theorem arr_cls {s : State} {args : Array Value} {ty : FieldType} (hp : ty = .int ∨ ty = .long ∨ ty = .boolean) (h : (Cond.arrayClass ty).before args s = true) : ∃ cA, ArrOfT s cA ty ∧ va_RA s cA ty := by
  obtain ⟨cA, k, comp, h1, h2, h3⟩ := Cond.arrayClass_spec h
  exact ⟨cA, fun n z => ⟨fun q hq => (by cases hq), k, h2, comp, h3⟩, by rcases hp with rfl | rfl | rfl <;> exact h1⟩
theorem arr_out {s : State} {args : Array Value} (h : (Cond.arrayOver (.array .long)).before args s = true) : ∃ cA, ArrOfT s cA (.array .long) ∧ va_RA s cA (.array .long) := by
  obtain ⟨comp, cA, k, -, -, h2, h3, h4⟩ := arrayOverA_spec h
  exact ⟨cA, fun n z => ⟨fun q hq => (by cases hq), k, h2, comp, h3⟩, h4⟩
set_option maxRecDepth 100000 in
set_option maxHeartbeats 4000000 in
/-- THE LAW FROM ITS ENTRY, over what the two programs' models do -/
theorem start_open {p : Program} {e : Env} {s : State} {m : MethodId} {below : List Frame} {meth : Method} {c : Code} (l : Launch) {b L : Nat} {xs : Nat → Int32} (hL : L ≤ 3584) (C0 : lw_At p s m meth c b L xs) {N : Nat} {Inv : Mem → Prop} (ho : OpsOK N Inv) (hI : Inv z_56) : W p l e room_1 s m #[Value.ref b] below meth c s.heap [] 0 0 (lw_Z below #[Value.ref b] s) (entryFrame m ([Value.ref b] : List Value).toArray 4) := by
  obtain ⟨hx, hb, hr, hml, hown, ht, hX, hbl, hlk, hgv⟩ := id C0
  have hown : s.vm.findClass "RecipePlansLaw" = some m.cls := hown
  have hsf := flat_of_before _ hgv
  have htw : ∀ w ∈ wsAll, w.before #[Value.ref b] s = true := fun w h => ht w (wsAll_in w h)
  have hts : ∀ w ∈ (Cond.initialized "RecipePlansLaw" :: wsAll), w.before #[Value.ref b] s = true := fun w h => by
    rcases List.mem_cons.mp h with rfl | h
    · exact htw _ tw_33
    · exact htw w h
  obtain ⟨c0, i0, hKn0⟩ := u_known (C := "RecipePlans") (T := T_RP) (N := 8) (n := 8) htw inT_RP (htw _ tw_45)
  obtain ⟨c1, i1, hKn1⟩ := u_known (C := "RecipePlans$Lots") (T := T_Lo) (N := 4) (n := 4) htw inT_Lo (htw _ tw_53)
  obtain ⟨c2, i2, hKn2⟩ := u_known (C := "RecipePlans$Rules") (T := T_Ru) (N := 6) (n := 6) htw inT_Ru (htw _ tw_78)
  obtain ⟨c3, i3, hKn3⟩ := u_known (C := "RecipePlans$Sides") (T := T_Si) (N := 3) (n := 3) htw inT_Si (htw _ tw_107)
  obtain ⟨c4, i4, hKn4⟩ := u_known (C := "RecipePlans$CutSearch") (T := T_CS) (N := 13) (n := 13) htw inT_CS (htw _ tw_125)
  obtain ⟨c5, i5, hKn5⟩ := u_known (C := "RecipePlans$WholeSearch") (T := T_WS) (N := 9) (n := 9) htw inT_WS (htw _ tw_163)
  obtain ⟨c6, i6, hKn6⟩ := u_known (C := "RecipePlans$Found") (T := T_Fo) (N := 8) (n := 8) htw inT_Fo (htw _ tw_192)
  obtain ⟨c7, i7, hKn7⟩ := u_known (C := "RecipePlansModel") (T := T_Mo) (N := 24) (n := 24) htw inT_Mo (htw _ tw_448)
  obtain ⟨cI, hI1, hI2⟩ := arr_cls (s := s) (args := #[Value.ref b]) (ty := .int) (Or.inl rfl) (htw _ tw_75)
  obtain ⟨cJ, hJ1, hJ2⟩ := arr_cls (s := s) (args := #[Value.ref b]) (ty := .long) (Or.inr (Or.inl rfl)) (htw _ tw_76)
  obtain ⟨cZ, hZ1, hZ2⟩ := arr_cls (s := s) (args := #[Value.ref b]) (ty := .boolean) (Or.inr (Or.inr rfl)) (htw _ tw_161)
  have hO0 : (Cond.arrayOver (.array .long)).before #[Value.ref b] s = true := ht _ (by decide +kernel)
  have hO : (Cond.arrayOver (.array .long)).before #[] s = true := over_moved (Vm.Alike.refl s.vm) hO0
  obtain ⟨cP, hP1, hP2⟩ := arr_out hO0
  obtain ⟨ad, hAd0⟩ : ∃ ad : Nat → Nat, ∀ k, ad k = s.heap.size + off k := ⟨_, fun _ => rfl⟩
  have hgea : ∀ a : Nat, a < s.heap.size → ¬ ((∃ k, k < 85 ∧ a = ad k) ∨ s.heap.size ≤ a) := fun a ha h => by
    rcases h with ⟨k, -, h1⟩ | h1
    · rw [hAd0 k] at h1
      omega
    · omega
  obtain ⟨tS, hS1, hS2⟩ := tab_SETS (A := fun q => (∃ k, k < 85 ∧ q = ad k) ∨ s.heap.size ≤ q) hsf ht hgea
  obtain ⟨tT, hT1, hT2⟩ := tab_STARTS (A := fun q => (∃ k, k < 85 ∧ q = ad k) ∨ s.heap.size ≤ q) hsf ht hgea
  obtain ⟨dC, dI, hKc⟩ : ∃ (dC : Nat → ClassId) (dI : Nat → Nat → Nat), ∀ (k : Nat) (q : vw_C), vwCl[k]? = some q → u_Kn s q.1 q.2.1 q.2.2 (dC k) (dI k) := by
    refine ⟨fun k => [c0, c1, c2, c3, c4, c5, c6, c7].getD k 0, fun k => [i0, i1, i2, i3, i4, i5, i6, i7].getD k (fun _ => 0), ?_⟩
    intro k q hq
    match k, hq with
    | 0, hq => cases hq; exact hKn0
    | 1, hq => cases hq; exact hKn1
    | 2, hq => cases hq; exact hKn2
    | 3, hq => cases hq; exact hKn3
    | 4, hq => cases hq; exact hKn4
    | 5, hq => cases hq; exact hKn5
    | 6, hq => cases hq; exact hKn6
    | 7, hq => cases hq; exact hKn7
    | k + 8, hq => simp [vwCl] at hq
  obtain ⟨G, hG⟩ : ∃ G : Gw, G = ((dC, dI), ad, (cI, cJ, cZ, cP), (tS, tT)) := ⟨_, rfl⟩
  have hK : va_K G.1 vwCl (tyG G) s := by
    subst hG
    refine ⟨hKc, fun k q hq => ?_⟩
    match k, hq with
    | 0, hq => cases hq; exact ⟨hI1, hI2⟩
    | 1, hq => cases hq; exact ⟨hJ1, hJ2⟩
    | 2, hq => cases hq; exact ⟨hZ1, hZ2⟩
    | 3, hq => cases hq; exact ⟨hP1, hP2⟩
    | k + 4, hq => simp [tyG] at hq
  have hSt : StA G (AW G s.heap.size) s s.heap := by
    subst hG
    exact ⟨⟨⟨hS1, hS2⟩, ⟨hT1, hT2⟩⟩, fun w hw => va_Nw.of (nestA_on w hw) (ht w (nestA_in w hw))⟩
  have hG0 : G.2.1 0 = s.heap.size := by
    subst hG
    exact hAd0 0
  have hAd : ∀ k, k < 85 → G.2.1 k = G.2.1 0 + off k := fun k _ => by
    rw [hG0]
    subst hG
    exact hAd0 k
  have hge : ∀ q, AW G s.heap.size q → s.heap.size ≤ q := fun q hq => by
    rcases hq with ⟨k, h1, rfl⟩ | h1
    · rw [hAd k h1, hG0]
      exact Nat.le_add_right _ _
    · exact h1
  have hs0 : G.2.1 0 ≤ s.heap.size := by rw [hG0]; exact Nat.le_refl _
  clear hG
  have hw : Wc G s 0 z_0 s.heap [] := ⟨by rw [hG0]; rfl, fun k q h => by simp [WG] at h, va_S.rf, fun _ _ _ _ => ⟨rfl, rfl⟩⟩
  have hl := lv_entry ([.ref b]) (n := 4) (Nat.le_of_ble_eq_true rfl)
  rw [lg_entry_eq]
  generalize (lg_sl ([.ref b]) ++ List.replicate (4 - (lg_sl ([.ref b])).length) Slot.unset).toArray = ls at hl ⊢
  have hl : lv_has ls 4 [(0, .ref b)] := hl
  refine m_cnew (n := 0) (N := 8) (ci := 0) (C := "RecipePlans") (T := T_RP) hx hb hts (fun _ h9 => List.mem_cons_of_mem _ (inT_RP _ h9)) ty_RP tyok_RP hown (hts _ (List.mem_cons_of_mem _ tw_44)) (hts _ (List.mem_cons_of_mem _ tw_45)) (hts _ (List.mem_cons_of_mem _ tw_34)) hK hw hs0 (by decide) rfl (by decide) rfl df_RP (Nat.le_of_ble_eq_true rfl) (Nat.le_of_ble_eq_true rfl) d_Lw_0 (fun H hw => ?_)
  refine lv_dup hx hb d_Lw_3 rfl ?_
  refine m_ccall (n1 := 68) (μ1 := z_39) (va_runI (As := []) (rest := [.ref (G.2.1 0 + 0)]) ⟨hx, hb, hml, hown, hts⟩ (k_RP_init l G) (cwI 0 hts (gd0 tw_48) rfl rfl rfl (hts _ (List.mem_cons_of_mem _ tw_34)) (hts _ (List.mem_cons_of_mem _ tw_46)) (hts _ (List.mem_cons_of_mem _ tw_47)) rfl (by decide +kernel) ⟨Nat.le_of_ble_eq_true rfl, Nat.le_of_ble_eq_true rfl⟩) (m_cpre hK hO hw) rfl rfl hl.1 rfl (lv_room (Nat.le_of_ble_eq_true rfl)) d_Lw_4 ⟨Nat.le_of_ble_eq_true rfl, Nat.le_of_ble_eq_true rfl⟩) hs0 hw (fun H locs hw => ?_)
  refine lv_astore_n (lv' := [(1, .ref (G.2.1 0 + 0)), (0, .ref b)]) hx hb d_Lw_7 rfl hl (by decide) rfl (fun ls hl => ?_)
  refine m_cnew (n := 68) (N := 24) (ci := 7) (C := "RecipePlansModel") (T := T_Mo) hx hb hts (fun _ h9 => List.mem_cons_of_mem _ (inT_Mo _ h9)) ty_Mo tyok_Mo hown (hts _ (List.mem_cons_of_mem _ tw_447)) (hts _ (List.mem_cons_of_mem _ tw_448)) (hts _ (List.mem_cons_of_mem _ tw_41)) hK hw hs0 (by decide) rfl (by decide) rfl df_Mo (Nat.le_of_ble_eq_true rfl) (Nat.le_of_ble_eq_true rfl) d_Lw_8 (fun H hw => ?_)
  refine lv_dup hx hb d_Lw_11 rfl ?_
  refine m_ccall (n1 := 85) (μ1 := z_56) (va_runI (As := []) (rest := [.ref (G.2.1 0 + 68)]) ⟨hx, hb, hml, hown, hts⟩ (k_Mo_init l G) (cwI 0 hts (gd0 tw_451) rfl rfl rfl (hts _ (List.mem_cons_of_mem _ tw_41)) (hts _ (List.mem_cons_of_mem _ tw_449)) (hts _ (List.mem_cons_of_mem _ tw_450)) rfl (by decide +kernel) ⟨Nat.le_of_ble_eq_true rfl, Nat.le_of_ble_eq_true rfl⟩) (m_cpre hK hO hw) rfl rfl hl.1 rfl (lv_room (Nat.le_of_ble_eq_true rfl)) d_Lw_12 ⟨Nat.le_of_ble_eq_true rfl, Nat.le_of_ble_eq_true rfl⟩) hs0 hw (fun H locs hw => ?_)
  refine lv_astore_n (lv' := [(2, .ref (G.2.1 0 + 68)), (1, .ref (G.2.1 0 + 0)), (0, .ref b)]) hx hb d_Lw_15 rfl hl (by decide) rfl (fun ls hl => ?_)
  refine lv_iconst (v := 0) hx hb d_Lw_16 (by decide) ?_
  refine lv_istore_n (lv' := [(3, .int (nI 0)), (2, .ref (G.2.1 0 + 68)), (1, .ref (G.2.1 0 + 0)), (0, .ref b)]) hx hb d_Lw_17 rfl hl (by decide) rfl (fun ls hl => ?_)
  have e7 : G.2.1 0 + 68 = G.2.1 7 := (hAd 7 (by decide)).symm
  have e0 : G.2.1 0 + 0 = G.2.1 0 := rfl
  rw [e7, e0] at hl
  refine W.cs (cells' := 85) (slots' := 1649) rfl rfl ?_
  exact law_loop ⟨hx, hb, hr, hml, hown, hts, hlk, hK, hSt, hX, hbl, fun h => absurd (hge b h) (Nat.not_le.mpr hbl), hL⟩ hge ho (L + 1) 0 z_56 _ _ ls (Nat.zero_le L) (by omega) hI (wc_wk hAd hG0.symm hw) (lv_sub hl [3, 2, 1, 0] rfl)
