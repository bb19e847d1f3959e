-- ===== PART A: goes FIRST, ahead of the names: the tables' words, and 'selects' of the private methods out of them =====
/-- a private method of a class that the tables say can be made, by its rows of tables_1 -/
def lw_okq (q : MethodName × Nat) : Prop := (q.1.cls ≠ "java/lang/invoke/MethodHandle" ∧ q.1.cls ≠ "java/lang/invoke/VarHandle") ∧ Cond.instantiable q.1.cls q.2 ∈ tables_1 ∧ Cond.privateMethod q.1 ∈ tables_1 ∧ Cond.instanceMethod q.1 ∈ tables_1
theorem lw_p0 : lw_okq (⟨"RecipePlans$Sides", "fill", "([J[JLRecipePlans$Rules;I)V"⟩, 3) := ⟨⟨by decide +kernel, by decide +kernel⟩, List.mem_of_getElem? (i := 87) (by decide +kernel), List.mem_of_getElem? (i := 326) (by decide +kernel), List.mem_of_getElem? (i := 327) (by decide +kernel)⟩
theorem lw_p1 : lw_okq (⟨"RecipePlans$CutSearch", "begin", "()V"⟩, 13) := ⟨⟨by decide +kernel, by decide +kernel⟩, List.mem_of_getElem? (i := 109) (by decide +kernel), List.mem_of_getElem? (i := 334) (by decide +kernel), List.mem_of_getElem? (i := 335) (by decide +kernel)⟩
theorem lw_p2 : lw_okq (⟨"RecipePlans$CutSearch", "tighten", "(II)V"⟩, 13) := ⟨⟨by decide +kernel, by decide +kernel⟩, List.mem_of_getElem? (i := 109) (by decide +kernel), List.mem_of_getElem? (i := 342) (by decide +kernel), List.mem_of_getElem? (i := 343) (by decide +kernel)⟩
theorem lw_p3 : lw_okq (⟨"RecipePlans$CutSearch", "visitCorners", "(I)V"⟩, 13) := ⟨⟨by decide +kernel, by decide +kernel⟩, List.mem_of_getElem? (i := 109) (by decide +kernel), List.mem_of_getElem? (i := 346) (by decide +kernel), List.mem_of_getElem? (i := 347) (by decide +kernel)⟩
theorem lw_p4 : lw_okq (⟨"RecipePlans$CutSearch", "meets", "([JII)Z"⟩, 13) := ⟨⟨by decide +kernel, by decide +kernel⟩, List.mem_of_getElem? (i := 109) (by decide +kernel), List.mem_of_getElem? (i := 354) (by decide +kernel), List.mem_of_getElem? (i := 355) (by decide +kernel)⟩
theorem lw_p5 : lw_okq (⟨"RecipePlans$CutSearch", "replaced", "([JIII)J"⟩, 13) := ⟨⟨by decide +kernel, by decide +kernel⟩, List.mem_of_getElem? (i := 109) (by decide +kernel), List.mem_of_getElem? (i := 360) (by decide +kernel), List.mem_of_getElem? (i := 361) (by decide +kernel)⟩
theorem lw_p6 : lw_okq (⟨"RecipePlans$CutSearch", "weigh", "()V"⟩, 13) := ⟨⟨by decide +kernel, by decide +kernel⟩, List.mem_of_getElem? (i := 109) (by decide +kernel), List.mem_of_getElem? (i := 371) (by decide +kernel), List.mem_of_getElem? (i := 372) (by decide +kernel)⟩
theorem lw_p7 : lw_okq (⟨"RecipePlans$CutSearch", "add", "(I[J)Z"⟩, 13) := ⟨⟨by decide +kernel, by decide +kernel⟩, List.mem_of_getElem? (i := 109) (by decide +kernel), List.mem_of_getElem? (i := 397) (by decide +kernel), List.mem_of_getElem? (i := 398) (by decide +kernel)⟩
theorem lw_p8 : lw_okq (⟨"RecipePlans$CutSearch", "addBoth", "(II)Z"⟩, 13) := ⟨⟨by decide +kernel, by decide +kernel⟩, List.mem_of_getElem? (i := 109) (by decide +kernel), List.mem_of_getElem? (i := 404) (by decide +kernel), List.mem_of_getElem? (i := 405) (by decide +kernel)⟩
theorem lw_p9 : lw_okq (⟨"RecipePlans$WholeSearch", "begin", "()V"⟩, 9) := ⟨⟨by decide +kernel, by decide +kernel⟩, List.mem_of_getElem? (i := 161) (by decide +kernel), List.mem_of_getElem? (i := 412) (by decide +kernel), List.mem_of_getElem? (i := 413) (by decide +kernel)⟩
theorem lw_p10 : lw_okq (⟨"RecipePlans$WholeSearch", "place", "(IJ)V"⟩, 9) := ⟨⟨by decide +kernel, by decide +kernel⟩, List.mem_of_getElem? (i := 161) (by decide +kernel), List.mem_of_getElem? (i := 422) (by decide +kernel), List.mem_of_getElem? (i := 423) (by decide +kernel)⟩
theorem lw_p11 : lw_okq (⟨"RecipePlans$WholeSearch", "mostLoads", "(I)I"⟩, 9) := ⟨⟨by decide +kernel, by decide +kernel⟩, List.mem_of_getElem? (i := 161) (by decide +kernel), List.mem_of_getElem? (i := 426) (by decide +kernel), List.mem_of_getElem? (i := 427) (by decide +kernel)⟩
theorem lw_p12 : lw_okq (⟨"RecipePlans$WholeSearch", "fewestLoads", "(I)I"⟩, 9) := ⟨⟨by decide +kernel, by decide +kernel⟩, List.mem_of_getElem? (i := 161) (by decide +kernel), List.mem_of_getElem? (i := 432) (by decide +kernel), List.mem_of_getElem? (i := 433) (by decide +kernel)⟩
theorem lw_p13 : lw_okq (⟨"RecipePlans$WholeSearch", "take", "(IIJ)V"⟩, 9) := ⟨⟨by decide +kernel, by decide +kernel⟩, List.mem_of_getElem? (i := 161) (by decide +kernel), List.mem_of_getElem? (i := 437) (by decide +kernel), List.mem_of_getElem? (i := 438) (by decide +kernel)⟩
theorem lw_p14 : lw_okq (⟨"RecipePlans$WholeSearch", "offer", "(J)V"⟩, 9) := ⟨⟨by decide +kernel, by decide +kernel⟩, List.mem_of_getElem? (i := 161) (by decide +kernel), List.mem_of_getElem? (i := 441) (by decide +kernel), List.mem_of_getElem? (i := 442) (by decide +kernel)⟩
theorem lw_p15 : lw_okq (⟨"RecipePlans$CutSearch", "allBreak", "(I)Z"⟩, 13) := ⟨⟨by decide +kernel, by decide +kernel⟩, List.mem_of_getElem? (i := 109) (by decide +kernel), List.mem_of_getElem? (i := 460) (by decide +kernel), List.mem_of_getElem? (i := 461) (by decide +kernel)⟩
def lw_privs_1 : List (MethodName × Nat) := [(⟨"RecipePlans$Sides", "fill", "([J[JLRecipePlans$Rules;I)V"⟩, 3), (⟨"RecipePlans$CutSearch", "begin", "()V"⟩, 13), (⟨"RecipePlans$CutSearch", "tighten", "(II)V"⟩, 13), (⟨"RecipePlans$CutSearch", "visitCorners", "(I)V"⟩, 13), (⟨"RecipePlans$CutSearch", "meets", "([JII)Z"⟩, 13), (⟨"RecipePlans$CutSearch", "replaced", "([JIII)J"⟩, 13), (⟨"RecipePlans$CutSearch", "weigh", "()V"⟩, 13), (⟨"RecipePlans$CutSearch", "add", "(I[J)Z"⟩, 13), (⟨"RecipePlans$CutSearch", "addBoth", "(II)Z"⟩, 13), (⟨"RecipePlans$WholeSearch", "begin", "()V"⟩, 9), (⟨"RecipePlans$WholeSearch", "place", "(IJ)V"⟩, 9), (⟨"RecipePlans$WholeSearch", "mostLoads", "(I)I"⟩, 9), (⟨"RecipePlans$WholeSearch", "fewestLoads", "(I)I"⟩, 9), (⟨"RecipePlans$WholeSearch", "take", "(IIJ)V"⟩, 9), (⟨"RecipePlans$WholeSearch", "offer", "(J)V"⟩, 9), (⟨"RecipePlans$CutSearch", "allBreak", "(I)Z"⟩, 13)]
theorem lw_r1 : ∀ q ∈ lw_privs_1, lw_okq q := List.forall_mem_cons.mpr ⟨lw_p0, List.forall_mem_cons.mpr ⟨lw_p1, List.forall_mem_cons.mpr ⟨lw_p2, List.forall_mem_cons.mpr ⟨lw_p3, List.forall_mem_cons.mpr ⟨lw_p4, List.forall_mem_cons.mpr ⟨lw_p5, List.forall_mem_cons.mpr ⟨lw_p6, List.forall_mem_cons.mpr ⟨lw_p7, List.forall_mem_cons.mpr ⟨lw_p8, List.forall_mem_cons.mpr ⟨lw_p9, List.forall_mem_cons.mpr ⟨lw_p10, List.forall_mem_cons.mpr ⟨lw_p11, List.forall_mem_cons.mpr ⟨lw_p12, List.forall_mem_cons.mpr ⟨lw_p13, List.forall_mem_cons.mpr ⟨lw_p14, List.forall_mem_cons.mpr ⟨lw_p15, fun _ h => absurd h List.not_mem_nil⟩⟩⟩⟩⟩⟩⟩⟩⟩⟩⟩⟩⟩⟩⟩⟩
theorem lw_p16 : lw_okq (⟨"RecipePlansModel", "tell", "(III)Z"⟩, 24) := ⟨⟨by decide +kernel, by decide +kernel⟩, List.mem_of_getElem? (i := 497) (by decide +kernel), List.mem_of_getElem? (i := 601) (by decide +kernel), List.mem_of_getElem? (i := 602) (by decide +kernel)⟩
theorem lw_p17 : lw_okq (⟨"RecipePlansModel", "firstBroken", "()I"⟩, 24) := ⟨⟨by decide +kernel, by decide +kernel⟩, List.mem_of_getElem? (i := 497) (by decide +kernel), List.mem_of_getElem? (i := 622) (by decide +kernel), List.mem_of_getElem? (i := 623) (by decide +kernel)⟩
theorem lw_p18 : lw_okq (⟨"RecipePlansModel", "keeps", "(I)Z"⟩, 24) := ⟨⟨by decide +kernel, by decide +kernel⟩, List.mem_of_getElem? (i := 497) (by decide +kernel), List.mem_of_getElem? (i := 626) (by decide +kernel), List.mem_of_getElem? (i := 627) (by decide +kernel)⟩
theorem lw_p19 : lw_okq (⟨"RecipePlansModel", "holds", "(I)I"⟩, 24) := ⟨⟨by decide +kernel, by decide +kernel⟩, List.mem_of_getElem? (i := 497) (by decide +kernel), List.mem_of_getElem? (i := 630) (by decide +kernel), List.mem_of_getElem? (i := 631) (by decide +kernel)⟩
theorem lw_p20 : lw_okq (⟨"RecipePlansModel", "findWhole", "()Z"⟩, 24) := ⟨⟨by decide +kernel, by decide +kernel⟩, List.mem_of_getElem? (i := 497) (by decide +kernel), List.mem_of_getElem? (i := 638) (by decide +kernel), List.mem_of_getElem? (i := 639) (by decide +kernel)⟩
theorem lw_p21 : lw_okq (⟨"RecipePlansModel", "setLimits", "()V"⟩, 24) := ⟨⟨by decide +kernel, by decide +kernel⟩, List.mem_of_getElem? (i := 497) (by decide +kernel), List.mem_of_getElem? (i := 642) (by decide +kernel), List.mem_of_getElem? (i := 643) (by decide +kernel)⟩
theorem lw_p22 : lw_okq (⟨"RecipePlansModel", "setLimit", "(IIZ)V"⟩, 24) := ⟨⟨by decide +kernel, by decide +kernel⟩, List.mem_of_getElem? (i := 497) (by decide +kernel), List.mem_of_getElem? (i := 646) (by decide +kernel), List.mem_of_getElem? (i := 647) (by decide +kernel)⟩
theorem lw_p23 : lw_okq (⟨"RecipePlansModel", "lookAtCorners", "()V"⟩, 24) := ⟨⟨by decide +kernel, by decide +kernel⟩, List.mem_of_getElem? (i := 497) (by decide +kernel), List.mem_of_getElem? (i := 650) (by decide +kernel), List.mem_of_getElem? (i := 651) (by decide +kernel)⟩
theorem lw_p24 : lw_okq (⟨"RecipePlansModel", "lookAtCorner", "()V"⟩, 24) := ⟨⟨by decide +kernel, by decide +kernel⟩, List.mem_of_getElem? (i := 497) (by decide +kernel), List.mem_of_getElem? (i := 654) (by decide +kernel), List.mem_of_getElem? (i := 655) (by decide +kernel)⟩
theorem lw_p25 : lw_okq (⟨"RecipePlansModel", "meet", "()Z"⟩, 24) := ⟨⟨by decide +kernel, by decide +kernel⟩, List.mem_of_getElem? (i := 497) (by decide +kernel), List.mem_of_getElem? (i := 658) (by decide +kernel), List.mem_of_getElem? (i := 659) (by decide +kernel)⟩
theorem lw_p26 : lw_okq (⟨"RecipePlansModel", "determinant", "(I)J"⟩, 24) := ⟨⟨by decide +kernel, by decide +kernel⟩, List.mem_of_getElem? (i := 497) (by decide +kernel), List.mem_of_getElem? (i := 662) (by decide +kernel), List.mem_of_getElem? (i := 663) (by decide +kernel)⟩
theorem lw_p27 : lw_okq (⟨"RecipePlansModel", "minor", "(IIIII)J"⟩, 24) := ⟨⟨by decide +kernel, by decide +kernel⟩, List.mem_of_getElem? (i := 497) (by decide +kernel), List.mem_of_getElem? (i := 666) (by decide +kernel), List.mem_of_getElem? (i := 667) (by decide +kernel)⟩
theorem lw_p28 : lw_okq (⟨"RecipePlansModel", "at", "(III)J"⟩, 24) := ⟨⟨by decide +kernel, by decide +kernel⟩, List.mem_of_getElem? (i := 497) (by decide +kernel), List.mem_of_getElem? (i := 670) (by decide +kernel), List.mem_of_getElem? (i := 671) (by decide +kernel)⟩
theorem lw_p29 : lw_okq (⟨"RecipePlansModel", "keptRules", "()I"⟩, 24) := ⟨⟨by decide +kernel, by decide +kernel⟩, List.mem_of_getElem? (i := 497) (by decide +kernel), List.mem_of_getElem? (i := 677) (by decide +kernel), List.mem_of_getElem? (i := 678) (by decide +kernel)⟩
theorem lw_p30 : lw_okq (⟨"RecipePlansModel", "isKept", "(I)Z"⟩, 24) := ⟨⟨by decide +kernel, by decide +kernel⟩, List.mem_of_getElem? (i := 497) (by decide +kernel), List.mem_of_getElem? (i := 681) (by decide +kernel), List.mem_of_getElem? (i := 682) (by decide +kernel)⟩
theorem lw_p31 : lw_okq (⟨"RecipePlansModel", "findClash", "()V"⟩, 24) := ⟨⟨by decide +kernel, by decide +kernel⟩, List.mem_of_getElem? (i := 497) (by decide +kernel), List.mem_of_getElem? (i := 689) (by decide +kernel), List.mem_of_getElem? (i := 690) (by decide +kernel)⟩
def lw_privs_2 : List (MethodName × Nat) := [(⟨"RecipePlansModel", "tell", "(III)Z"⟩, 24), (⟨"RecipePlansModel", "firstBroken", "()I"⟩, 24), (⟨"RecipePlansModel", "keeps", "(I)Z"⟩, 24), (⟨"RecipePlansModel", "holds", "(I)I"⟩, 24), (⟨"RecipePlansModel", "findWhole", "()Z"⟩, 24), (⟨"RecipePlansModel", "setLimits", "()V"⟩, 24), (⟨"RecipePlansModel", "setLimit", "(IIZ)V"⟩, 24), (⟨"RecipePlansModel", "lookAtCorners", "()V"⟩, 24), (⟨"RecipePlansModel", "lookAtCorner", "()V"⟩, 24), (⟨"RecipePlansModel", "meet", "()Z"⟩, 24), (⟨"RecipePlansModel", "determinant", "(I)J"⟩, 24), (⟨"RecipePlansModel", "minor", "(IIIII)J"⟩, 24), (⟨"RecipePlansModel", "at", "(III)J"⟩, 24), (⟨"RecipePlansModel", "keptRules", "()I"⟩, 24), (⟨"RecipePlansModel", "isKept", "(I)Z"⟩, 24), (⟨"RecipePlansModel", "findClash", "()V"⟩, 24)]
theorem lw_r2 : ∀ q ∈ lw_privs_2, lw_okq q := List.forall_mem_cons.mpr ⟨lw_p16, List.forall_mem_cons.mpr ⟨lw_p17, List.forall_mem_cons.mpr ⟨lw_p18, List.forall_mem_cons.mpr ⟨lw_p19, List.forall_mem_cons.mpr ⟨lw_p20, List.forall_mem_cons.mpr ⟨lw_p21, List.forall_mem_cons.mpr ⟨lw_p22, List.forall_mem_cons.mpr ⟨lw_p23, List.forall_mem_cons.mpr ⟨lw_p24, List.forall_mem_cons.mpr ⟨lw_p25, List.forall_mem_cons.mpr ⟨lw_p26, List.forall_mem_cons.mpr ⟨lw_p27, List.forall_mem_cons.mpr ⟨lw_p28, List.forall_mem_cons.mpr ⟨lw_p29, List.forall_mem_cons.mpr ⟨lw_p30, List.forall_mem_cons.mpr ⟨lw_p31, fun _ h => absurd h List.not_mem_nil⟩⟩⟩⟩⟩⟩⟩⟩⟩⟩⟩⟩⟩⟩⟩⟩
theorem lw_p32 : lw_okq (⟨"RecipePlansModel", "canBeKept", "(I)Z"⟩, 24) := ⟨⟨by decide +kernel, by decide +kernel⟩, List.mem_of_getElem? (i := 497) (by decide +kernel), List.mem_of_getElem? (i := 696) (by decide +kernel), List.mem_of_getElem? (i := 697) (by decide +kernel)⟩
def lw_privs_3 : List (MethodName × Nat) := [(⟨"RecipePlansModel", "canBeKept", "(I)Z"⟩, 24)]
theorem lw_r3 : ∀ q ∈ lw_privs_3, lw_okq q := List.forall_mem_cons.mpr ⟨lw_p32, fun _ h => absurd h List.not_mem_nil⟩
def lw_privs : List (MethodName × Nat) := lw_privs_1 ++ (lw_privs_2 ++ (lw_privs_3))
def lw_tbl : List Cond := k2_sels lw_privs ++ tables_1
theorem lw_privs_ok : ∀ q ∈ lw_privs, lw_okq q := by
  show ∀ q ∈ lw_privs_1 ++ (lw_privs_2 ++ (lw_privs_3)), lw_okq q
  exact List.forall_mem_append.mpr ⟨lw_r1, List.forall_mem_append.mpr ⟨lw_r2, lw_r3⟩⟩
-- ===== end of PART A
/-- the words of the tables that the walks use -/
def wsAll : List Cond := [.selects "RecipePlans$Sides" ⟨"RecipePlans$Sides", "fill", "([J[JLRecipePlans$Rules;I)V"⟩ ⟨"RecipePlans$Sides", "fill", "([J[JLRecipePlans$Rules;I)V"⟩,
  .selects "RecipePlans$CutSearch" ⟨"RecipePlans$CutSearch", "begin", "()V"⟩ ⟨"RecipePlans$CutSearch", "begin", "()V"⟩,
  .selects "RecipePlans$CutSearch" ⟨"RecipePlans$CutSearch", "tighten", "(II)V"⟩ ⟨"RecipePlans$CutSearch", "tighten", "(II)V"⟩,
  .selects "RecipePlans$CutSearch" ⟨"RecipePlans$CutSearch", "visitCorners", "(I)V"⟩ ⟨"RecipePlans$CutSearch", "visitCorners", "(I)V"⟩,
  .selects "RecipePlans$CutSearch" ⟨"RecipePlans$CutSearch", "meets", "([JII)Z"⟩ ⟨"RecipePlans$CutSearch", "meets", "([JII)Z"⟩,
  .selects "RecipePlans$CutSearch" ⟨"RecipePlans$CutSearch", "replaced", "([JIII)J"⟩ ⟨"RecipePlans$CutSearch", "replaced", "([JIII)J"⟩,
  .selects "RecipePlans$CutSearch" ⟨"RecipePlans$CutSearch", "weigh", "()V"⟩ ⟨"RecipePlans$CutSearch", "weigh", "()V"⟩,
  .selects "RecipePlans$CutSearch" ⟨"RecipePlans$CutSearch", "add", "(I[J)Z"⟩ ⟨"RecipePlans$CutSearch", "add", "(I[J)Z"⟩,
  .selects "RecipePlans$CutSearch" ⟨"RecipePlans$CutSearch", "addBoth", "(II)Z"⟩ ⟨"RecipePlans$CutSearch", "addBoth", "(II)Z"⟩,
  .selects "RecipePlans$WholeSearch" ⟨"RecipePlans$WholeSearch", "begin", "()V"⟩ ⟨"RecipePlans$WholeSearch", "begin", "()V"⟩,
  .selects "RecipePlans$WholeSearch" ⟨"RecipePlans$WholeSearch", "place", "(IJ)V"⟩ ⟨"RecipePlans$WholeSearch", "place", "(IJ)V"⟩,
  .selects "RecipePlans$WholeSearch" ⟨"RecipePlans$WholeSearch", "mostLoads", "(I)I"⟩ ⟨"RecipePlans$WholeSearch", "mostLoads", "(I)I"⟩,
  .selects "RecipePlans$WholeSearch" ⟨"RecipePlans$WholeSearch", "fewestLoads", "(I)I"⟩ ⟨"RecipePlans$WholeSearch", "fewestLoads", "(I)I"⟩,
  .selects "RecipePlans$WholeSearch" ⟨"RecipePlans$WholeSearch", "take", "(IIJ)V"⟩ ⟨"RecipePlans$WholeSearch", "take", "(IIJ)V"⟩,
  .selects "RecipePlans$WholeSearch" ⟨"RecipePlans$WholeSearch", "offer", "(J)V"⟩ ⟨"RecipePlans$WholeSearch", "offer", "(J)V"⟩,
  .selects "RecipePlans$CutSearch" ⟨"RecipePlans$CutSearch", "allBreak", "(I)Z"⟩ ⟨"RecipePlans$CutSearch", "allBreak", "(I)Z"⟩,
  .selects "RecipePlansModel" ⟨"RecipePlansModel", "tell", "(III)Z"⟩ ⟨"RecipePlansModel", "tell", "(III)Z"⟩,
  .selects "RecipePlansModel" ⟨"RecipePlansModel", "firstBroken", "()I"⟩ ⟨"RecipePlansModel", "firstBroken", "()I"⟩,
  .selects "RecipePlansModel" ⟨"RecipePlansModel", "keeps", "(I)Z"⟩ ⟨"RecipePlansModel", "keeps", "(I)Z"⟩,
  .selects "RecipePlansModel" ⟨"RecipePlansModel", "holds", "(I)I"⟩ ⟨"RecipePlansModel", "holds", "(I)I"⟩,
  .selects "RecipePlansModel" ⟨"RecipePlansModel", "findWhole", "()Z"⟩ ⟨"RecipePlansModel", "findWhole", "()Z"⟩,
  .selects "RecipePlansModel" ⟨"RecipePlansModel", "setLimits", "()V"⟩ ⟨"RecipePlansModel", "setLimits", "()V"⟩,
  .selects "RecipePlansModel" ⟨"RecipePlansModel", "setLimit", "(IIZ)V"⟩ ⟨"RecipePlansModel", "setLimit", "(IIZ)V"⟩,
  .selects "RecipePlansModel" ⟨"RecipePlansModel", "lookAtCorners", "()V"⟩ ⟨"RecipePlansModel", "lookAtCorners", "()V"⟩,
  .selects "RecipePlansModel" ⟨"RecipePlansModel", "lookAtCorner", "()V"⟩ ⟨"RecipePlansModel", "lookAtCorner", "()V"⟩,
  .selects "RecipePlansModel" ⟨"RecipePlansModel", "meet", "()Z"⟩ ⟨"RecipePlansModel", "meet", "()Z"⟩,
  .selects "RecipePlansModel" ⟨"RecipePlansModel", "determinant", "(I)J"⟩ ⟨"RecipePlansModel", "determinant", "(I)J"⟩,
  .selects "RecipePlansModel" ⟨"RecipePlansModel", "minor", "(IIIII)J"⟩ ⟨"RecipePlansModel", "minor", "(IIIII)J"⟩,
  .selects "RecipePlansModel" ⟨"RecipePlansModel", "at", "(III)J"⟩ ⟨"RecipePlansModel", "at", "(III)J"⟩,
  .selects "RecipePlansModel" ⟨"RecipePlansModel", "keptRules", "()I"⟩ ⟨"RecipePlansModel", "keptRules", "()I"⟩,
  .selects "RecipePlansModel" ⟨"RecipePlansModel", "isKept", "(I)Z"⟩ ⟨"RecipePlansModel", "isKept", "(I)Z"⟩,
  .selects "RecipePlansModel" ⟨"RecipePlansModel", "findClash", "()V"⟩ ⟨"RecipePlansModel", "findClash", "()V"⟩,
  .selects "RecipePlansModel" ⟨"RecipePlansModel", "canBeKept", "(I)Z"⟩ ⟨"RecipePlansModel", "canBeKept", "(I)Z"⟩,
  .initialized "RecipePlansLaw",
  .initialized "RecipePlans",
  .initialized "RecipePlans$Lots",
  .initialized "RecipePlans$Rules",
  .initialized "RecipePlans$Sides",
  .initialized "RecipePlans$CutSearch",
  .initialized "RecipePlans$WholeSearch",
  .initialized "RecipePlans$Found",
  .initialized "RecipePlansModel",
  .initialized "java/lang/Integer",
  .initialized "java/lang/Math",
  .classLink "RecipePlansLaw" 7 "RecipePlans",
  .instantiable "RecipePlans" 8,
  .methodLink "RecipePlansLaw" 9 ⟨"RecipePlans", "<init>", "()V"⟩,
  .instanceMethod ⟨"RecipePlans", "<init>", "()V"⟩,
  .code ⟨"RecipePlans", "<init>", "()V"⟩ prog_1_method_1_code 1 none,
  .methodLink "RecipePlans" 3 ⟨"java/lang/Object", "<init>", "()V"⟩,
  .instanceMethod ⟨"java/lang/Object", "<init>", "()V"⟩,
  .code ⟨"java/lang/Object", "<init>", "()V"⟩ object_method_1_code 1 none,
  .classLink "RecipePlans" 9 "RecipePlans$Lots",
  .instantiable "RecipePlans$Lots" 4,
  .methodLink "RecipePlans" 11 ⟨"RecipePlans$Lots", "<init>", "()V"⟩,
  .instanceMethod ⟨"RecipePlans$Lots", "<init>", "()V"⟩,
  .code ⟨"RecipePlans$Lots", "<init>", "()V"⟩ prog_4_method_1_code 2 none,
  .methodLink "RecipePlans$Lots" 3 ⟨"java/lang/Object", "<init>", "()V"⟩,
  .classLink "RecipePlans$Lots" 19 "[[J",
  .fieldLink "RecipePlans" 62 "RecipePlans$Lots" "count" "I",
  .fieldLink "RecipePlans$Lots" 9 "RecipePlans$Lots" "stock" "[I",
  .fieldLink "RecipePlans" 76 "RecipePlans$Lots" "stock" "[I",
  .fieldLink "RecipePlans$WholeSearch" 67 "RecipePlans$Lots" "stock" "[I",
  .fieldLink "RecipePlans$CutSearch" 136 "RecipePlans$Lots" "stock" "[I",
  .fieldLink "RecipePlans$Lots" 15 "RecipePlans$Lots" "cents" "[J",
  .fieldLink "RecipePlans" 80 "RecipePlans$Lots" "cents" "[J",
  .fieldLink "RecipePlans$WholeSearch" 62 "RecipePlans$Lots" "cents" "[J",
  .fieldLink "RecipePlans$Lots" 21 "RecipePlans$Lots" "forms" "[[J",
  .fieldLink "RecipePlans$Sides" 30 "RecipePlans$Lots" "forms" "[[J",
  .fieldLink "RecipePlans" 91 "RecipePlans$Lots" "forms" "[[J",
  .fieldLink "RecipePlans$CutSearch" 108 "RecipePlans$Lots" "forms" "[[J",
  .lays "RecipePlans$Lots" "RecipePlans$Lots" "count" "I",
  .laysFinal "RecipePlans$Lots" "RecipePlans$Lots" "stock" "[I",
  .laysFinal "RecipePlans$Lots" "RecipePlans$Lots" "cents" "[J",
  .laysFinal "RecipePlans$Lots" "RecipePlans$Lots" "forms" "[[J",
  .arrayClass .int,
  .arrayClass .long,
  .classLink "RecipePlans" 16 "RecipePlans$Rules",
  .instantiable "RecipePlans$Rules" 6,
  .methodLink "RecipePlans" 18 ⟨"RecipePlans$Rules", "<init>", "()V"⟩,
  .instanceMethod ⟨"RecipePlans$Rules", "<init>", "()V"⟩,
  .code ⟨"RecipePlans$Rules", "<init>", "()V"⟩ prog_5_method_1_code 1 none,
  .methodLink "RecipePlans$Rules" 5 ⟨"java/lang/Object", "<init>", "()V"⟩,
  .fieldLink "RecipePlans$Rules" 27 "RecipePlans$Rules" "told" "I",
  .fieldLink "RecipePlans" 110 "RecipePlans$Rules" "told" "I",
  .fieldLink "RecipePlans$CutSearch" 178 "RecipePlans$Rules" "told" "I",
  .fieldLink "RecipePlans$Rules" 11 "RecipePlans$Rules" "first" "[I",
  .fieldLink "RecipePlans$Sides" 35 "RecipePlans$Rules" "first" "[I",
  .fieldLink "RecipePlans$CutSearch" 111 "RecipePlans$Rules" "first" "[I",
  .fieldLink "RecipePlans$Rules" 15 "RecipePlans$Rules" "second" "[I",
  .fieldLink "RecipePlans$Sides" 38 "RecipePlans$Rules" "second" "[I",
  .fieldLink "RecipePlans$CutSearch" 105 "RecipePlans$Rules" "second" "[I",
  .fieldLink "RecipePlans$Rules" 18 "RecipePlans$Rules" "low" "[I",
  .fieldLink "RecipePlans$Sides" 48 "RecipePlans$Rules" "low" "[I",
  .fieldLink "RecipePlans$CutSearch" 93 "RecipePlans$Rules" "low" "[I",
  .fieldLink "RecipePlans$Rules" 21 "RecipePlans$Rules" "high" "[I",
  .fieldLink "RecipePlans$Sides" 51 "RecipePlans$Rules" "high" "[I",
  .fieldLink "RecipePlans$CutSearch" 98 "RecipePlans$Rules" "high" "[I",
  .fieldLink "RecipePlans$Rules" 24 "RecipePlans$Rules" "over" "[I",
  .fieldLink "RecipePlans$Sides" 45 "RecipePlans$Rules" "over" "[I",
  .lays "RecipePlans$Rules" "RecipePlans$Rules" "told" "I",
  .laysFinal "RecipePlans$Rules" "RecipePlans$Rules" "first" "[I",
  .laysFinal "RecipePlans$Rules" "RecipePlans$Rules" "second" "[I",
  .laysFinal "RecipePlans$Rules" "RecipePlans$Rules" "low" "[I",
  .laysFinal "RecipePlans$Rules" "RecipePlans$Rules" "high" "[I",
  .laysFinal "RecipePlans$Rules" "RecipePlans$Rules" "over" "[I",
  .classLink "RecipePlans" 23 "RecipePlans$Sides",
  .instantiable "RecipePlans$Sides" 3,
  .methodLink "RecipePlans" 25 ⟨"RecipePlans$Sides", "<init>", "()V"⟩,
  .instanceMethod ⟨"RecipePlans$Sides", "<init>", "()V"⟩,
  .code ⟨"RecipePlans$Sides", "<init>", "()V"⟩ prog_6_method_1_code 1 none,
  .methodLink "RecipePlans$Sides" 3 ⟨"java/lang/Object", "<init>", "()V"⟩,
  .classLink "RecipePlans$Sides" 15 "[[J",
  .fieldLink "RecipePlans$Sides" 20 "RecipePlans$Sides" "count" "I",
  .fieldLink "RecipePlans$WholeSearch" 53 "RecipePlans$Sides" "count" "I",
  .fieldLink "RecipePlans$CutSearch" 78 "RecipePlans$Sides" "count" "I",
  .fieldLink "RecipePlans$Sides" 9 "RecipePlans$Sides" "rule" "[I",
  .fieldLink "RecipePlans$CutSearch" 83 "RecipePlans$Sides" "rule" "[I",
  .fieldLink "RecipePlans$Sides" 17 "RecipePlans$Sides" "row" "[[J",
  .fieldLink "RecipePlans$WholeSearch" 59 "RecipePlans$Sides" "row" "[[J",
  .fieldLink "RecipePlans$CutSearch" 86 "RecipePlans$Sides" "row" "[[J",
  .lays "RecipePlans$Sides" "RecipePlans$Sides" "count" "I",
  .laysFinal "RecipePlans$Sides" "RecipePlans$Sides" "rule" "[I",
  .laysFinal "RecipePlans$Sides" "RecipePlans$Sides" "row" "[[J",
  .classLink "RecipePlans" 30 "RecipePlans$CutSearch",
  .instantiable "RecipePlans$CutSearch" 13,
  .methodLink "RecipePlans" 32 ⟨"RecipePlans$CutSearch", "<init>", "(LRecipePlans$Lots;LRecipePlans$Rules;LRecipePlans$Sides;)V"⟩,
  .instanceMethod ⟨"RecipePlans$CutSearch", "<init>", "(LRecipePlans$Lots;LRecipePlans$Rules;LRecipePlans$Sides;)V"⟩,
  .code ⟨"RecipePlans$CutSearch", "<init>", "(LRecipePlans$Lots;LRecipePlans$Rules;LRecipePlans$Sides;)V"⟩ prog_2_method_1_code 4 none,
  .methodLink "RecipePlans$CutSearch" 3 ⟨"java/lang/Object", "<init>", "()V"⟩,
  .classLink "RecipePlans$CutSearch" 23 "[[J",
  .fieldLink "RecipePlans$CutSearch" 9 "RecipePlans$CutSearch" "lots" "LRecipePlans$Lots;",
  .fieldLink "RecipePlans$CutSearch" 15 "RecipePlans$CutSearch" "rules" "LRecipePlans$Rules;",
  .fieldLink "RecipePlans$CutSearch" 19 "RecipePlans$CutSearch" "sides" "LRecipePlans$Sides;",
  .fieldLink "RecipePlans$CutSearch" 25 "RecipePlans$CutSearch" "minors" "[[J",
  .fieldLink "RecipePlans$CutSearch" 28 "RecipePlans$CutSearch" "point" "[J",
  .fieldLink "RecipePlans$CutSearch" 32 "RecipePlans$CutSearch" "held" "[J",
  .fieldLink "RecipePlans$CutSearch" 35 "RecipePlans$CutSearch" "seen" "[Z",
  .fieldLink "RecipePlans$CutSearch" 39 "RecipePlans$CutSearch" "breaks" "[I",
  .fieldLink "RecipePlans$CutSearch" 50 "RecipePlans$CutSearch" "breakCount" "I",
  .fieldLink "RecipePlans$CutSearch" 71 "RecipePlans$CutSearch" "open" "I",
  .fieldLink "RecipePlans$Found" 21 "RecipePlans$CutSearch" "suits" "Z",
  .fieldLink "RecipePlans$CutSearch" 54 "RecipePlans$CutSearch" "suits" "Z",
  .fieldLink "RecipePlans" 120 "RecipePlans$CutSearch" "suits" "Z",
  .fieldLink "RecipePlans$Found" 28 "RecipePlans$CutSearch" "above" "J",
  .fieldLink "RecipePlans$CutSearch" 58 "RecipePlans$CutSearch" "above" "J",
  .fieldLink "RecipePlans$Found" 33 "RecipePlans$CutSearch" "below" "J",
  .fieldLink "RecipePlans$CutSearch" 62 "RecipePlans$CutSearch" "below" "J",
  .laysFinal "RecipePlans$CutSearch" "RecipePlans$CutSearch" "lots" "LRecipePlans$Lots;",
  .laysFinal "RecipePlans$CutSearch" "RecipePlans$CutSearch" "rules" "LRecipePlans$Rules;",
  .laysFinal "RecipePlans$CutSearch" "RecipePlans$CutSearch" "sides" "LRecipePlans$Sides;",
  .laysFinal "RecipePlans$CutSearch" "RecipePlans$CutSearch" "minors" "[[J",
  .laysFinal "RecipePlans$CutSearch" "RecipePlans$CutSearch" "point" "[J",
  .laysFinal "RecipePlans$CutSearch" "RecipePlans$CutSearch" "held" "[J",
  .laysFinal "RecipePlans$CutSearch" "RecipePlans$CutSearch" "seen" "[Z",
  .laysFinal "RecipePlans$CutSearch" "RecipePlans$CutSearch" "breaks" "[I",
  .lays "RecipePlans$CutSearch" "RecipePlans$CutSearch" "breakCount" "I",
  .lays "RecipePlans$CutSearch" "RecipePlans$CutSearch" "open" "I",
  .lays "RecipePlans$CutSearch" "RecipePlans$CutSearch" "suits" "Z",
  .lays "RecipePlans$CutSearch" "RecipePlans$CutSearch" "above" "J",
  .lays "RecipePlans$CutSearch" "RecipePlans$CutSearch" "below" "J",
  .arrayClass .boolean,
  .classLink "RecipePlans" 39 "RecipePlans$WholeSearch",
  .instantiable "RecipePlans$WholeSearch" 9,
  .methodLink "RecipePlans" 41 ⟨"RecipePlans$WholeSearch", "<init>", "(LRecipePlans$Lots;LRecipePlans$Sides;)V"⟩,
  .instanceMethod ⟨"RecipePlans$WholeSearch", "<init>", "(LRecipePlans$Lots;LRecipePlans$Sides;)V"⟩,
  .code ⟨"RecipePlans$WholeSearch", "<init>", "(LRecipePlans$Lots;LRecipePlans$Sides;)V"⟩ prog_7_method_1_code 3 none,
  .methodLink "RecipePlans$WholeSearch" 3 ⟨"java/lang/Object", "<init>", "()V"⟩,
  .classLink "RecipePlans$WholeSearch" 19 "[[J",
  .fieldLink "RecipePlans$WholeSearch" 9 "RecipePlans$WholeSearch" "lots" "LRecipePlans$Lots;",
  .fieldLink "RecipePlans$WholeSearch" 15 "RecipePlans$WholeSearch" "sides" "LRecipePlans$Sides;",
  .fieldLink "RecipePlans$WholeSearch" 21 "RecipePlans$WholeSearch" "value" "[[J",
  .fieldLink "RecipePlans$WholeSearch" 24 "RecipePlans$WholeSearch" "reach" "[[J",
  .fieldLink "RecipePlans$WholeSearch" 27 "RecipePlans$WholeSearch" "least" "[J",
  .fieldLink "RecipePlans$WholeSearch" 31 "RecipePlans$WholeSearch" "taken" "[I",
  .fieldLink "RecipePlans$WholeSearch" 38 "RecipePlans$WholeSearch" "suits" "Z",
  .fieldLink "RecipePlans$Found" 45 "RecipePlans$WholeSearch" "suits" "Z",
  .fieldLink "RecipePlans" 135 "RecipePlans$WholeSearch" "suits" "Z",
  .fieldLink "RecipePlans$WholeSearch" 42 "RecipePlans$WholeSearch" "total" "J",
  .fieldLink "RecipePlans$Found" 54 "RecipePlans$WholeSearch" "total" "J",
  .fieldLink "RecipePlans$WholeSearch" 35 "RecipePlans$WholeSearch" "mix" "[I",
  .fieldLink "RecipePlans$Found" 58 "RecipePlans$WholeSearch" "mix" "[I",
  .laysFinal "RecipePlans$WholeSearch" "RecipePlans$WholeSearch" "lots" "LRecipePlans$Lots;",
  .laysFinal "RecipePlans$WholeSearch" "RecipePlans$WholeSearch" "sides" "LRecipePlans$Sides;",
  .laysFinal "RecipePlans$WholeSearch" "RecipePlans$WholeSearch" "value" "[[J",
  .laysFinal "RecipePlans$WholeSearch" "RecipePlans$WholeSearch" "reach" "[[J",
  .laysFinal "RecipePlans$WholeSearch" "RecipePlans$WholeSearch" "least" "[J",
  .laysFinal "RecipePlans$WholeSearch" "RecipePlans$WholeSearch" "taken" "[I",
  .lays "RecipePlans$WholeSearch" "RecipePlans$WholeSearch" "suits" "Z",
  .lays "RecipePlans$WholeSearch" "RecipePlans$WholeSearch" "total" "J",
  .laysFinal "RecipePlans$WholeSearch" "RecipePlans$WholeSearch" "mix" "[I",
  .classLink "RecipePlans" 48 "RecipePlans$Found",
  .instantiable "RecipePlans$Found" 8,
  .methodLink "RecipePlans" 50 ⟨"RecipePlans$Found", "<init>", "()V"⟩,
  .instanceMethod ⟨"RecipePlans$Found", "<init>", "()V"⟩,
  .code ⟨"RecipePlans$Found", "<init>", "()V"⟩ prog_3_method_1_code 1 none,
  .methodLink "RecipePlans$Found" 3 ⟨"java/lang/Object", "<init>", "()V"⟩,
  .fieldLink "RecipePlans$Found" 48 "RecipePlans$Found" "whole" "Z",
  .fieldLink "RecipePlans" 136 "RecipePlans$Found" "whole" "Z",
  .fieldLink "RecipePlans$Found" 51 "RecipePlans$Found" "lots" "I",
  .fieldLink "RecipePlans" 139 "RecipePlans$Found" "lots" "I",
  .fieldLink "RecipePlans$Found" 9 "RecipePlans$Found" "mix" "[I",
  .fieldLink "RecipePlans" 141 "RecipePlans$Found" "mix" "[I",
  .fieldLink "RecipePlans$Found" 57 "RecipePlans$Found" "total" "J",
  .fieldLink "RecipePlans" 144 "RecipePlans$Found" "total" "J",
  .fieldLink "RecipePlans$Found" 25 "RecipePlans$Found" "cuttable" "Z",
  .fieldLink "RecipePlans" 152 "RecipePlans$Found" "cuttable" "Z",
  .fieldLink "RecipePlans$Found" 32 "RecipePlans$Found" "above" "J",
  .fieldLink "RecipePlans" 155 "RecipePlans$Found" "above" "J",
  .fieldLink "RecipePlans$Found" 36 "RecipePlans$Found" "below" "J",
  .fieldLink "RecipePlans" 158 "RecipePlans$Found" "below" "J",
  .fieldLink "RecipePlans$Found" 41 "RecipePlans$Found" "clashing" "I",
  .fieldLink "RecipePlans" 161 "RecipePlans$Found" "clashing" "I",
  .lays "RecipePlans$Found" "RecipePlans$Found" "whole" "Z",
  .lays "RecipePlans$Found" "RecipePlans$Found" "lots" "I",
  .laysFinal "RecipePlans$Found" "RecipePlans$Found" "mix" "[I",
  .lays "RecipePlans$Found" "RecipePlans$Found" "total" "J",
  .lays "RecipePlans$Found" "RecipePlans$Found" "cuttable" "Z",
  .lays "RecipePlans$Found" "RecipePlans$Found" "above" "J",
  .lays "RecipePlans$Found" "RecipePlans$Found" "below" "J",
  .lays "RecipePlans$Found" "RecipePlans$Found" "clashing" "I",
  .fieldLink "RecipePlans" 12 "RecipePlans" "lots" "LRecipePlans$Lots;",
  .fieldLink "RecipePlans" 19 "RecipePlans" "rules" "LRecipePlans$Rules;",
  .fieldLink "RecipePlans" 26 "RecipePlans" "sides" "LRecipePlans$Sides;",
  .fieldLink "RecipePlans" 35 "RecipePlans" "cuts" "LRecipePlans$CutSearch;",
  .fieldLink "RecipePlans" 44 "RecipePlans" "wholes" "LRecipePlans$WholeSearch;",
  .fieldLink "RecipePlans" 51 "RecipePlans" "found" "LRecipePlans$Found;",
  .fieldLink "RecipePlans" 55 "RecipePlans" "point" "[J",
  .fieldLink "RecipePlans" 59 "RecipePlans" "held" "[J",
  .laysFinal "RecipePlans" "RecipePlans" "lots" "LRecipePlans$Lots;",
  .laysFinal "RecipePlans" "RecipePlans" "rules" "LRecipePlans$Rules;",
  .laysFinal "RecipePlans" "RecipePlans" "sides" "LRecipePlans$Sides;",
  .laysFinal "RecipePlans" "RecipePlans" "cuts" "LRecipePlans$CutSearch;",
  .laysFinal "RecipePlans" "RecipePlans" "wholes" "LRecipePlans$WholeSearch;",
  .laysFinal "RecipePlans" "RecipePlans" "found" "LRecipePlans$Found;",
  .laysFinal "RecipePlans" "RecipePlans" "point" "[J",
  .laysFinal "RecipePlans" "RecipePlans" "held" "[J",
  .methodLink "RecipePlansLaw" 15 ⟨"RecipePlans", "lot", "(IJ)I"⟩,
  .instanceMethod ⟨"RecipePlans", "lot", "(IJ)I"⟩,
  .selects "RecipePlans" ⟨"RecipePlans", "lot", "(IJ)I"⟩ ⟨"RecipePlans", "lot", "(IJ)I"⟩,
  .code ⟨"RecipePlans", "lot", "(IJ)I"⟩ prog_1_method_2_code 5 (some .int),
  .constantLong "RecipePlans" 66 9,
  .methodLink "RecipePlans" 68 ⟨"RecipePlans", "within", "(JJJ)Z"⟩,
  .static ⟨"RecipePlans", "within", "(JJJ)Z"⟩,
  .code ⟨"RecipePlans", "within", "(JJJ)Z"⟩ prog_1_method_15_code 6 (some .boolean),
  .constantLong "RecipePlans" 72 (-1000),
  .constantLong "RecipePlans" 74 1000,
  .methodLink "RecipePlansLaw" 20 ⟨"RecipePlans", "amount", "(III)Z"⟩,
  .instanceMethod ⟨"RecipePlans", "amount", "(III)Z"⟩,
  .selects "RecipePlans" ⟨"RecipePlans", "amount", "(III)Z"⟩ ⟨"RecipePlans", "amount", "(III)Z"⟩,
  .code ⟨"RecipePlans", "amount", "(III)Z"⟩ prog_1_method_3_code 4 (some .boolean),
  .methodLink "RecipePlans" 83 ⟨"RecipePlans", "isWhat", "(I)Z"⟩,
  .static ⟨"RecipePlans", "isWhat", "(I)Z"⟩,
  .code ⟨"RecipePlans", "isWhat", "(I)Z"⟩ prog_1_method_17_code 1 (some .boolean),
  .constantLong "RecipePlans" 182 4,
  .constantLong "RecipePlans" 87 (-100),
  .constantLong "RecipePlans" 89 100,
  .methodLink "RecipePlansLaw" 25 ⟨"RecipePlans", "span", "(III)Z"⟩,
  .instanceMethod ⟨"RecipePlans", "span", "(III)Z"⟩,
  .selects "RecipePlans" ⟨"RecipePlans", "span", "(III)Z"⟩ ⟨"RecipePlans", "span", "(III)Z"⟩,
  .code ⟨"RecipePlans", "span", "(III)Z"⟩ prog_1_method_4_code 4 (some .boolean),
  .constant "RecipePlans" 95 (-100000),
  .constant "RecipePlans" 96 100000,
  .methodLink "RecipePlans" 97 ⟨"RecipePlans", "isRange", "(IIII)Z"⟩,
  .static ⟨"RecipePlans", "isRange", "(IIII)Z"⟩,
  .code ⟨"RecipePlans", "isRange", "(IIII)Z"⟩ prog_1_method_16_code 4 (some .boolean),
  .methodLink "RecipePlans" 101 ⟨"RecipePlans$Rules", "tell", "(IIIIII)V"⟩,
  .instanceMethod ⟨"RecipePlans$Rules", "tell", "(IIIIII)V"⟩,
  .selects "RecipePlans$Rules" ⟨"RecipePlans$Rules", "tell", "(IIIIII)V"⟩ ⟨"RecipePlans$Rules", "tell", "(IIIIII)V"⟩,
  .code ⟨"RecipePlans$Rules", "tell", "(IIIIII)V"⟩ prog_5_method_2_code 7 none,
  .methodLink "RecipePlansLaw" 29 ⟨"RecipePlans", "ratio", "(IIIIII)Z"⟩,
  .instanceMethod ⟨"RecipePlans", "ratio", "(IIIIII)Z"⟩,
  .selects "RecipePlans" ⟨"RecipePlans", "ratio", "(IIIIII)Z"⟩ ⟨"RecipePlans", "ratio", "(IIIIII)Z"⟩,
  .code ⟨"RecipePlans", "ratio", "(IIIIII)Z"⟩ prog_1_method_5_code 7 (some .boolean),
  .methodLink "RecipePlansLaw" 34 ⟨"RecipePlans", "loads", "(II)Z"⟩,
  .instanceMethod ⟨"RecipePlans", "loads", "(II)Z"⟩,
  .selects "RecipePlans" ⟨"RecipePlans", "loads", "(II)Z"⟩ ⟨"RecipePlans", "loads", "(II)Z"⟩,
  .code ⟨"RecipePlans", "loads", "(II)Z"⟩ prog_1_method_6_code 3 (some .boolean),
  .methodLink "RecipePlansLaw" 39 ⟨"RecipePlans", "untell", "(I)Z"⟩,
  .instanceMethod ⟨"RecipePlans", "untell", "(I)Z"⟩,
  .selects "RecipePlans" ⟨"RecipePlans", "untell", "(I)Z"⟩ ⟨"RecipePlans", "untell", "(I)Z"⟩,
  .code ⟨"RecipePlans", "untell", "(I)Z"⟩ prog_1_method_7_code 2 (some .boolean),
  .constantLong "RecipePlans" 105 7,
  .methodLink "RecipePlans" 107 ⟨"RecipePlans$Rules", "isTold", "(I)Z"⟩,
  .instanceMethod ⟨"RecipePlans$Rules", "isTold", "(I)Z"⟩,
  .selects "RecipePlans$Rules" ⟨"RecipePlans$Rules", "isTold", "(I)Z"⟩ ⟨"RecipePlans$Rules", "isTold", "(I)Z"⟩,
  .code ⟨"RecipePlans$Rules", "isTold", "(I)Z"⟩ prog_5_method_3_code 2 (some .boolean),
  .static ⟨"RecipePlans", "hasBit", "(II)Z"⟩,
  .code ⟨"RecipePlans", "hasBit", "(II)Z"⟩ prog_1_method_18_code 2 (some .boolean),
  .methodLink "RecipePlansLaw" 44 ⟨"RecipePlans", "run", "()I"⟩,
  .instanceMethod ⟨"RecipePlans", "run", "()I"⟩,
  .selects "RecipePlans" ⟨"RecipePlans", "run", "()I"⟩ ⟨"RecipePlans", "run", "()I"⟩,
  .code ⟨"RecipePlans", "run", "()I"⟩ prog_1_method_8_code 1 (some .int),
  .methodLink "RecipePlans" 113 ⟨"RecipePlans$Sides", "build", "(LRecipePlans$Lots;LRecipePlans$Rules;)V"⟩,
  .instanceMethod ⟨"RecipePlans$Sides", "build", "(LRecipePlans$Lots;LRecipePlans$Rules;)V"⟩,
  .selects "RecipePlans$Sides" ⟨"RecipePlans$Sides", "build", "(LRecipePlans$Lots;LRecipePlans$Rules;)V"⟩ ⟨"RecipePlans$Sides", "build", "(LRecipePlans$Lots;LRecipePlans$Rules;)V"⟩,
  .code ⟨"RecipePlans$Sides", "build", "(LRecipePlans$Lots;LRecipePlans$Rules;)V"⟩ prog_6_method_2_code 4 none,
  .methodLink "RecipePlans$Sides" 24 ⟨"RecipePlans$Rules", "isTold", "(I)Z"⟩,
  .methodLink "RecipePlans$Sides" 41 ⟨"RecipePlans$Sides", "fill", "([J[JLRecipePlans$Rules;I)V"⟩,
  .instanceMethod ⟨"RecipePlans$Sides", "fill", "([J[JLRecipePlans$Rules;I)V"⟩,
  .code ⟨"RecipePlans$Sides", "fill", "([J[JLRecipePlans$Rules;I)V"⟩ prog_6_method_3_code 10 none,
  .methodLink "RecipePlans" 117 ⟨"RecipePlans$CutSearch", "search", "()V"⟩,
  .instanceMethod ⟨"RecipePlans$CutSearch", "search", "()V"⟩,
  .selects "RecipePlans$CutSearch" ⟨"RecipePlans$CutSearch", "search", "()V"⟩ ⟨"RecipePlans$CutSearch", "search", "()V"⟩,
  .code ⟨"RecipePlans$CutSearch", "search", "()V"⟩ prog_2_method_2_code 1 none,
  .methodLink "RecipePlans$CutSearch" 43 ⟨"RecipePlans$CutSearch", "begin", "()V"⟩,
  .instanceMethod ⟨"RecipePlans$CutSearch", "begin", "()V"⟩,
  .code ⟨"RecipePlans$CutSearch", "begin", "()V"⟩ prog_2_method_3_code 2 none,
  .methodLink "RecipePlans$CutSearch" 65 ⟨"RecipePlans$Lots", "inStock", "()I"⟩,
  .instanceMethod ⟨"RecipePlans$Lots", "inStock", "()I"⟩,
  .selects "RecipePlans$Lots" ⟨"RecipePlans$Lots", "inStock", "()I"⟩ ⟨"RecipePlans$Lots", "inStock", "()I"⟩,
  .code ⟨"RecipePlans$Lots", "inStock", "()I"⟩ prog_4_method_4_code 3 (some .int),
  .methodLink "RecipePlans$CutSearch" 46 ⟨"RecipePlans$CutSearch", "tighten", "(II)V"⟩,
  .instanceMethod ⟨"RecipePlans$CutSearch", "tighten", "(II)V"⟩,
  .code ⟨"RecipePlans$CutSearch", "tighten", "(II)V"⟩ prog_2_method_4_code 5 none,
  .methodLink "RecipePlans$CutSearch" 74 ⟨"RecipePlans$CutSearch", "visitCorners", "(I)V"⟩,
  .instanceMethod ⟨"RecipePlans$CutSearch", "visitCorners", "(I)V"⟩,
  .code ⟨"RecipePlans$CutSearch", "visitCorners", "(I)V"⟩ prog_2_method_8_code 7 none,
  .methodLink "RecipePlans$CutSearch" 127 ⟨"RecipePlans$CutSearch", "meets", "([JII)Z"⟩,
  .instanceMethod ⟨"RecipePlans$CutSearch", "meets", "([JII)Z"⟩,
  .code ⟨"RecipePlans$CutSearch", "meets", "([JII)Z"⟩ prog_2_method_9_code 13 (some .boolean),
  .constantLong "RecipePlans$CutSearch" 134 (-1),
  .methodLink "RecipePlans$CutSearch" 139 ⟨"RecipePlans$CutSearch", "replaced", "([JIII)J"⟩,
  .instanceMethod ⟨"RecipePlans$CutSearch", "replaced", "([JIII)J"⟩,
  .code ⟨"RecipePlans$CutSearch", "replaced", "([JIII)J"⟩ prog_2_method_10_code 14 (some .long),
  .methodLink "RecipePlans$CutSearch" 147 ⟨"java/lang/Integer", "bitCount", "(I)I"⟩,
  .static ⟨"java/lang/Integer", "bitCount", "(I)I"⟩,
  .code ⟨"java/lang/Integer", "bitCount", "(I)I"⟩ prog_10_method_49_code 1 (some .int),
  .constant "java/lang/Integer" 265 1431655765,
  .constant "java/lang/Integer" 266 858993459,
  .constant "java/lang/Integer" 267 252645135,
  .methodLink "RecipePlans$CutSearch" 131 ⟨"RecipePlans$CutSearch", "weigh", "()V"⟩,
  .instanceMethod ⟨"RecipePlans$CutSearch", "weigh", "()V"⟩,
  .code ⟨"RecipePlans$CutSearch", "weigh", "()V"⟩ prog_2_method_11_code 5 none,
  .methodLink "RecipePlans$CutSearch" 153 ⟨"RecipePlans$Lots", "price", "([J)J"⟩,
  .instanceMethod ⟨"RecipePlans$Lots", "price", "([J)J"⟩,
  .selects "RecipePlans$Lots" ⟨"RecipePlans$Lots", "price", "([J)J"⟩ ⟨"RecipePlans$Lots", "price", "([J)J"⟩,
  .code ⟨"RecipePlans$Lots", "price", "([J)J"⟩ prog_4_method_3_code 5 (some .long),
  .methodLink "RecipePlans$CutSearch" 157 ⟨"RecipePlans$CutSearch", "isLess", "(JJJJ)Z"⟩,
  .static ⟨"RecipePlans$CutSearch", "isLess", "(JJJJ)Z"⟩,
  .code ⟨"RecipePlans$CutSearch", "isLess", "(JJJJ)Z"⟩ prog_2_method_12_code 17 (some .boolean),
  .methodLink "RecipePlans$CutSearch" 168 ⟨"java/lang/Math", "floorDiv", "(JJ)J"⟩,
  .static ⟨"java/lang/Math", "floorDiv", "(JJ)J"⟩,
  .code ⟨"java/lang/Math", "floorDiv", "(JJ)J"⟩ prog_11_method_49_code 6 (some .long),
  .methodLink "RecipePlans$CutSearch" 161 ⟨"RecipePlans$Lots", "hold", "([J[J)V"⟩,
  .instanceMethod ⟨"RecipePlans$Lots", "hold", "([J[J)V"⟩,
  .selects "RecipePlans$Lots" ⟨"RecipePlans$Lots", "hold", "([J[J)V"⟩ ⟨"RecipePlans$Lots", "hold", "([J[J)V"⟩,
  .code ⟨"RecipePlans$Lots", "hold", "([J[J)V"⟩ prog_4_method_2_code 8 none,
  .methodLink "RecipePlans$CutSearch" 165 ⟨"RecipePlans$Rules", "keeps", "(I[J)Z"⟩,
  .instanceMethod ⟨"RecipePlans$Rules", "keeps", "(I[J)Z"⟩,
  .selects "RecipePlans$Rules" ⟨"RecipePlans$Rules", "keeps", "(I[J)Z"⟩ ⟨"RecipePlans$Rules", "keeps", "(I[J)Z"⟩,
  .code ⟨"RecipePlans$Rules", "keeps", "(I[J)Z"⟩ prog_5_method_4_code 7 (some .boolean),
  .methodLink "RecipePlans$Rules" 35 ⟨"RecipePlans$Rules", "atLeast", "(JJJJ)Z"⟩,
  .static ⟨"RecipePlans$Rules", "atLeast", "(JJJJ)Z"⟩,
  .code ⟨"RecipePlans$Rules", "atLeast", "(JJJJ)Z"⟩ prog_5_method_5_code 12 (some .boolean),
  .constantLong "RecipePlans$Rules" 39 1048575,
  .methodLink "RecipePlans$CutSearch" 89 ⟨"RecipePlans$CutSearch", "add", "(I[J)Z"⟩,
  .instanceMethod ⟨"RecipePlans$CutSearch", "add", "(I[J)Z"⟩,
  .code ⟨"RecipePlans$CutSearch", "add", "(I[J)Z"⟩ prog_2_method_6_code 8 (some .boolean),
  .methodLink "RecipePlans$CutSearch" 120 ⟨"RecipePlans$CutSearch", "expand", "([J[JI)J"⟩,
  .static ⟨"RecipePlans$CutSearch", "expand", "([J[JI)J"⟩,
  .code ⟨"RecipePlans$CutSearch", "expand", "([J[JI)J"⟩ prog_2_method_7_code 8 (some .long),
  .methodLink "RecipePlans$CutSearch" 101 ⟨"RecipePlans$CutSearch", "addBoth", "(II)Z"⟩,
  .instanceMethod ⟨"RecipePlans$CutSearch", "addBoth", "(II)Z"⟩,
  .code ⟨"RecipePlans$CutSearch", "addBoth", "(II)Z"⟩ prog_2_method_5_code 3 (some .boolean),
  .methodLink "RecipePlans" 124 ⟨"RecipePlans$WholeSearch", "search", "(Z)V"⟩,
  .instanceMethod ⟨"RecipePlans$WholeSearch", "search", "(Z)V"⟩,
  .selects "RecipePlans$WholeSearch" ⟨"RecipePlans$WholeSearch", "search", "(Z)V"⟩ ⟨"RecipePlans$WholeSearch", "search", "(Z)V"⟩,
  .code ⟨"RecipePlans$WholeSearch", "search", "(Z)V"⟩ prog_7_method_2_code 2 none,
  .methodLink "RecipePlans$WholeSearch" 46 ⟨"RecipePlans$WholeSearch", "begin", "()V"⟩,
  .instanceMethod ⟨"RecipePlans$WholeSearch", "begin", "()V"⟩,
  .code ⟨"RecipePlans$WholeSearch", "begin", "()V"⟩ prog_7_method_3_code 3 none,
  .methodLink "RecipePlans$WholeSearch" 70 ⟨"java/lang/Math", "min", "(JJ)J"⟩,
  .static ⟨"java/lang/Math", "min", "(JJ)J"⟩,
  .code ⟨"java/lang/Math", "min", "(JJ)J"⟩ prog_11_method_70_code 4 (some .long),
  .methodLink "RecipePlans$WholeSearch" 76 ⟨"java/lang/Math", "max", "(JJ)J"⟩,
  .static ⟨"java/lang/Math", "max", "(JJ)J"⟩,
  .code ⟨"java/lang/Math", "max", "(JJ)J"⟩ prog_11_method_66_code 4 (some .long),
  .methodLink "RecipePlans$WholeSearch" 49 ⟨"RecipePlans$WholeSearch", "place", "(IJ)V"⟩,
  .instanceMethod ⟨"RecipePlans$WholeSearch", "place", "(IJ)V"⟩,
  .code ⟨"RecipePlans$WholeSearch", "place", "(IJ)V"⟩ prog_7_method_4_code 7 none,
  .methodLink "RecipePlans$WholeSearch" 79 ⟨"RecipePlans$WholeSearch", "mostLoads", "(I)I"⟩,
  .instanceMethod ⟨"RecipePlans$WholeSearch", "mostLoads", "(I)I"⟩,
  .code ⟨"RecipePlans$WholeSearch", "mostLoads", "(I)I"⟩ prog_7_method_7_code 9 (some .int),
  .methodLink "RecipePlans$WholeSearch" 94 ⟨"java/lang/Math", "floorDiv", "(JJ)J"⟩,
  .constantLong "RecipePlans$WholeSearch" 97 (-1),
  .methodLink "RecipePlans$WholeSearch" 83 ⟨"RecipePlans$WholeSearch", "fewestLoads", "(I)I"⟩,
  .instanceMethod ⟨"RecipePlans$WholeSearch", "fewestLoads", "(I)I"⟩,
  .code ⟨"RecipePlans$WholeSearch", "fewestLoads", "(I)I"⟩ prog_7_method_8_code 9 (some .int),
  .constantLong "RecipePlans$WholeSearch" 99 10,
  .methodLink "RecipePlans$WholeSearch" 86 ⟨"RecipePlans$WholeSearch", "take", "(IIJ)V"⟩,
  .instanceMethod ⟨"RecipePlans$WholeSearch", "take", "(IIJ)V"⟩,
  .code ⟨"RecipePlans$WholeSearch", "take", "(IIJ)V"⟩ prog_7_method_5_code 6 none,
  .methodLink "RecipePlans$WholeSearch" 90 ⟨"RecipePlans$WholeSearch", "offer", "(J)V"⟩,
  .instanceMethod ⟨"RecipePlans$WholeSearch", "offer", "(J)V"⟩,
  .code ⟨"RecipePlans$WholeSearch", "offer", "(J)V"⟩ prog_7_method_6_code 4 none,
  .methodLink "RecipePlans" 127 ⟨"RecipePlans$Found", "takeCut", "(LRecipePlans$CutSearch;)V"⟩,
  .instanceMethod ⟨"RecipePlans$Found", "takeCut", "(LRecipePlans$CutSearch;)V"⟩,
  .selects "RecipePlans$Found" ⟨"RecipePlans$Found", "takeCut", "(LRecipePlans$CutSearch;)V"⟩ ⟨"RecipePlans$Found", "takeCut", "(LRecipePlans$CutSearch;)V"⟩,
  .code ⟨"RecipePlans$Found", "takeCut", "(LRecipePlans$CutSearch;)V"⟩ prog_3_method_2_code 4 none,
  .methodLink "RecipePlans$Found" 15 ⟨"RecipePlans$CutSearch", "commonDivisor", "()J"⟩,
  .instanceMethod ⟨"RecipePlans$CutSearch", "commonDivisor", "()J"⟩,
  .selects "RecipePlans$CutSearch" ⟨"RecipePlans$CutSearch", "commonDivisor", "()J"⟩ ⟨"RecipePlans$CutSearch", "commonDivisor", "()J"⟩,
  .code ⟨"RecipePlans$CutSearch", "commonDivisor", "()J"⟩ prog_2_method_13_code 8 (some .long),
  .methodLink "RecipePlans$CutSearch" 174 ⟨"java/lang/Math", "abs", "(J)J"⟩,
  .static ⟨"java/lang/Math", "abs", "(J)J"⟩,
  .code ⟨"java/lang/Math", "abs", "(J)J"⟩ prog_11_method_61_code 2 (some .long),
  .methodLink "RecipePlans$Found" 37 ⟨"RecipePlans$CutSearch", "fewestClashing", "()I"⟩,
  .instanceMethod ⟨"RecipePlans$CutSearch", "fewestClashing", "()I"⟩,
  .selects "RecipePlans$CutSearch" ⟨"RecipePlans$CutSearch", "fewestClashing", "()I"⟩ ⟨"RecipePlans$CutSearch", "fewestClashing", "()I"⟩,
  .code ⟨"RecipePlans$CutSearch", "fewestClashing", "()I"⟩ prog_2_method_14_code 4 (some .int),
  .methodLink "RecipePlans$CutSearch" 181 ⟨"RecipePlans$CutSearch", "allBreak", "(I)Z"⟩,
  .instanceMethod ⟨"RecipePlans$CutSearch", "allBreak", "(I)Z"⟩,
  .code ⟨"RecipePlans$CutSearch", "allBreak", "(I)Z"⟩ prog_2_method_15_code 3 (some .boolean),
  .methodLink "RecipePlans" 131 ⟨"RecipePlans$Found", "takeWhole", "(LRecipePlans$WholeSearch;I)V"⟩,
  .instanceMethod ⟨"RecipePlans$Found", "takeWhole", "(LRecipePlans$WholeSearch;I)V"⟩,
  .selects "RecipePlans$Found" ⟨"RecipePlans$Found", "takeWhole", "(LRecipePlans$WholeSearch;I)V"⟩ ⟨"RecipePlans$Found", "takeWhole", "(LRecipePlans$WholeSearch;I)V"⟩,
  .code ⟨"RecipePlans$Found", "takeWhole", "(LRecipePlans$WholeSearch;I)V"⟩ prog_3_method_3_code 4 none,
  .methodLink "RecipePlansLaw" 49 ⟨"RecipePlans", "best", "(I)I"⟩,
  .instanceMethod ⟨"RecipePlans", "best", "(I)I"⟩,
  .selects "RecipePlans" ⟨"RecipePlans", "best", "(I)I"⟩ ⟨"RecipePlans", "best", "(I)I"⟩,
  .code ⟨"RecipePlans", "best", "(I)I"⟩ prog_1_method_9_code 2 (some .int),
  .methodLink "RecipePlansLaw" 54 ⟨"RecipePlans", "cost", "()J"⟩,
  .instanceMethod ⟨"RecipePlans", "cost", "()J"⟩,
  .selects "RecipePlans" ⟨"RecipePlans", "cost", "()J"⟩ ⟨"RecipePlans", "cost", "()J"⟩,
  .code ⟨"RecipePlans", "cost", "()J"⟩ prog_1_method_10_code 1 (some .long),
  .constantLong "RecipePlans" 150 (-9223372036854775808),
  .methodLink "RecipePlansLaw" 59 ⟨"RecipePlans", "cut", "(I)J"⟩,
  .instanceMethod ⟨"RecipePlans", "cut", "(I)J"⟩,
  .selects "RecipePlans" ⟨"RecipePlans", "cut", "(I)J"⟩ ⟨"RecipePlans", "cut", "(I)J"⟩,
  .code ⟨"RecipePlans", "cut", "(I)J"⟩ prog_1_method_11_code 2 (some .long),
  .methodLink "RecipePlansLaw" 64 ⟨"RecipePlans", "clashes", "()I"⟩,
  .instanceMethod ⟨"RecipePlans", "clashes", "()I"⟩,
  .selects "RecipePlans" ⟨"RecipePlans", "clashes", "()I"⟩ ⟨"RecipePlans", "clashes", "()I"⟩,
  .code ⟨"RecipePlans", "clashes", "()I"⟩ prog_1_method_12_code 1 (some .int),
  .methodLink "RecipePlans" 164 ⟨"java/lang/Integer", "bitCount", "(I)I"⟩,
  .methodLink "RecipePlansLaw" 68 ⟨"RecipePlans", "clash", "(I)Z"⟩,
  .instanceMethod ⟨"RecipePlans", "clash", "(I)Z"⟩,
  .selects "RecipePlans" ⟨"RecipePlans", "clash", "(I)Z"⟩ ⟨"RecipePlans", "clash", "(I)Z"⟩,
  .code ⟨"RecipePlans", "clash", "(I)Z"⟩ prog_1_method_13_code 2 (some .boolean),
  .methodLink "RecipePlans" 170 ⟨"RecipePlans", "hasBit", "(II)Z"⟩,
  .methodLink "RecipePlansLaw" 72 ⟨"RecipePlans", "broken", "(IIII)I"⟩,
  .instanceMethod ⟨"RecipePlans", "broken", "(IIII)I"⟩,
  .selects "RecipePlans" ⟨"RecipePlans", "broken", "(IIII)I"⟩ ⟨"RecipePlans", "broken", "(IIII)I"⟩,
  .code ⟨"RecipePlans", "broken", "(IIII)I"⟩ prog_1_method_14_code 6 (some .int),
  .methodLink "RecipePlans" 174 ⟨"RecipePlans$Lots", "hold", "([J[J)V"⟩,
  .methodLink "RecipePlans" 178 ⟨"RecipePlans$Rules", "keeps", "(I[J)Z"⟩,
  .classLink "RecipePlansLaw" 10 "RecipePlansModel",
  .instantiable "RecipePlansModel" 24,
  .methodLink "RecipePlansLaw" 12 ⟨"RecipePlansModel", "<init>", "()V"⟩,
  .instanceMethod ⟨"RecipePlansModel", "<init>", "()V"⟩,
  .code ⟨"RecipePlansModel", "<init>", "()V"⟩ prog_9_method_1_code 1 none,
  .methodLink "RecipePlansModel" 1 ⟨"java/lang/Object", "<init>", "()V"⟩,
  .fieldLink "RecipePlansModel" 64 "RecipePlansModel" "lots" "I",
  .fieldLink "RecipePlansModel" 7 "RecipePlansModel" "stocks" "[I",
  .fieldLink "RecipePlansModel" 13 "RecipePlansModel" "cents" "[I",
  .fieldLink "RecipePlansModel" 16 "RecipePlansModel" "amounts" "[I",
  .fieldLink "RecipePlansModel" 19 "RecipePlansModel" "told" "[Z",
  .fieldLink "RecipePlansModel" 23 "RecipePlansModel" "lows" "[I",
  .fieldLink "RecipePlansModel" 26 "RecipePlansModel" "highs" "[I",
  .fieldLink "RecipePlansModel" 29 "RecipePlansModel" "overs" "[I",
  .fieldLink "RecipePlansModel" 32 "RecipePlansModel" "firsts" "[I",
  .fieldLink "RecipePlansModel" 35 "RecipePlansModel" "seconds" "[I",
  .fieldLink "RecipePlansModel" 38 "RecipePlansModel" "found" "I",
  .fieldLink "RecipePlansModel" 176 "RecipePlansModel" "foundLots" "I",
  .fieldLink "RecipePlansModel" 42 "RecipePlansModel" "best" "[I",
  .fieldLink "RecipePlansModel" 106 "RecipePlansModel" "bestCost" "J",
  .fieldLink "RecipePlansModel" 148 "RecipePlansModel" "cutOver" "J",
  .fieldLink "RecipePlansModel" 145 "RecipePlansModel" "cutUnder" "J",
  .fieldLink "RecipePlansModel" 158 "RecipePlansModel" "clashSet" "I",
  .fieldLink "RecipePlansModel" 45 "RecipePlansModel" "mix" "[I",
  .fieldLink "RecipePlansModel" 48 "RecipePlansModel" "limits" "[I",
  .fieldLink "RecipePlansModel" 51 "RecipePlansModel" "isLimit" "[Z",
  .fieldLink "RecipePlansModel" 54 "RecipePlansModel" "corner" "[I",
  .fieldLink "RecipePlansModel" 57 "RecipePlansModel" "over" "[J",
  .fieldLink "RecipePlansModel" 126 "RecipePlansModel" "under" "J",
  .fieldLink "RecipePlansModel" 61 "RecipePlansModel" "kept" "[Z",
  .lays "RecipePlansModel" "RecipePlansModel" "lots" "I",
  .laysFinal "RecipePlansModel" "RecipePlansModel" "stocks" "[I",
  .laysFinal "RecipePlansModel" "RecipePlansModel" "cents" "[I",
  .laysFinal "RecipePlansModel" "RecipePlansModel" "amounts" "[I",
  .laysFinal "RecipePlansModel" "RecipePlansModel" "told" "[Z",
  .laysFinal "RecipePlansModel" "RecipePlansModel" "lows" "[I",
  .laysFinal "RecipePlansModel" "RecipePlansModel" "highs" "[I",
  .laysFinal "RecipePlansModel" "RecipePlansModel" "overs" "[I",
  .laysFinal "RecipePlansModel" "RecipePlansModel" "firsts" "[I",
  .laysFinal "RecipePlansModel" "RecipePlansModel" "seconds" "[I",
  .lays "RecipePlansModel" "RecipePlansModel" "found" "I",
  .lays "RecipePlansModel" "RecipePlansModel" "foundLots" "I",
  .laysFinal "RecipePlansModel" "RecipePlansModel" "best" "[I",
  .lays "RecipePlansModel" "RecipePlansModel" "bestCost" "J",
  .lays "RecipePlansModel" "RecipePlansModel" "cutOver" "J",
  .lays "RecipePlansModel" "RecipePlansModel" "cutUnder" "J",
  .lays "RecipePlansModel" "RecipePlansModel" "clashSet" "I",
  .laysFinal "RecipePlansModel" "RecipePlansModel" "mix" "[I",
  .laysFinal "RecipePlansModel" "RecipePlansModel" "limits" "[I",
  .laysFinal "RecipePlansModel" "RecipePlansModel" "isLimit" "[Z",
  .laysFinal "RecipePlansModel" "RecipePlansModel" "corner" "[I",
  .laysFinal "RecipePlansModel" "RecipePlansModel" "over" "[J",
  .lays "RecipePlansModel" "RecipePlansModel" "under" "J",
  .laysFinal "RecipePlansModel" "RecipePlansModel" "kept" "[Z",
  .methodLink "RecipePlansLaw" 19 ⟨"RecipePlansModel", "lot", "(IJ)I"⟩,
  .instanceMethod ⟨"RecipePlansModel", "lot", "(IJ)I"⟩,
  .selects "RecipePlansModel" ⟨"RecipePlansModel", "lot", "(IJ)I"⟩ ⟨"RecipePlansModel", "lot", "(IJ)I"⟩,
  .code ⟨"RecipePlansModel", "lot", "(IJ)I"⟩ prog_9_method_5_code 4 (some .int),
  .constantLong "RecipePlansModel" 67 9,
  .methodLink "RecipePlansModel" 69 ⟨"RecipePlansModel", "isIn", "(JJJ)Z"⟩,
  .static ⟨"RecipePlansModel", "isIn", "(JJJ)Z"⟩,
  .code ⟨"RecipePlansModel", "isIn", "(JJJ)Z"⟩ prog_9_method_3_code 6 (some .boolean),
  .constantLong "RecipePlansModel" 73 (-1000),
  .constantLong "RecipePlansModel" 75 1000,
  .methodLink "RecipePlansLaw" 24 ⟨"RecipePlansModel", "amount", "(III)Z"⟩,
  .instanceMethod ⟨"RecipePlansModel", "amount", "(III)Z"⟩,
  .selects "RecipePlansModel" ⟨"RecipePlansModel", "amount", "(III)Z"⟩ ⟨"RecipePlansModel", "amount", "(III)Z"⟩,
  .code ⟨"RecipePlansModel", "amount", "(III)Z"⟩ prog_9_method_6_code 4 (some .boolean),
  .methodLink "RecipePlansModel" 77 ⟨"RecipePlansModel", "isWhat", "(I)Z"⟩,
  .static ⟨"RecipePlansModel", "isWhat", "(I)Z"⟩,
  .code ⟨"RecipePlansModel", "isWhat", "(I)Z"⟩ prog_9_method_4_code 1 (some .boolean),
  .constantLong "RecipePlansModel" 81 (-100),
  .constantLong "RecipePlansModel" 83 100,
  .methodLink "RecipePlansLaw" 28 ⟨"RecipePlansModel", "span", "(III)Z"⟩,
  .instanceMethod ⟨"RecipePlansModel", "span", "(III)Z"⟩,
  .selects "RecipePlansModel" ⟨"RecipePlansModel", "span", "(III)Z"⟩ ⟨"RecipePlansModel", "span", "(III)Z"⟩,
  .code ⟨"RecipePlansModel", "span", "(III)Z"⟩ prog_9_method_8_code 4 (some .boolean),
  .constantLong "RecipePlansModel" 85 (-100000),
  .constantLong "RecipePlansModel" 87 100000,
  .methodLink "RecipePlansModel" 89 ⟨"RecipePlansModel", "tell", "(III)Z"⟩,
  .instanceMethod ⟨"RecipePlansModel", "tell", "(III)Z"⟩,
  .code ⟨"RecipePlansModel", "tell", "(III)Z"⟩ prog_9_method_7_code 4 (some .boolean),
  .methodLink "RecipePlansLaw" 33 ⟨"RecipePlansModel", "ratio", "(IIIIII)Z"⟩,
  .instanceMethod ⟨"RecipePlansModel", "ratio", "(IIIIII)Z"⟩,
  .selects "RecipePlansModel" ⟨"RecipePlansModel", "ratio", "(IIIIII)Z"⟩ ⟨"RecipePlansModel", "ratio", "(IIIIII)Z"⟩,
  .code ⟨"RecipePlansModel", "ratio", "(IIIIII)Z"⟩ prog_9_method_9_code 7 (some .boolean),
  .methodLink "RecipePlansLaw" 38 ⟨"RecipePlansModel", "loads", "(II)Z"⟩,
  .instanceMethod ⟨"RecipePlansModel", "loads", "(II)Z"⟩,
  .selects "RecipePlansModel" ⟨"RecipePlansModel", "loads", "(II)Z"⟩ ⟨"RecipePlansModel", "loads", "(II)Z"⟩,
  .code ⟨"RecipePlansModel", "loads", "(II)Z"⟩ prog_9_method_10_code 3 (some .boolean),
  .constantLong "RecipePlansModel" 93 36,
  .methodLink "RecipePlansLaw" 43 ⟨"RecipePlansModel", "untell", "(I)Z"⟩,
  .instanceMethod ⟨"RecipePlansModel", "untell", "(I)Z"⟩,
  .selects "RecipePlansModel" ⟨"RecipePlansModel", "untell", "(I)Z"⟩ ⟨"RecipePlansModel", "untell", "(I)Z"⟩,
  .code ⟨"RecipePlansModel", "untell", "(I)Z"⟩ prog_9_method_11_code 2 (some .boolean),
  .methodLink "RecipePlansLaw" 76 ⟨"RecipePlansModel", "broken", "(IIII)I"⟩,
  .instanceMethod ⟨"RecipePlansModel", "broken", "(IIII)I"⟩,
  .selects "RecipePlansModel" ⟨"RecipePlansModel", "broken", "(IIII)I"⟩ ⟨"RecipePlansModel", "broken", "(IIII)I"⟩,
  .code ⟨"RecipePlansModel", "broken", "(IIII)I"⟩ prog_9_method_15_code 6 (some .int),
  .methodLink "RecipePlansModel" 102 ⟨"RecipePlansModel", "firstBroken", "()I"⟩,
  .instanceMethod ⟨"RecipePlansModel", "firstBroken", "()I"⟩,
  .code ⟨"RecipePlansModel", "firstBroken", "()I"⟩ prog_9_method_14_code 2 (some .int),
  .methodLink "RecipePlansModel" 99 ⟨"RecipePlansModel", "keeps", "(I)Z"⟩,
  .instanceMethod ⟨"RecipePlansModel", "keeps", "(I)Z"⟩,
  .code ⟨"RecipePlansModel", "keeps", "(I)Z"⟩ prog_9_method_13_code 6 (some .boolean),
  .methodLink "RecipePlansModel" 95 ⟨"RecipePlansModel", "holds", "(I)I"⟩,
  .instanceMethod ⟨"RecipePlansModel", "holds", "(I)I"⟩,
  .code ⟨"RecipePlansModel", "holds", "(I)I"⟩ prog_9_method_12_code 4 (some .int),
  .methodLink "RecipePlansLaw" 48 ⟨"RecipePlansModel", "run", "()I"⟩,
  .instanceMethod ⟨"RecipePlansModel", "run", "()I"⟩,
  .selects "RecipePlansModel" ⟨"RecipePlansModel", "run", "()I"⟩ ⟨"RecipePlansModel", "run", "()I"⟩,
  .code ⟨"RecipePlansModel", "run", "()I"⟩ prog_9_method_32_code 2 (some .int),
  .methodLink "RecipePlansModel" 167 ⟨"RecipePlansModel", "findWhole", "()Z"⟩,
  .instanceMethod ⟨"RecipePlansModel", "findWhole", "()Z"⟩,
  .code ⟨"RecipePlansModel", "findWhole", "()Z"⟩ prog_9_method_16_code 8 (some .boolean),
  .methodLink "RecipePlansModel" 170 ⟨"RecipePlansModel", "setLimits", "()V"⟩,
  .instanceMethod ⟨"RecipePlansModel", "setLimits", "()V"⟩,
  .code ⟨"RecipePlansModel", "setLimits", "()V"⟩ prog_9_method_18_code 5 none,
  .methodLink "RecipePlansModel" 110 ⟨"RecipePlansModel", "setLimit", "(IIZ)V"⟩,
  .instanceMethod ⟨"RecipePlansModel", "setLimit", "(IIZ)V"⟩,
  .code ⟨"RecipePlansModel", "setLimit", "(IIZ)V"⟩ prog_9_method_17_code 8 none,
  .methodLink "RecipePlansModel" 173 ⟨"RecipePlansModel", "lookAtCorners", "()V"⟩,
  .instanceMethod ⟨"RecipePlansModel", "lookAtCorners", "()V"⟩,
  .code ⟨"RecipePlansModel", "lookAtCorners", "()V"⟩ prog_9_method_28_code 5 none,
  .methodLink "RecipePlansModel" 155 ⟨"RecipePlansModel", "lookAtCorner", "()V"⟩,
  .instanceMethod ⟨"RecipePlansModel", "lookAtCorner", "()V"⟩,
  .code ⟨"RecipePlansModel", "lookAtCorner", "()V"⟩ prog_9_method_27_code 6 none,
  .methodLink "RecipePlansModel" 138 ⟨"RecipePlansModel", "meet", "()Z"⟩,
  .instanceMethod ⟨"RecipePlansModel", "meet", "()Z"⟩,
  .code ⟨"RecipePlansModel", "meet", "()Z"⟩ prog_9_method_23_code 4 (some .boolean),
  .methodLink "RecipePlansModel" 122 ⟨"RecipePlansModel", "determinant", "(I)J"⟩,
  .instanceMethod ⟨"RecipePlansModel", "determinant", "(I)J"⟩,
  .code ⟨"RecipePlansModel", "determinant", "(I)J"⟩ prog_9_method_21_code 2 (some .long),
  .methodLink "RecipePlansModel" 118 ⟨"RecipePlansModel", "minor", "(IIIII)J"⟩,
  .instanceMethod ⟨"RecipePlansModel", "minor", "(IIIII)J"⟩,
  .code ⟨"RecipePlansModel", "minor", "(IIIII)J"⟩ prog_9_method_20_code 6 (some .long),
  .methodLink "RecipePlansModel" 114 ⟨"RecipePlansModel", "at", "(III)J"⟩,
  .instanceMethod ⟨"RecipePlansModel", "at", "(III)J"⟩,
  .code ⟨"RecipePlansModel", "at", "(III)J"⟩ prog_9_method_19_code 4 (some .long),
  .methodLink "RecipePlansModel" 129 ⟨"RecipePlansModel", "common", "(JJ)J"⟩,
  .static ⟨"RecipePlansModel", "common", "(JJ)J"⟩,
  .code ⟨"RecipePlansModel", "common", "(JJ)J"⟩ prog_9_method_22_code 10 (some .long),
  .methodLink "RecipePlansModel" 142 ⟨"RecipePlansModel", "keptRules", "()I"⟩,
  .instanceMethod ⟨"RecipePlansModel", "keptRules", "()I"⟩,
  .code ⟨"RecipePlansModel", "keptRules", "()I"⟩ prog_9_method_25_code 3 (some .int),
  .methodLink "RecipePlansModel" 135 ⟨"RecipePlansModel", "isKept", "(I)Z"⟩,
  .instanceMethod ⟨"RecipePlansModel", "isKept", "(I)Z"⟩,
  .code ⟨"RecipePlansModel", "isKept", "(I)Z"⟩ prog_9_method_24_code 13 (some .boolean),
  .constantLong "RecipePlansModel" 133 2147483648,
  .methodLink "RecipePlansModel" 151 ⟨"RecipePlansModel", "isLess", "(JJJJ)Z"⟩,
  .static ⟨"RecipePlansModel", "isLess", "(JJJJ)Z"⟩,
  .code ⟨"RecipePlansModel", "isLess", "(JJJJ)Z"⟩ prog_9_method_26_code 25 (some .boolean),
  .methodLink "RecipePlansModel" 179 ⟨"RecipePlansModel", "findClash", "()V"⟩,
  .instanceMethod ⟨"RecipePlansModel", "findClash", "()V"⟩,
  .code ⟨"RecipePlansModel", "findClash", "()V"⟩ prog_9_method_31_code 4 none,
  .methodLink "RecipePlansModel" 161 ⟨"RecipePlansModel", "sizeOf", "(I)I"⟩,
  .static ⟨"RecipePlansModel", "sizeOf", "(I)I"⟩,
  .code ⟨"RecipePlansModel", "sizeOf", "(I)I"⟩ prog_9_method_30_code 3 (some .int),
  .methodLink "RecipePlansModel" 164 ⟨"RecipePlansModel", "canBeKept", "(I)Z"⟩,
  .instanceMethod ⟨"RecipePlansModel", "canBeKept", "(I)Z"⟩,
  .code ⟨"RecipePlansModel", "canBeKept", "(I)Z"⟩ prog_9_method_29_code 3 (some .boolean),
  .methodLink "RecipePlansLaw" 53 ⟨"RecipePlansModel", "best", "(I)I"⟩,
  .instanceMethod ⟨"RecipePlansModel", "best", "(I)I"⟩,
  .selects "RecipePlansModel" ⟨"RecipePlansModel", "best", "(I)I"⟩ ⟨"RecipePlansModel", "best", "(I)I"⟩,
  .code ⟨"RecipePlansModel", "best", "(I)I"⟩ prog_9_method_33_code 2 (some .int),
  .methodLink "RecipePlansLaw" 58 ⟨"RecipePlansModel", "cost", "()J"⟩,
  .instanceMethod ⟨"RecipePlansModel", "cost", "()J"⟩,
  .selects "RecipePlansModel" ⟨"RecipePlansModel", "cost", "()J"⟩ ⟨"RecipePlansModel", "cost", "()J"⟩,
  .code ⟨"RecipePlansModel", "cost", "()J"⟩ prog_9_method_34_code 1 (some .long),
  .constantLong "RecipePlansModel" 182 (-9223372036854775808),
  .methodLink "RecipePlansLaw" 63 ⟨"RecipePlansModel", "cut", "(I)J"⟩,
  .instanceMethod ⟨"RecipePlansModel", "cut", "(I)J"⟩,
  .selects "RecipePlansModel" ⟨"RecipePlansModel", "cut", "(I)J"⟩ ⟨"RecipePlansModel", "cut", "(I)J"⟩,
  .code ⟨"RecipePlansModel", "cut", "(I)J"⟩ prog_9_method_35_code 2 (some .long),
  .methodLink "RecipePlansLaw" 67 ⟨"RecipePlansModel", "clashes", "()I"⟩,
  .instanceMethod ⟨"RecipePlansModel", "clashes", "()I"⟩,
  .selects "RecipePlansModel" ⟨"RecipePlansModel", "clashes", "()I"⟩ ⟨"RecipePlansModel", "clashes", "()I"⟩,
  .code ⟨"RecipePlansModel", "clashes", "()I"⟩ prog_9_method_36_code 1 (some .int),
  .methodLink "RecipePlansLaw" 71 ⟨"RecipePlansModel", "clash", "(I)Z"⟩,
  .instanceMethod ⟨"RecipePlansModel", "clash", "(I)Z"⟩,
  .selects "RecipePlansModel" ⟨"RecipePlansModel", "clash", "(I)Z"⟩ ⟨"RecipePlansModel", "clash", "(I)Z"⟩,
  .code ⟨"RecipePlansModel", "clash", "(I)Z"⟩ prog_9_method_37_code 2 (some .boolean),
  .constantLong "RecipePlansLaw" 13 4294967295]
def nestA : List Cond := [.methodLinkNest "RecipePlans$Rules" 31 ⟨"RecipePlans", "hasBit", "(II)Z"⟩ "RecipePlans", .fieldLinkNest "RecipePlans$CutSearch" 114 "RecipePlans" "STARTS" "[I" "RecipePlans", .fieldLinkNest "RecipePlans$CutSearch" 117 "RecipePlans" "SETS" "[I" "RecipePlans", .methodLinkNest "RecipePlans$CutSearch" 124 ⟨"RecipePlans", "hasBit", "(II)Z"⟩ "RecipePlans", .methodLinkNest "RecipePlans$CutSearch" 143 ⟨"RecipePlans", "within", "(JJJ)Z"⟩ "RecipePlans"]
set_option maxRecDepth 100000 in
theorem tw_0 : (.selects "RecipePlans$Sides" ⟨"RecipePlans$Sides", "fill", "([J[JLRecipePlans$Rules;I)V"⟩ ⟨"RecipePlans$Sides", "fill", "([J[JLRecipePlans$Rules;I)V"⟩ : Cond) ∈ wsAll := List.mem_of_getElem? (i := 0) rfl
set_option maxRecDepth 100000 in
theorem tw_1 : (.selects "RecipePlans$CutSearch" ⟨"RecipePlans$CutSearch", "begin", "()V"⟩ ⟨"RecipePlans$CutSearch", "begin", "()V"⟩ : Cond) ∈ wsAll := List.mem_of_getElem? (i := 1) rfl
set_option maxRecDepth 100000 in
theorem tw_2 : (.selects "RecipePlans$CutSearch" ⟨"RecipePlans$CutSearch", "tighten", "(II)V"⟩ ⟨"RecipePlans$CutSearch", "tighten", "(II)V"⟩ : Cond) ∈ wsAll := List.mem_of_getElem? (i := 2) rfl
set_option maxRecDepth 100000 in
theorem tw_3 : (.selects "RecipePlans$CutSearch" ⟨"RecipePlans$CutSearch", "visitCorners", "(I)V"⟩ ⟨"RecipePlans$CutSearch", "visitCorners", "(I)V"⟩ : Cond) ∈ wsAll := List.mem_of_getElem? (i := 3) rfl
set_option maxRecDepth 100000 in
theorem tw_4 : (.selects "RecipePlans$CutSearch" ⟨"RecipePlans$CutSearch", "meets", "([JII)Z"⟩ ⟨"RecipePlans$CutSearch", "meets", "([JII)Z"⟩ : Cond) ∈ wsAll := List.mem_of_getElem? (i := 4) rfl
set_option maxRecDepth 100000 in
theorem tw_5 : (.selects "RecipePlans$CutSearch" ⟨"RecipePlans$CutSearch", "replaced", "([JIII)J"⟩ ⟨"RecipePlans$CutSearch", "replaced", "([JIII)J"⟩ : Cond) ∈ wsAll := List.mem_of_getElem? (i := 5) rfl
set_option maxRecDepth 100000 in
theorem tw_6 : (.selects "RecipePlans$CutSearch" ⟨"RecipePlans$CutSearch", "weigh", "()V"⟩ ⟨"RecipePlans$CutSearch", "weigh", "()V"⟩ : Cond) ∈ wsAll := List.mem_of_getElem? (i := 6) rfl
set_option maxRecDepth 100000 in
theorem tw_7 : (.selects "RecipePlans$CutSearch" ⟨"RecipePlans$CutSearch", "add", "(I[J)Z"⟩ ⟨"RecipePlans$CutSearch", "add", "(I[J)Z"⟩ : Cond) ∈ wsAll := List.mem_of_getElem? (i := 7) rfl
set_option maxRecDepth 100000 in
theorem tw_8 : (.selects "RecipePlans$CutSearch" ⟨"RecipePlans$CutSearch", "addBoth", "(II)Z"⟩ ⟨"RecipePlans$CutSearch", "addBoth", "(II)Z"⟩ : Cond) ∈ wsAll := List.mem_of_getElem? (i := 8) rfl
set_option maxRecDepth 100000 in
theorem tw_9 : (.selects "RecipePlans$WholeSearch" ⟨"RecipePlans$WholeSearch", "begin", "()V"⟩ ⟨"RecipePlans$WholeSearch", "begin", "()V"⟩ : Cond) ∈ wsAll := List.mem_of_getElem? (i := 9) rfl
set_option maxRecDepth 100000 in
theorem tw_10 : (.selects "RecipePlans$WholeSearch" ⟨"RecipePlans$WholeSearch", "place", "(IJ)V"⟩ ⟨"RecipePlans$WholeSearch", "place", "(IJ)V"⟩ : Cond) ∈ wsAll := List.mem_of_getElem? (i := 10) rfl
set_option maxRecDepth 100000 in
theorem tw_11 : (.selects "RecipePlans$WholeSearch" ⟨"RecipePlans$WholeSearch", "mostLoads", "(I)I"⟩ ⟨"RecipePlans$WholeSearch", "mostLoads", "(I)I"⟩ : Cond) ∈ wsAll := List.mem_of_getElem? (i := 11) rfl
set_option maxRecDepth 100000 in
theorem tw_12 : (.selects "RecipePlans$WholeSearch" ⟨"RecipePlans$WholeSearch", "fewestLoads", "(I)I"⟩ ⟨"RecipePlans$WholeSearch", "fewestLoads", "(I)I"⟩ : Cond) ∈ wsAll := List.mem_of_getElem? (i := 12) rfl
set_option maxRecDepth 100000 in
theorem tw_13 : (.selects "RecipePlans$WholeSearch" ⟨"RecipePlans$WholeSearch", "take", "(IIJ)V"⟩ ⟨"RecipePlans$WholeSearch", "take", "(IIJ)V"⟩ : Cond) ∈ wsAll := List.mem_of_getElem? (i := 13) rfl
set_option maxRecDepth 100000 in
theorem tw_14 : (.selects "RecipePlans$WholeSearch" ⟨"RecipePlans$WholeSearch", "offer", "(J)V"⟩ ⟨"RecipePlans$WholeSearch", "offer", "(J)V"⟩ : Cond) ∈ wsAll := List.mem_of_getElem? (i := 14) rfl
set_option maxRecDepth 100000 in
theorem tw_15 : (.selects "RecipePlans$CutSearch" ⟨"RecipePlans$CutSearch", "allBreak", "(I)Z"⟩ ⟨"RecipePlans$CutSearch", "allBreak", "(I)Z"⟩ : Cond) ∈ wsAll := List.mem_of_getElem? (i := 15) rfl
set_option maxRecDepth 100000 in
theorem tw_16 : (.selects "RecipePlansModel" ⟨"RecipePlansModel", "tell", "(III)Z"⟩ ⟨"RecipePlansModel", "tell", "(III)Z"⟩ : Cond) ∈ wsAll := List.mem_of_getElem? (i := 16) rfl
set_option maxRecDepth 100000 in
theorem tw_17 : (.selects "RecipePlansModel" ⟨"RecipePlansModel", "firstBroken", "()I"⟩ ⟨"RecipePlansModel", "firstBroken", "()I"⟩ : Cond) ∈ wsAll := List.mem_of_getElem? (i := 17) rfl
set_option maxRecDepth 100000 in
theorem tw_18 : (.selects "RecipePlansModel" ⟨"RecipePlansModel", "keeps", "(I)Z"⟩ ⟨"RecipePlansModel", "keeps", "(I)Z"⟩ : Cond) ∈ wsAll := List.mem_of_getElem? (i := 18) rfl
set_option maxRecDepth 100000 in
theorem tw_19 : (.selects "RecipePlansModel" ⟨"RecipePlansModel", "holds", "(I)I"⟩ ⟨"RecipePlansModel", "holds", "(I)I"⟩ : Cond) ∈ wsAll := List.mem_of_getElem? (i := 19) rfl
set_option maxRecDepth 100000 in
theorem tw_20 : (.selects "RecipePlansModel" ⟨"RecipePlansModel", "findWhole", "()Z"⟩ ⟨"RecipePlansModel", "findWhole", "()Z"⟩ : Cond) ∈ wsAll := List.mem_of_getElem? (i := 20) rfl
set_option maxRecDepth 100000 in
theorem tw_21 : (.selects "RecipePlansModel" ⟨"RecipePlansModel", "setLimits", "()V"⟩ ⟨"RecipePlansModel", "setLimits", "()V"⟩ : Cond) ∈ wsAll := List.mem_of_getElem? (i := 21) rfl
set_option maxRecDepth 100000 in
theorem tw_22 : (.selects "RecipePlansModel" ⟨"RecipePlansModel", "setLimit", "(IIZ)V"⟩ ⟨"RecipePlansModel", "setLimit", "(IIZ)V"⟩ : Cond) ∈ wsAll := List.mem_of_getElem? (i := 22) rfl
set_option maxRecDepth 100000 in
theorem tw_23 : (.selects "RecipePlansModel" ⟨"RecipePlansModel", "lookAtCorners", "()V"⟩ ⟨"RecipePlansModel", "lookAtCorners", "()V"⟩ : Cond) ∈ wsAll := List.mem_of_getElem? (i := 23) rfl
set_option maxRecDepth 100000 in
theorem tw_24 : (.selects "RecipePlansModel" ⟨"RecipePlansModel", "lookAtCorner", "()V"⟩ ⟨"RecipePlansModel", "lookAtCorner", "()V"⟩ : Cond) ∈ wsAll := List.mem_of_getElem? (i := 24) rfl
set_option maxRecDepth 100000 in
theorem tw_25 : (.selects "RecipePlansModel" ⟨"RecipePlansModel", "meet", "()Z"⟩ ⟨"RecipePlansModel", "meet", "()Z"⟩ : Cond) ∈ wsAll := List.mem_of_getElem? (i := 25) rfl
set_option maxRecDepth 100000 in
theorem tw_26 : (.selects "RecipePlansModel" ⟨"RecipePlansModel", "determinant", "(I)J"⟩ ⟨"RecipePlansModel", "determinant", "(I)J"⟩ : Cond) ∈ wsAll := List.mem_of_getElem? (i := 26) rfl
set_option maxRecDepth 100000 in
theorem tw_27 : (.selects "RecipePlansModel" ⟨"RecipePlansModel", "minor", "(IIIII)J"⟩ ⟨"RecipePlansModel", "minor", "(IIIII)J"⟩ : Cond) ∈ wsAll := List.mem_of_getElem? (i := 27) rfl
set_option maxRecDepth 100000 in
theorem tw_28 : (.selects "RecipePlansModel" ⟨"RecipePlansModel", "at", "(III)J"⟩ ⟨"RecipePlansModel", "at", "(III)J"⟩ : Cond) ∈ wsAll := List.mem_of_getElem? (i := 28) rfl
set_option maxRecDepth 100000 in
theorem tw_29 : (.selects "RecipePlansModel" ⟨"RecipePlansModel", "keptRules", "()I"⟩ ⟨"RecipePlansModel", "keptRules", "()I"⟩ : Cond) ∈ wsAll := List.mem_of_getElem? (i := 29) rfl
set_option maxRecDepth 100000 in
theorem tw_30 : (.selects "RecipePlansModel" ⟨"RecipePlansModel", "isKept", "(I)Z"⟩ ⟨"RecipePlansModel", "isKept", "(I)Z"⟩ : Cond) ∈ wsAll := List.mem_of_getElem? (i := 30) rfl
set_option maxRecDepth 100000 in
theorem tw_31 : (.selects "RecipePlansModel" ⟨"RecipePlansModel", "findClash", "()V"⟩ ⟨"RecipePlansModel", "findClash", "()V"⟩ : Cond) ∈ wsAll := List.mem_of_getElem? (i := 31) rfl
set_option maxRecDepth 100000 in
theorem tw_32 : (.selects "RecipePlansModel" ⟨"RecipePlansModel", "canBeKept", "(I)Z"⟩ ⟨"RecipePlansModel", "canBeKept", "(I)Z"⟩ : Cond) ∈ wsAll := List.mem_of_getElem? (i := 32) rfl
set_option maxRecDepth 100000 in
theorem tw_33 : (.initialized "RecipePlansLaw" : Cond) ∈ wsAll := List.mem_of_getElem? (i := 33) rfl
set_option maxRecDepth 100000 in
theorem tw_34 : (.initialized "RecipePlans" : Cond) ∈ wsAll := List.mem_of_getElem? (i := 34) rfl
set_option maxRecDepth 100000 in
theorem tw_35 : (.initialized "RecipePlans$Lots" : Cond) ∈ wsAll := List.mem_of_getElem? (i := 35) rfl
set_option maxRecDepth 100000 in
theorem tw_36 : (.initialized "RecipePlans$Rules" : Cond) ∈ wsAll := List.mem_of_getElem? (i := 36) rfl
set_option maxRecDepth 100000 in
theorem tw_37 : (.initialized "RecipePlans$Sides" : Cond) ∈ wsAll := List.mem_of_getElem? (i := 37) rfl
set_option maxRecDepth 100000 in
theorem tw_38 : (.initialized "RecipePlans$CutSearch" : Cond) ∈ wsAll := List.mem_of_getElem? (i := 38) rfl
set_option maxRecDepth 100000 in
theorem tw_39 : (.initialized "RecipePlans$WholeSearch" : Cond) ∈ wsAll := List.mem_of_getElem? (i := 39) rfl
set_option maxRecDepth 100000 in
theorem tw_40 : (.initialized "RecipePlans$Found" : Cond) ∈ wsAll := List.mem_of_getElem? (i := 40) rfl
set_option maxRecDepth 100000 in
theorem tw_41 : (.initialized "RecipePlansModel" : Cond) ∈ wsAll := List.mem_of_getElem? (i := 41) rfl
set_option maxRecDepth 100000 in
theorem tw_42 : (.initialized "java/lang/Integer" : Cond) ∈ wsAll := List.mem_of_getElem? (i := 42) rfl
set_option maxRecDepth 100000 in
theorem tw_43 : (.initialized "java/lang/Math" : Cond) ∈ wsAll := List.mem_of_getElem? (i := 43) rfl
set_option maxRecDepth 100000 in
theorem tw_44 : (.classLink "RecipePlansLaw" 7 "RecipePlans" : Cond) ∈ wsAll := List.mem_of_getElem? (i := 44) rfl
set_option maxRecDepth 100000 in
theorem tw_45 : (.instantiable "RecipePlans" 8 : Cond) ∈ wsAll := List.mem_of_getElem? (i := 45) rfl
set_option maxRecDepth 100000 in
theorem tw_46 : (.methodLink "RecipePlansLaw" 9 ⟨"RecipePlans", "<init>", "()V"⟩ : Cond) ∈ wsAll := List.mem_of_getElem? (i := 46) rfl
set_option maxRecDepth 100000 in
theorem tw_47 : (.instanceMethod ⟨"RecipePlans", "<init>", "()V"⟩ : Cond) ∈ wsAll := List.mem_of_getElem? (i := 47) rfl
set_option maxRecDepth 100000 in
theorem tw_48 : (.code ⟨"RecipePlans", "<init>", "()V"⟩ prog_1_method_1_code 1 none : Cond) ∈ wsAll := List.mem_of_getElem? (i := 48) rfl
set_option maxRecDepth 100000 in
theorem tw_49 : (.methodLink "RecipePlans" 3 ⟨"java/lang/Object", "<init>", "()V"⟩ : Cond) ∈ wsAll := List.mem_of_getElem? (i := 49) rfl
set_option maxRecDepth 100000 in
theorem tw_50 : (.instanceMethod ⟨"java/lang/Object", "<init>", "()V"⟩ : Cond) ∈ wsAll := List.mem_of_getElem? (i := 50) rfl
set_option maxRecDepth 100000 in
theorem tw_51 : (.code ⟨"java/lang/Object", "<init>", "()V"⟩ object_method_1_code 1 none : Cond) ∈ wsAll := List.mem_of_getElem? (i := 51) rfl
set_option maxRecDepth 100000 in
theorem tw_52 : (.classLink "RecipePlans" 9 "RecipePlans$Lots" : Cond) ∈ wsAll := List.mem_of_getElem? (i := 52) rfl
set_option maxRecDepth 100000 in
theorem tw_53 : (.instantiable "RecipePlans$Lots" 4 : Cond) ∈ wsAll := List.mem_of_getElem? (i := 53) rfl
set_option maxRecDepth 100000 in
theorem tw_54 : (.methodLink "RecipePlans" 11 ⟨"RecipePlans$Lots", "<init>", "()V"⟩ : Cond) ∈ wsAll := List.mem_of_getElem? (i := 54) rfl
set_option maxRecDepth 100000 in
theorem tw_55 : (.instanceMethod ⟨"RecipePlans$Lots", "<init>", "()V"⟩ : Cond) ∈ wsAll := List.mem_of_getElem? (i := 55) rfl
set_option maxRecDepth 100000 in
theorem tw_56 : (.code ⟨"RecipePlans$Lots", "<init>", "()V"⟩ prog_4_method_1_code 2 none : Cond) ∈ wsAll := List.mem_of_getElem? (i := 56) rfl
set_option maxRecDepth 100000 in
theorem tw_57 : (.methodLink "RecipePlans$Lots" 3 ⟨"java/lang/Object", "<init>", "()V"⟩ : Cond) ∈ wsAll := List.mem_of_getElem? (i := 57) rfl
set_option maxRecDepth 100000 in
theorem tw_58 : (.classLink "RecipePlans$Lots" 19 "[[J" : Cond) ∈ wsAll := List.mem_of_getElem? (i := 58) rfl
set_option maxRecDepth 100000 in
theorem tw_59 : (.fieldLink "RecipePlans" 62 "RecipePlans$Lots" "count" "I" : Cond) ∈ wsAll := List.mem_of_getElem? (i := 59) rfl
set_option maxRecDepth 100000 in
theorem tw_60 : (.fieldLink "RecipePlans$Lots" 9 "RecipePlans$Lots" "stock" "[I" : Cond) ∈ wsAll := List.mem_of_getElem? (i := 60) rfl
set_option maxRecDepth 100000 in
theorem tw_61 : (.fieldLink "RecipePlans" 76 "RecipePlans$Lots" "stock" "[I" : Cond) ∈ wsAll := List.mem_of_getElem? (i := 61) rfl
set_option maxRecDepth 100000 in
theorem tw_62 : (.fieldLink "RecipePlans$WholeSearch" 67 "RecipePlans$Lots" "stock" "[I" : Cond) ∈ wsAll := List.mem_of_getElem? (i := 62) rfl
set_option maxRecDepth 100000 in
theorem tw_63 : (.fieldLink "RecipePlans$CutSearch" 136 "RecipePlans$Lots" "stock" "[I" : Cond) ∈ wsAll := List.mem_of_getElem? (i := 63) rfl
set_option maxRecDepth 100000 in
theorem tw_64 : (.fieldLink "RecipePlans$Lots" 15 "RecipePlans$Lots" "cents" "[J" : Cond) ∈ wsAll := List.mem_of_getElem? (i := 64) rfl
set_option maxRecDepth 100000 in
theorem tw_65 : (.fieldLink "RecipePlans" 80 "RecipePlans$Lots" "cents" "[J" : Cond) ∈ wsAll := List.mem_of_getElem? (i := 65) rfl
set_option maxRecDepth 100000 in
theorem tw_66 : (.fieldLink "RecipePlans$WholeSearch" 62 "RecipePlans$Lots" "cents" "[J" : Cond) ∈ wsAll := List.mem_of_getElem? (i := 66) rfl
set_option maxRecDepth 100000 in
theorem tw_67 : (.fieldLink "RecipePlans$Lots" 21 "RecipePlans$Lots" "forms" "[[J" : Cond) ∈ wsAll := List.mem_of_getElem? (i := 67) rfl
set_option maxRecDepth 100000 in
theorem tw_68 : (.fieldLink "RecipePlans$Sides" 30 "RecipePlans$Lots" "forms" "[[J" : Cond) ∈ wsAll := List.mem_of_getElem? (i := 68) rfl
set_option maxRecDepth 100000 in
theorem tw_69 : (.fieldLink "RecipePlans" 91 "RecipePlans$Lots" "forms" "[[J" : Cond) ∈ wsAll := List.mem_of_getElem? (i := 69) rfl
set_option maxRecDepth 100000 in
theorem tw_70 : (.fieldLink "RecipePlans$CutSearch" 108 "RecipePlans$Lots" "forms" "[[J" : Cond) ∈ wsAll := List.mem_of_getElem? (i := 70) rfl
set_option maxRecDepth 100000 in
theorem tw_75 : (.arrayClass .int : Cond) ∈ wsAll := List.mem_of_getElem? (i := 75) rfl
set_option maxRecDepth 100000 in
theorem tw_76 : (.arrayClass .long : Cond) ∈ wsAll := List.mem_of_getElem? (i := 76) rfl
set_option maxRecDepth 100000 in
theorem tw_77 : (.classLink "RecipePlans" 16 "RecipePlans$Rules" : Cond) ∈ wsAll := List.mem_of_getElem? (i := 77) rfl
set_option maxRecDepth 100000 in
theorem tw_78 : (.instantiable "RecipePlans$Rules" 6 : Cond) ∈ wsAll := List.mem_of_getElem? (i := 78) rfl
set_option maxRecDepth 100000 in
theorem tw_79 : (.methodLink "RecipePlans" 18 ⟨"RecipePlans$Rules", "<init>", "()V"⟩ : Cond) ∈ wsAll := List.mem_of_getElem? (i := 79) rfl
set_option maxRecDepth 100000 in
theorem tw_80 : (.instanceMethod ⟨"RecipePlans$Rules", "<init>", "()V"⟩ : Cond) ∈ wsAll := List.mem_of_getElem? (i := 80) rfl
set_option maxRecDepth 100000 in
theorem tw_81 : (.code ⟨"RecipePlans$Rules", "<init>", "()V"⟩ prog_5_method_1_code 1 none : Cond) ∈ wsAll := List.mem_of_getElem? (i := 81) rfl
set_option maxRecDepth 100000 in
theorem tw_82 : (.methodLink "RecipePlans$Rules" 5 ⟨"java/lang/Object", "<init>", "()V"⟩ : Cond) ∈ wsAll := List.mem_of_getElem? (i := 82) rfl
set_option maxRecDepth 100000 in
theorem tw_83 : (.fieldLink "RecipePlans$Rules" 27 "RecipePlans$Rules" "told" "I" : Cond) ∈ wsAll := List.mem_of_getElem? (i := 83) rfl
set_option maxRecDepth 100000 in
theorem tw_84 : (.fieldLink "RecipePlans" 110 "RecipePlans$Rules" "told" "I" : Cond) ∈ wsAll := List.mem_of_getElem? (i := 84) rfl
set_option maxRecDepth 100000 in
theorem tw_85 : (.fieldLink "RecipePlans$CutSearch" 178 "RecipePlans$Rules" "told" "I" : Cond) ∈ wsAll := List.mem_of_getElem? (i := 85) rfl
set_option maxRecDepth 100000 in
theorem tw_86 : (.fieldLink "RecipePlans$Rules" 11 "RecipePlans$Rules" "first" "[I" : Cond) ∈ wsAll := List.mem_of_getElem? (i := 86) rfl
set_option maxRecDepth 100000 in
theorem tw_87 : (.fieldLink "RecipePlans$Sides" 35 "RecipePlans$Rules" "first" "[I" : Cond) ∈ wsAll := List.mem_of_getElem? (i := 87) rfl
set_option maxRecDepth 100000 in
theorem tw_88 : (.fieldLink "RecipePlans$CutSearch" 111 "RecipePlans$Rules" "first" "[I" : Cond) ∈ wsAll := List.mem_of_getElem? (i := 88) rfl
set_option maxRecDepth 100000 in
theorem tw_89 : (.fieldLink "RecipePlans$Rules" 15 "RecipePlans$Rules" "second" "[I" : Cond) ∈ wsAll := List.mem_of_getElem? (i := 89) rfl
set_option maxRecDepth 100000 in
theorem tw_90 : (.fieldLink "RecipePlans$Sides" 38 "RecipePlans$Rules" "second" "[I" : Cond) ∈ wsAll := List.mem_of_getElem? (i := 90) rfl
set_option maxRecDepth 100000 in
theorem tw_91 : (.fieldLink "RecipePlans$CutSearch" 105 "RecipePlans$Rules" "second" "[I" : Cond) ∈ wsAll := List.mem_of_getElem? (i := 91) rfl
set_option maxRecDepth 100000 in
theorem tw_92 : (.fieldLink "RecipePlans$Rules" 18 "RecipePlans$Rules" "low" "[I" : Cond) ∈ wsAll := List.mem_of_getElem? (i := 92) rfl
set_option maxRecDepth 100000 in
theorem tw_93 : (.fieldLink "RecipePlans$Sides" 48 "RecipePlans$Rules" "low" "[I" : Cond) ∈ wsAll := List.mem_of_getElem? (i := 93) rfl
set_option maxRecDepth 100000 in
theorem tw_94 : (.fieldLink "RecipePlans$CutSearch" 93 "RecipePlans$Rules" "low" "[I" : Cond) ∈ wsAll := List.mem_of_getElem? (i := 94) rfl
set_option maxRecDepth 100000 in
theorem tw_95 : (.fieldLink "RecipePlans$Rules" 21 "RecipePlans$Rules" "high" "[I" : Cond) ∈ wsAll := List.mem_of_getElem? (i := 95) rfl
set_option maxRecDepth 100000 in
theorem tw_96 : (.fieldLink "RecipePlans$Sides" 51 "RecipePlans$Rules" "high" "[I" : Cond) ∈ wsAll := List.mem_of_getElem? (i := 96) rfl
set_option maxRecDepth 100000 in
theorem tw_97 : (.fieldLink "RecipePlans$CutSearch" 98 "RecipePlans$Rules" "high" "[I" : Cond) ∈ wsAll := List.mem_of_getElem? (i := 97) rfl
set_option maxRecDepth 100000 in
theorem tw_98 : (.fieldLink "RecipePlans$Rules" 24 "RecipePlans$Rules" "over" "[I" : Cond) ∈ wsAll := List.mem_of_getElem? (i := 98) rfl
set_option maxRecDepth 100000 in
theorem tw_99 : (.fieldLink "RecipePlans$Sides" 45 "RecipePlans$Rules" "over" "[I" : Cond) ∈ wsAll := List.mem_of_getElem? (i := 99) rfl
set_option maxRecDepth 100000 in
theorem tw_106 : (.classLink "RecipePlans" 23 "RecipePlans$Sides" : Cond) ∈ wsAll := List.mem_of_getElem? (i := 106) rfl
set_option maxRecDepth 100000 in
theorem tw_107 : (.instantiable "RecipePlans$Sides" 3 : Cond) ∈ wsAll := List.mem_of_getElem? (i := 107) rfl
set_option maxRecDepth 100000 in
theorem tw_108 : (.methodLink "RecipePlans" 25 ⟨"RecipePlans$Sides", "<init>", "()V"⟩ : Cond) ∈ wsAll := List.mem_of_getElem? (i := 108) rfl
set_option maxRecDepth 100000 in
theorem tw_109 : (.instanceMethod ⟨"RecipePlans$Sides", "<init>", "()V"⟩ : Cond) ∈ wsAll := List.mem_of_getElem? (i := 109) rfl
set_option maxRecDepth 100000 in
theorem tw_110 : (.code ⟨"RecipePlans$Sides", "<init>", "()V"⟩ prog_6_method_1_code 1 none : Cond) ∈ wsAll := List.mem_of_getElem? (i := 110) rfl
set_option maxRecDepth 100000 in
theorem tw_111 : (.methodLink "RecipePlans$Sides" 3 ⟨"java/lang/Object", "<init>", "()V"⟩ : Cond) ∈ wsAll := List.mem_of_getElem? (i := 111) rfl
set_option maxRecDepth 100000 in
theorem tw_112 : (.classLink "RecipePlans$Sides" 15 "[[J" : Cond) ∈ wsAll := List.mem_of_getElem? (i := 112) rfl
set_option maxRecDepth 100000 in
theorem tw_113 : (.fieldLink "RecipePlans$Sides" 20 "RecipePlans$Sides" "count" "I" : Cond) ∈ wsAll := List.mem_of_getElem? (i := 113) rfl
set_option maxRecDepth 100000 in
theorem tw_114 : (.fieldLink "RecipePlans$WholeSearch" 53 "RecipePlans$Sides" "count" "I" : Cond) ∈ wsAll := List.mem_of_getElem? (i := 114) rfl
set_option maxRecDepth 100000 in
theorem tw_115 : (.fieldLink "RecipePlans$CutSearch" 78 "RecipePlans$Sides" "count" "I" : Cond) ∈ wsAll := List.mem_of_getElem? (i := 115) rfl
set_option maxRecDepth 100000 in
theorem tw_116 : (.fieldLink "RecipePlans$Sides" 9 "RecipePlans$Sides" "rule" "[I" : Cond) ∈ wsAll := List.mem_of_getElem? (i := 116) rfl
set_option maxRecDepth 100000 in
theorem tw_117 : (.fieldLink "RecipePlans$CutSearch" 83 "RecipePlans$Sides" "rule" "[I" : Cond) ∈ wsAll := List.mem_of_getElem? (i := 117) rfl
set_option maxRecDepth 100000 in
theorem tw_118 : (.fieldLink "RecipePlans$Sides" 17 "RecipePlans$Sides" "row" "[[J" : Cond) ∈ wsAll := List.mem_of_getElem? (i := 118) rfl
set_option maxRecDepth 100000 in
theorem tw_119 : (.fieldLink "RecipePlans$WholeSearch" 59 "RecipePlans$Sides" "row" "[[J" : Cond) ∈ wsAll := List.mem_of_getElem? (i := 119) rfl
set_option maxRecDepth 100000 in
theorem tw_120 : (.fieldLink "RecipePlans$CutSearch" 86 "RecipePlans$Sides" "row" "[[J" : Cond) ∈ wsAll := List.mem_of_getElem? (i := 120) rfl
set_option maxRecDepth 100000 in
theorem tw_124 : (.classLink "RecipePlans" 30 "RecipePlans$CutSearch" : Cond) ∈ wsAll := List.mem_of_getElem? (i := 124) rfl
set_option maxRecDepth 100000 in
theorem tw_125 : (.instantiable "RecipePlans$CutSearch" 13 : Cond) ∈ wsAll := List.mem_of_getElem? (i := 125) rfl
set_option maxRecDepth 100000 in
theorem tw_126 : (.methodLink "RecipePlans" 32 ⟨"RecipePlans$CutSearch", "<init>", "(LRecipePlans$Lots;LRecipePlans$Rules;LRecipePlans$Sides;)V"⟩ : Cond) ∈ wsAll := List.mem_of_getElem? (i := 126) rfl
set_option maxRecDepth 100000 in
theorem tw_127 : (.instanceMethod ⟨"RecipePlans$CutSearch", "<init>", "(LRecipePlans$Lots;LRecipePlans$Rules;LRecipePlans$Sides;)V"⟩ : Cond) ∈ wsAll := List.mem_of_getElem? (i := 127) rfl
set_option maxRecDepth 100000 in
theorem tw_128 : (.code ⟨"RecipePlans$CutSearch", "<init>", "(LRecipePlans$Lots;LRecipePlans$Rules;LRecipePlans$Sides;)V"⟩ prog_2_method_1_code 4 none : Cond) ∈ wsAll := List.mem_of_getElem? (i := 128) rfl
set_option maxRecDepth 100000 in
theorem tw_129 : (.methodLink "RecipePlans$CutSearch" 3 ⟨"java/lang/Object", "<init>", "()V"⟩ : Cond) ∈ wsAll := List.mem_of_getElem? (i := 129) rfl
set_option maxRecDepth 100000 in
theorem tw_130 : (.classLink "RecipePlans$CutSearch" 23 "[[J" : Cond) ∈ wsAll := List.mem_of_getElem? (i := 130) rfl
set_option maxRecDepth 100000 in
theorem tw_131 : (.fieldLink "RecipePlans$CutSearch" 9 "RecipePlans$CutSearch" "lots" "LRecipePlans$Lots;" : Cond) ∈ wsAll := List.mem_of_getElem? (i := 131) rfl
set_option maxRecDepth 100000 in
theorem tw_132 : (.fieldLink "RecipePlans$CutSearch" 15 "RecipePlans$CutSearch" "rules" "LRecipePlans$Rules;" : Cond) ∈ wsAll := List.mem_of_getElem? (i := 132) rfl
set_option maxRecDepth 100000 in
theorem tw_133 : (.fieldLink "RecipePlans$CutSearch" 19 "RecipePlans$CutSearch" "sides" "LRecipePlans$Sides;" : Cond) ∈ wsAll := List.mem_of_getElem? (i := 133) rfl
set_option maxRecDepth 100000 in
theorem tw_134 : (.fieldLink "RecipePlans$CutSearch" 25 "RecipePlans$CutSearch" "minors" "[[J" : Cond) ∈ wsAll := List.mem_of_getElem? (i := 134) rfl
set_option maxRecDepth 100000 in
theorem tw_135 : (.fieldLink "RecipePlans$CutSearch" 28 "RecipePlans$CutSearch" "point" "[J" : Cond) ∈ wsAll := List.mem_of_getElem? (i := 135) rfl
set_option maxRecDepth 100000 in
theorem tw_136 : (.fieldLink "RecipePlans$CutSearch" 32 "RecipePlans$CutSearch" "held" "[J" : Cond) ∈ wsAll := List.mem_of_getElem? (i := 136) rfl
set_option maxRecDepth 100000 in
theorem tw_137 : (.fieldLink "RecipePlans$CutSearch" 35 "RecipePlans$CutSearch" "seen" "[Z" : Cond) ∈ wsAll := List.mem_of_getElem? (i := 137) rfl
set_option maxRecDepth 100000 in
theorem tw_138 : (.fieldLink "RecipePlans$CutSearch" 39 "RecipePlans$CutSearch" "breaks" "[I" : Cond) ∈ wsAll := List.mem_of_getElem? (i := 138) rfl
set_option maxRecDepth 100000 in
theorem tw_139 : (.fieldLink "RecipePlans$CutSearch" 50 "RecipePlans$CutSearch" "breakCount" "I" : Cond) ∈ wsAll := List.mem_of_getElem? (i := 139) rfl
set_option maxRecDepth 100000 in
theorem tw_140 : (.fieldLink "RecipePlans$CutSearch" 71 "RecipePlans$CutSearch" "open" "I" : Cond) ∈ wsAll := List.mem_of_getElem? (i := 140) rfl
set_option maxRecDepth 100000 in
theorem tw_141 : (.fieldLink "RecipePlans$Found" 21 "RecipePlans$CutSearch" "suits" "Z" : Cond) ∈ wsAll := List.mem_of_getElem? (i := 141) rfl
set_option maxRecDepth 100000 in
theorem tw_142 : (.fieldLink "RecipePlans$CutSearch" 54 "RecipePlans$CutSearch" "suits" "Z" : Cond) ∈ wsAll := List.mem_of_getElem? (i := 142) rfl
set_option maxRecDepth 100000 in
theorem tw_143 : (.fieldLink "RecipePlans" 120 "RecipePlans$CutSearch" "suits" "Z" : Cond) ∈ wsAll := List.mem_of_getElem? (i := 143) rfl
set_option maxRecDepth 100000 in
theorem tw_144 : (.fieldLink "RecipePlans$Found" 28 "RecipePlans$CutSearch" "above" "J" : Cond) ∈ wsAll := List.mem_of_getElem? (i := 144) rfl
set_option maxRecDepth 100000 in
theorem tw_145 : (.fieldLink "RecipePlans$CutSearch" 58 "RecipePlans$CutSearch" "above" "J" : Cond) ∈ wsAll := List.mem_of_getElem? (i := 145) rfl
set_option maxRecDepth 100000 in
theorem tw_146 : (.fieldLink "RecipePlans$Found" 33 "RecipePlans$CutSearch" "below" "J" : Cond) ∈ wsAll := List.mem_of_getElem? (i := 146) rfl
set_option maxRecDepth 100000 in
theorem tw_147 : (.fieldLink "RecipePlans$CutSearch" 62 "RecipePlans$CutSearch" "below" "J" : Cond) ∈ wsAll := List.mem_of_getElem? (i := 147) rfl
set_option maxRecDepth 100000 in
theorem tw_161 : (.arrayClass .boolean : Cond) ∈ wsAll := List.mem_of_getElem? (i := 161) rfl
set_option maxRecDepth 100000 in
theorem tw_162 : (.classLink "RecipePlans" 39 "RecipePlans$WholeSearch" : Cond) ∈ wsAll := List.mem_of_getElem? (i := 162) rfl
set_option maxRecDepth 100000 in
theorem tw_163 : (.instantiable "RecipePlans$WholeSearch" 9 : Cond) ∈ wsAll := List.mem_of_getElem? (i := 163) rfl
set_option maxRecDepth 100000 in
theorem tw_164 : (.methodLink "RecipePlans" 41 ⟨"RecipePlans$WholeSearch", "<init>", "(LRecipePlans$Lots;LRecipePlans$Sides;)V"⟩ : Cond) ∈ wsAll := List.mem_of_getElem? (i := 164) rfl
set_option maxRecDepth 100000 in
theorem tw_165 : (.instanceMethod ⟨"RecipePlans$WholeSearch", "<init>", "(LRecipePlans$Lots;LRecipePlans$Sides;)V"⟩ : Cond) ∈ wsAll := List.mem_of_getElem? (i := 165) rfl
set_option maxRecDepth 100000 in
theorem tw_166 : (.code ⟨"RecipePlans$WholeSearch", "<init>", "(LRecipePlans$Lots;LRecipePlans$Sides;)V"⟩ prog_7_method_1_code 3 none : Cond) ∈ wsAll := List.mem_of_getElem? (i := 166) rfl
set_option maxRecDepth 100000 in
theorem tw_167 : (.methodLink "RecipePlans$WholeSearch" 3 ⟨"java/lang/Object", "<init>", "()V"⟩ : Cond) ∈ wsAll := List.mem_of_getElem? (i := 167) rfl
set_option maxRecDepth 100000 in
theorem tw_168 : (.classLink "RecipePlans$WholeSearch" 19 "[[J" : Cond) ∈ wsAll := List.mem_of_getElem? (i := 168) rfl
set_option maxRecDepth 100000 in
theorem tw_169 : (.fieldLink "RecipePlans$WholeSearch" 9 "RecipePlans$WholeSearch" "lots" "LRecipePlans$Lots;" : Cond) ∈ wsAll := List.mem_of_getElem? (i := 169) rfl
set_option maxRecDepth 100000 in
theorem tw_170 : (.fieldLink "RecipePlans$WholeSearch" 15 "RecipePlans$WholeSearch" "sides" "LRecipePlans$Sides;" : Cond) ∈ wsAll := List.mem_of_getElem? (i := 170) rfl
set_option maxRecDepth 100000 in
theorem tw_171 : (.fieldLink "RecipePlans$WholeSearch" 21 "RecipePlans$WholeSearch" "value" "[[J" : Cond) ∈ wsAll := List.mem_of_getElem? (i := 171) rfl
set_option maxRecDepth 100000 in
theorem tw_172 : (.fieldLink "RecipePlans$WholeSearch" 24 "RecipePlans$WholeSearch" "reach" "[[J" : Cond) ∈ wsAll := List.mem_of_getElem? (i := 172) rfl
set_option maxRecDepth 100000 in
theorem tw_173 : (.fieldLink "RecipePlans$WholeSearch" 27 "RecipePlans$WholeSearch" "least" "[J" : Cond) ∈ wsAll := List.mem_of_getElem? (i := 173) rfl
set_option maxRecDepth 100000 in
theorem tw_174 : (.fieldLink "RecipePlans$WholeSearch" 31 "RecipePlans$WholeSearch" "taken" "[I" : Cond) ∈ wsAll := List.mem_of_getElem? (i := 174) rfl
set_option maxRecDepth 100000 in
theorem tw_175 : (.fieldLink "RecipePlans$WholeSearch" 38 "RecipePlans$WholeSearch" "suits" "Z" : Cond) ∈ wsAll := List.mem_of_getElem? (i := 175) rfl
set_option maxRecDepth 100000 in
theorem tw_176 : (.fieldLink "RecipePlans$Found" 45 "RecipePlans$WholeSearch" "suits" "Z" : Cond) ∈ wsAll := List.mem_of_getElem? (i := 176) rfl
set_option maxRecDepth 100000 in
theorem tw_177 : (.fieldLink "RecipePlans" 135 "RecipePlans$WholeSearch" "suits" "Z" : Cond) ∈ wsAll := List.mem_of_getElem? (i := 177) rfl
set_option maxRecDepth 100000 in
theorem tw_178 : (.fieldLink "RecipePlans$WholeSearch" 42 "RecipePlans$WholeSearch" "total" "J" : Cond) ∈ wsAll := List.mem_of_getElem? (i := 178) rfl
set_option maxRecDepth 100000 in
theorem tw_179 : (.fieldLink "RecipePlans$Found" 54 "RecipePlans$WholeSearch" "total" "J" : Cond) ∈ wsAll := List.mem_of_getElem? (i := 179) rfl
set_option maxRecDepth 100000 in
theorem tw_180 : (.fieldLink "RecipePlans$WholeSearch" 35 "RecipePlans$WholeSearch" "mix" "[I" : Cond) ∈ wsAll := List.mem_of_getElem? (i := 180) rfl
set_option maxRecDepth 100000 in
theorem tw_181 : (.fieldLink "RecipePlans$Found" 58 "RecipePlans$WholeSearch" "mix" "[I" : Cond) ∈ wsAll := List.mem_of_getElem? (i := 181) rfl
set_option maxRecDepth 100000 in
theorem tw_191 : (.classLink "RecipePlans" 48 "RecipePlans$Found" : Cond) ∈ wsAll := List.mem_of_getElem? (i := 191) rfl
set_option maxRecDepth 100000 in
theorem tw_192 : (.instantiable "RecipePlans$Found" 8 : Cond) ∈ wsAll := List.mem_of_getElem? (i := 192) rfl
set_option maxRecDepth 100000 in
theorem tw_193 : (.methodLink "RecipePlans" 50 ⟨"RecipePlans$Found", "<init>", "()V"⟩ : Cond) ∈ wsAll := List.mem_of_getElem? (i := 193) rfl
set_option maxRecDepth 100000 in
theorem tw_194 : (.instanceMethod ⟨"RecipePlans$Found", "<init>", "()V"⟩ : Cond) ∈ wsAll := List.mem_of_getElem? (i := 194) rfl
set_option maxRecDepth 100000 in
theorem tw_195 : (.code ⟨"RecipePlans$Found", "<init>", "()V"⟩ prog_3_method_1_code 1 none : Cond) ∈ wsAll := List.mem_of_getElem? (i := 195) rfl
set_option maxRecDepth 100000 in
theorem tw_196 : (.methodLink "RecipePlans$Found" 3 ⟨"java/lang/Object", "<init>", "()V"⟩ : Cond) ∈ wsAll := List.mem_of_getElem? (i := 196) rfl
set_option maxRecDepth 100000 in
theorem tw_197 : (.fieldLink "RecipePlans$Found" 48 "RecipePlans$Found" "whole" "Z" : Cond) ∈ wsAll := List.mem_of_getElem? (i := 197) rfl
set_option maxRecDepth 100000 in
theorem tw_198 : (.fieldLink "RecipePlans" 136 "RecipePlans$Found" "whole" "Z" : Cond) ∈ wsAll := List.mem_of_getElem? (i := 198) rfl
set_option maxRecDepth 100000 in
theorem tw_199 : (.fieldLink "RecipePlans$Found" 51 "RecipePlans$Found" "lots" "I" : Cond) ∈ wsAll := List.mem_of_getElem? (i := 199) rfl
set_option maxRecDepth 100000 in
theorem tw_200 : (.fieldLink "RecipePlans" 139 "RecipePlans$Found" "lots" "I" : Cond) ∈ wsAll := List.mem_of_getElem? (i := 200) rfl
set_option maxRecDepth 100000 in
theorem tw_201 : (.fieldLink "RecipePlans$Found" 9 "RecipePlans$Found" "mix" "[I" : Cond) ∈ wsAll := List.mem_of_getElem? (i := 201) rfl
set_option maxRecDepth 100000 in
theorem tw_202 : (.fieldLink "RecipePlans" 141 "RecipePlans$Found" "mix" "[I" : Cond) ∈ wsAll := List.mem_of_getElem? (i := 202) rfl
set_option maxRecDepth 100000 in
theorem tw_203 : (.fieldLink "RecipePlans$Found" 57 "RecipePlans$Found" "total" "J" : Cond) ∈ wsAll := List.mem_of_getElem? (i := 203) rfl
set_option maxRecDepth 100000 in
theorem tw_204 : (.fieldLink "RecipePlans" 144 "RecipePlans$Found" "total" "J" : Cond) ∈ wsAll := List.mem_of_getElem? (i := 204) rfl
set_option maxRecDepth 100000 in
theorem tw_205 : (.fieldLink "RecipePlans$Found" 25 "RecipePlans$Found" "cuttable" "Z" : Cond) ∈ wsAll := List.mem_of_getElem? (i := 205) rfl
set_option maxRecDepth 100000 in
theorem tw_206 : (.fieldLink "RecipePlans" 152 "RecipePlans$Found" "cuttable" "Z" : Cond) ∈ wsAll := List.mem_of_getElem? (i := 206) rfl
set_option maxRecDepth 100000 in
theorem tw_207 : (.fieldLink "RecipePlans$Found" 32 "RecipePlans$Found" "above" "J" : Cond) ∈ wsAll := List.mem_of_getElem? (i := 207) rfl
set_option maxRecDepth 100000 in
theorem tw_208 : (.fieldLink "RecipePlans" 155 "RecipePlans$Found" "above" "J" : Cond) ∈ wsAll := List.mem_of_getElem? (i := 208) rfl
set_option maxRecDepth 100000 in
theorem tw_209 : (.fieldLink "RecipePlans$Found" 36 "RecipePlans$Found" "below" "J" : Cond) ∈ wsAll := List.mem_of_getElem? (i := 209) rfl
set_option maxRecDepth 100000 in
theorem tw_210 : (.fieldLink "RecipePlans" 158 "RecipePlans$Found" "below" "J" : Cond) ∈ wsAll := List.mem_of_getElem? (i := 210) rfl
set_option maxRecDepth 100000 in
theorem tw_211 : (.fieldLink "RecipePlans$Found" 41 "RecipePlans$Found" "clashing" "I" : Cond) ∈ wsAll := List.mem_of_getElem? (i := 211) rfl
set_option maxRecDepth 100000 in
theorem tw_212 : (.fieldLink "RecipePlans" 161 "RecipePlans$Found" "clashing" "I" : Cond) ∈ wsAll := List.mem_of_getElem? (i := 212) rfl
set_option maxRecDepth 100000 in
theorem tw_221 : (.fieldLink "RecipePlans" 12 "RecipePlans" "lots" "LRecipePlans$Lots;" : Cond) ∈ wsAll := List.mem_of_getElem? (i := 221) rfl
set_option maxRecDepth 100000 in
theorem tw_222 : (.fieldLink "RecipePlans" 19 "RecipePlans" "rules" "LRecipePlans$Rules;" : Cond) ∈ wsAll := List.mem_of_getElem? (i := 222) rfl
set_option maxRecDepth 100000 in
theorem tw_223 : (.fieldLink "RecipePlans" 26 "RecipePlans" "sides" "LRecipePlans$Sides;" : Cond) ∈ wsAll := List.mem_of_getElem? (i := 223) rfl
set_option maxRecDepth 100000 in
theorem tw_224 : (.fieldLink "RecipePlans" 35 "RecipePlans" "cuts" "LRecipePlans$CutSearch;" : Cond) ∈ wsAll := List.mem_of_getElem? (i := 224) rfl
set_option maxRecDepth 100000 in
theorem tw_225 : (.fieldLink "RecipePlans" 44 "RecipePlans" "wholes" "LRecipePlans$WholeSearch;" : Cond) ∈ wsAll := List.mem_of_getElem? (i := 225) rfl
set_option maxRecDepth 100000 in
theorem tw_226 : (.fieldLink "RecipePlans" 51 "RecipePlans" "found" "LRecipePlans$Found;" : Cond) ∈ wsAll := List.mem_of_getElem? (i := 226) rfl
set_option maxRecDepth 100000 in
theorem tw_227 : (.fieldLink "RecipePlans" 55 "RecipePlans" "point" "[J" : Cond) ∈ wsAll := List.mem_of_getElem? (i := 227) rfl
set_option maxRecDepth 100000 in
theorem tw_228 : (.fieldLink "RecipePlans" 59 "RecipePlans" "held" "[J" : Cond) ∈ wsAll := List.mem_of_getElem? (i := 228) rfl
set_option maxRecDepth 100000 in
theorem tw_237 : (.methodLink "RecipePlansLaw" 15 ⟨"RecipePlans", "lot", "(IJ)I"⟩ : Cond) ∈ wsAll := List.mem_of_getElem? (i := 237) rfl
set_option maxRecDepth 100000 in
theorem tw_238 : (.instanceMethod ⟨"RecipePlans", "lot", "(IJ)I"⟩ : Cond) ∈ wsAll := List.mem_of_getElem? (i := 238) rfl
set_option maxRecDepth 100000 in
theorem tw_239 : (.selects "RecipePlans" ⟨"RecipePlans", "lot", "(IJ)I"⟩ ⟨"RecipePlans", "lot", "(IJ)I"⟩ : Cond) ∈ wsAll := List.mem_of_getElem? (i := 239) rfl
set_option maxRecDepth 100000 in
theorem tw_240 : (.code ⟨"RecipePlans", "lot", "(IJ)I"⟩ prog_1_method_2_code 5 (some .int) : Cond) ∈ wsAll := List.mem_of_getElem? (i := 240) rfl
set_option maxRecDepth 100000 in
theorem tw_241 : (.constantLong "RecipePlans" 66 9 : Cond) ∈ wsAll := List.mem_of_getElem? (i := 241) rfl
set_option maxRecDepth 100000 in
theorem tw_242 : (.methodLink "RecipePlans" 68 ⟨"RecipePlans", "within", "(JJJ)Z"⟩ : Cond) ∈ wsAll := List.mem_of_getElem? (i := 242) rfl
set_option maxRecDepth 100000 in
theorem tw_243 : (.static ⟨"RecipePlans", "within", "(JJJ)Z"⟩ : Cond) ∈ wsAll := List.mem_of_getElem? (i := 243) rfl
set_option maxRecDepth 100000 in
theorem tw_244 : (.code ⟨"RecipePlans", "within", "(JJJ)Z"⟩ prog_1_method_15_code 6 (some .boolean) : Cond) ∈ wsAll := List.mem_of_getElem? (i := 244) rfl
set_option maxRecDepth 100000 in
theorem tw_245 : (.constantLong "RecipePlans" 72 (-1000) : Cond) ∈ wsAll := List.mem_of_getElem? (i := 245) rfl
set_option maxRecDepth 100000 in
theorem tw_246 : (.constantLong "RecipePlans" 74 1000 : Cond) ∈ wsAll := List.mem_of_getElem? (i := 246) rfl
set_option maxRecDepth 100000 in
theorem tw_247 : (.methodLink "RecipePlansLaw" 20 ⟨"RecipePlans", "amount", "(III)Z"⟩ : Cond) ∈ wsAll := List.mem_of_getElem? (i := 247) rfl
set_option maxRecDepth 100000 in
theorem tw_248 : (.instanceMethod ⟨"RecipePlans", "amount", "(III)Z"⟩ : Cond) ∈ wsAll := List.mem_of_getElem? (i := 248) rfl
set_option maxRecDepth 100000 in
theorem tw_249 : (.selects "RecipePlans" ⟨"RecipePlans", "amount", "(III)Z"⟩ ⟨"RecipePlans", "amount", "(III)Z"⟩ : Cond) ∈ wsAll := List.mem_of_getElem? (i := 249) rfl
set_option maxRecDepth 100000 in
theorem tw_250 : (.code ⟨"RecipePlans", "amount", "(III)Z"⟩ prog_1_method_3_code 4 (some .boolean) : Cond) ∈ wsAll := List.mem_of_getElem? (i := 250) rfl
set_option maxRecDepth 100000 in
theorem tw_251 : (.methodLink "RecipePlans" 83 ⟨"RecipePlans", "isWhat", "(I)Z"⟩ : Cond) ∈ wsAll := List.mem_of_getElem? (i := 251) rfl
set_option maxRecDepth 100000 in
theorem tw_252 : (.static ⟨"RecipePlans", "isWhat", "(I)Z"⟩ : Cond) ∈ wsAll := List.mem_of_getElem? (i := 252) rfl
set_option maxRecDepth 100000 in
theorem tw_253 : (.code ⟨"RecipePlans", "isWhat", "(I)Z"⟩ prog_1_method_17_code 1 (some .boolean) : Cond) ∈ wsAll := List.mem_of_getElem? (i := 253) rfl
set_option maxRecDepth 100000 in
theorem tw_254 : (.constantLong "RecipePlans" 182 4 : Cond) ∈ wsAll := List.mem_of_getElem? (i := 254) rfl
set_option maxRecDepth 100000 in
theorem tw_255 : (.constantLong "RecipePlans" 87 (-100) : Cond) ∈ wsAll := List.mem_of_getElem? (i := 255) rfl
set_option maxRecDepth 100000 in
theorem tw_256 : (.constantLong "RecipePlans" 89 100 : Cond) ∈ wsAll := List.mem_of_getElem? (i := 256) rfl
set_option maxRecDepth 100000 in
theorem tw_257 : (.methodLink "RecipePlansLaw" 25 ⟨"RecipePlans", "span", "(III)Z"⟩ : Cond) ∈ wsAll := List.mem_of_getElem? (i := 257) rfl
set_option maxRecDepth 100000 in
theorem tw_258 : (.instanceMethod ⟨"RecipePlans", "span", "(III)Z"⟩ : Cond) ∈ wsAll := List.mem_of_getElem? (i := 258) rfl
set_option maxRecDepth 100000 in
theorem tw_259 : (.selects "RecipePlans" ⟨"RecipePlans", "span", "(III)Z"⟩ ⟨"RecipePlans", "span", "(III)Z"⟩ : Cond) ∈ wsAll := List.mem_of_getElem? (i := 259) rfl
set_option maxRecDepth 100000 in
theorem tw_260 : (.code ⟨"RecipePlans", "span", "(III)Z"⟩ prog_1_method_4_code 4 (some .boolean) : Cond) ∈ wsAll := List.mem_of_getElem? (i := 260) rfl
set_option maxRecDepth 100000 in
theorem tw_261 : (.constant "RecipePlans" 95 (-100000) : Cond) ∈ wsAll := List.mem_of_getElem? (i := 261) rfl
set_option maxRecDepth 100000 in
theorem tw_262 : (.constant "RecipePlans" 96 100000 : Cond) ∈ wsAll := List.mem_of_getElem? (i := 262) rfl
set_option maxRecDepth 100000 in
theorem tw_263 : (.methodLink "RecipePlans" 97 ⟨"RecipePlans", "isRange", "(IIII)Z"⟩ : Cond) ∈ wsAll := List.mem_of_getElem? (i := 263) rfl
set_option maxRecDepth 100000 in
theorem tw_264 : (.static ⟨"RecipePlans", "isRange", "(IIII)Z"⟩ : Cond) ∈ wsAll := List.mem_of_getElem? (i := 264) rfl
set_option maxRecDepth 100000 in
theorem tw_265 : (.code ⟨"RecipePlans", "isRange", "(IIII)Z"⟩ prog_1_method_16_code 4 (some .boolean) : Cond) ∈ wsAll := List.mem_of_getElem? (i := 265) rfl
set_option maxRecDepth 100000 in
theorem tw_266 : (.methodLink "RecipePlans" 101 ⟨"RecipePlans$Rules", "tell", "(IIIIII)V"⟩ : Cond) ∈ wsAll := List.mem_of_getElem? (i := 266) rfl
set_option maxRecDepth 100000 in
theorem tw_267 : (.instanceMethod ⟨"RecipePlans$Rules", "tell", "(IIIIII)V"⟩ : Cond) ∈ wsAll := List.mem_of_getElem? (i := 267) rfl
set_option maxRecDepth 100000 in
theorem tw_268 : (.selects "RecipePlans$Rules" ⟨"RecipePlans$Rules", "tell", "(IIIIII)V"⟩ ⟨"RecipePlans$Rules", "tell", "(IIIIII)V"⟩ : Cond) ∈ wsAll := List.mem_of_getElem? (i := 268) rfl
set_option maxRecDepth 100000 in
theorem tw_269 : (.code ⟨"RecipePlans$Rules", "tell", "(IIIIII)V"⟩ prog_5_method_2_code 7 none : Cond) ∈ wsAll := List.mem_of_getElem? (i := 269) rfl
set_option maxRecDepth 100000 in
theorem tw_270 : (.methodLink "RecipePlansLaw" 29 ⟨"RecipePlans", "ratio", "(IIIIII)Z"⟩ : Cond) ∈ wsAll := List.mem_of_getElem? (i := 270) rfl
set_option maxRecDepth 100000 in
theorem tw_271 : (.instanceMethod ⟨"RecipePlans", "ratio", "(IIIIII)Z"⟩ : Cond) ∈ wsAll := List.mem_of_getElem? (i := 271) rfl
set_option maxRecDepth 100000 in
theorem tw_272 : (.selects "RecipePlans" ⟨"RecipePlans", "ratio", "(IIIIII)Z"⟩ ⟨"RecipePlans", "ratio", "(IIIIII)Z"⟩ : Cond) ∈ wsAll := List.mem_of_getElem? (i := 272) rfl
set_option maxRecDepth 100000 in
theorem tw_273 : (.code ⟨"RecipePlans", "ratio", "(IIIIII)Z"⟩ prog_1_method_5_code 7 (some .boolean) : Cond) ∈ wsAll := List.mem_of_getElem? (i := 273) rfl
set_option maxRecDepth 100000 in
theorem tw_274 : (.methodLink "RecipePlansLaw" 34 ⟨"RecipePlans", "loads", "(II)Z"⟩ : Cond) ∈ wsAll := List.mem_of_getElem? (i := 274) rfl
set_option maxRecDepth 100000 in
theorem tw_275 : (.instanceMethod ⟨"RecipePlans", "loads", "(II)Z"⟩ : Cond) ∈ wsAll := List.mem_of_getElem? (i := 275) rfl
set_option maxRecDepth 100000 in
theorem tw_276 : (.selects "RecipePlans" ⟨"RecipePlans", "loads", "(II)Z"⟩ ⟨"RecipePlans", "loads", "(II)Z"⟩ : Cond) ∈ wsAll := List.mem_of_getElem? (i := 276) rfl
set_option maxRecDepth 100000 in
theorem tw_277 : (.code ⟨"RecipePlans", "loads", "(II)Z"⟩ prog_1_method_6_code 3 (some .boolean) : Cond) ∈ wsAll := List.mem_of_getElem? (i := 277) rfl
set_option maxRecDepth 100000 in
theorem tw_278 : (.methodLink "RecipePlansLaw" 39 ⟨"RecipePlans", "untell", "(I)Z"⟩ : Cond) ∈ wsAll := List.mem_of_getElem? (i := 278) rfl
set_option maxRecDepth 100000 in
theorem tw_279 : (.instanceMethod ⟨"RecipePlans", "untell", "(I)Z"⟩ : Cond) ∈ wsAll := List.mem_of_getElem? (i := 279) rfl
set_option maxRecDepth 100000 in
theorem tw_280 : (.selects "RecipePlans" ⟨"RecipePlans", "untell", "(I)Z"⟩ ⟨"RecipePlans", "untell", "(I)Z"⟩ : Cond) ∈ wsAll := List.mem_of_getElem? (i := 280) rfl
set_option maxRecDepth 100000 in
theorem tw_281 : (.code ⟨"RecipePlans", "untell", "(I)Z"⟩ prog_1_method_7_code 2 (some .boolean) : Cond) ∈ wsAll := List.mem_of_getElem? (i := 281) rfl
set_option maxRecDepth 100000 in
theorem tw_282 : (.constantLong "RecipePlans" 105 7 : Cond) ∈ wsAll := List.mem_of_getElem? (i := 282) rfl
set_option maxRecDepth 100000 in
theorem tw_283 : (.methodLink "RecipePlans" 107 ⟨"RecipePlans$Rules", "isTold", "(I)Z"⟩ : Cond) ∈ wsAll := List.mem_of_getElem? (i := 283) rfl
set_option maxRecDepth 100000 in
theorem tw_284 : (.instanceMethod ⟨"RecipePlans$Rules", "isTold", "(I)Z"⟩ : Cond) ∈ wsAll := List.mem_of_getElem? (i := 284) rfl
set_option maxRecDepth 100000 in
theorem tw_285 : (.selects "RecipePlans$Rules" ⟨"RecipePlans$Rules", "isTold", "(I)Z"⟩ ⟨"RecipePlans$Rules", "isTold", "(I)Z"⟩ : Cond) ∈ wsAll := List.mem_of_getElem? (i := 285) rfl
set_option maxRecDepth 100000 in
theorem tw_286 : (.code ⟨"RecipePlans$Rules", "isTold", "(I)Z"⟩ prog_5_method_3_code 2 (some .boolean) : Cond) ∈ wsAll := List.mem_of_getElem? (i := 286) rfl
set_option maxRecDepth 100000 in
theorem tw_287 : (.static ⟨"RecipePlans", "hasBit", "(II)Z"⟩ : Cond) ∈ wsAll := List.mem_of_getElem? (i := 287) rfl
set_option maxRecDepth 100000 in
theorem tw_288 : (.code ⟨"RecipePlans", "hasBit", "(II)Z"⟩ prog_1_method_18_code 2 (some .boolean) : Cond) ∈ wsAll := List.mem_of_getElem? (i := 288) rfl
set_option maxRecDepth 100000 in
theorem tw_289 : (.methodLink "RecipePlansLaw" 44 ⟨"RecipePlans", "run", "()I"⟩ : Cond) ∈ wsAll := List.mem_of_getElem? (i := 289) rfl
set_option maxRecDepth 100000 in
theorem tw_290 : (.instanceMethod ⟨"RecipePlans", "run", "()I"⟩ : Cond) ∈ wsAll := List.mem_of_getElem? (i := 290) rfl
set_option maxRecDepth 100000 in
theorem tw_291 : (.selects "RecipePlans" ⟨"RecipePlans", "run", "()I"⟩ ⟨"RecipePlans", "run", "()I"⟩ : Cond) ∈ wsAll := List.mem_of_getElem? (i := 291) rfl
set_option maxRecDepth 100000 in
theorem tw_292 : (.code ⟨"RecipePlans", "run", "()I"⟩ prog_1_method_8_code 1 (some .int) : Cond) ∈ wsAll := List.mem_of_getElem? (i := 292) rfl
set_option maxRecDepth 100000 in
theorem tw_293 : (.methodLink "RecipePlans" 113 ⟨"RecipePlans$Sides", "build", "(LRecipePlans$Lots;LRecipePlans$Rules;)V"⟩ : Cond) ∈ wsAll := List.mem_of_getElem? (i := 293) rfl
set_option maxRecDepth 100000 in
theorem tw_294 : (.instanceMethod ⟨"RecipePlans$Sides", "build", "(LRecipePlans$Lots;LRecipePlans$Rules;)V"⟩ : Cond) ∈ wsAll := List.mem_of_getElem? (i := 294) rfl
set_option maxRecDepth 100000 in
theorem tw_295 : (.selects "RecipePlans$Sides" ⟨"RecipePlans$Sides", "build", "(LRecipePlans$Lots;LRecipePlans$Rules;)V"⟩ ⟨"RecipePlans$Sides", "build", "(LRecipePlans$Lots;LRecipePlans$Rules;)V"⟩ : Cond) ∈ wsAll := List.mem_of_getElem? (i := 295) rfl
set_option maxRecDepth 100000 in
theorem tw_296 : (.code ⟨"RecipePlans$Sides", "build", "(LRecipePlans$Lots;LRecipePlans$Rules;)V"⟩ prog_6_method_2_code 4 none : Cond) ∈ wsAll := List.mem_of_getElem? (i := 296) rfl
set_option maxRecDepth 100000 in
theorem tw_297 : (.methodLink "RecipePlans$Sides" 24 ⟨"RecipePlans$Rules", "isTold", "(I)Z"⟩ : Cond) ∈ wsAll := List.mem_of_getElem? (i := 297) rfl
set_option maxRecDepth 100000 in
theorem tw_298 : (.methodLink "RecipePlans$Sides" 41 ⟨"RecipePlans$Sides", "fill", "([J[JLRecipePlans$Rules;I)V"⟩ : Cond) ∈ wsAll := List.mem_of_getElem? (i := 298) rfl
set_option maxRecDepth 100000 in
theorem tw_299 : (.instanceMethod ⟨"RecipePlans$Sides", "fill", "([J[JLRecipePlans$Rules;I)V"⟩ : Cond) ∈ wsAll := List.mem_of_getElem? (i := 299) rfl
set_option maxRecDepth 100000 in
theorem tw_300 : (.code ⟨"RecipePlans$Sides", "fill", "([J[JLRecipePlans$Rules;I)V"⟩ prog_6_method_3_code 10 none : Cond) ∈ wsAll := List.mem_of_getElem? (i := 300) rfl
set_option maxRecDepth 100000 in
theorem tw_301 : (.methodLink "RecipePlans" 117 ⟨"RecipePlans$CutSearch", "search", "()V"⟩ : Cond) ∈ wsAll := List.mem_of_getElem? (i := 301) rfl
set_option maxRecDepth 100000 in
theorem tw_302 : (.instanceMethod ⟨"RecipePlans$CutSearch", "search", "()V"⟩ : Cond) ∈ wsAll := List.mem_of_getElem? (i := 302) rfl
set_option maxRecDepth 100000 in
theorem tw_303 : (.selects "RecipePlans$CutSearch" ⟨"RecipePlans$CutSearch", "search", "()V"⟩ ⟨"RecipePlans$CutSearch", "search", "()V"⟩ : Cond) ∈ wsAll := List.mem_of_getElem? (i := 303) rfl
set_option maxRecDepth 100000 in
theorem tw_304 : (.code ⟨"RecipePlans$CutSearch", "search", "()V"⟩ prog_2_method_2_code 1 none : Cond) ∈ wsAll := List.mem_of_getElem? (i := 304) rfl
set_option maxRecDepth 100000 in
theorem tw_305 : (.methodLink "RecipePlans$CutSearch" 43 ⟨"RecipePlans$CutSearch", "begin", "()V"⟩ : Cond) ∈ wsAll := List.mem_of_getElem? (i := 305) rfl
set_option maxRecDepth 100000 in
theorem tw_306 : (.instanceMethod ⟨"RecipePlans$CutSearch", "begin", "()V"⟩ : Cond) ∈ wsAll := List.mem_of_getElem? (i := 306) rfl
set_option maxRecDepth 100000 in
theorem tw_307 : (.code ⟨"RecipePlans$CutSearch", "begin", "()V"⟩ prog_2_method_3_code 2 none : Cond) ∈ wsAll := List.mem_of_getElem? (i := 307) rfl
set_option maxRecDepth 100000 in
theorem tw_308 : (.methodLink "RecipePlans$CutSearch" 65 ⟨"RecipePlans$Lots", "inStock", "()I"⟩ : Cond) ∈ wsAll := List.mem_of_getElem? (i := 308) rfl
set_option maxRecDepth 100000 in
theorem tw_309 : (.instanceMethod ⟨"RecipePlans$Lots", "inStock", "()I"⟩ : Cond) ∈ wsAll := List.mem_of_getElem? (i := 309) rfl
set_option maxRecDepth 100000 in
theorem tw_310 : (.selects "RecipePlans$Lots" ⟨"RecipePlans$Lots", "inStock", "()I"⟩ ⟨"RecipePlans$Lots", "inStock", "()I"⟩ : Cond) ∈ wsAll := List.mem_of_getElem? (i := 310) rfl
set_option maxRecDepth 100000 in
theorem tw_311 : (.code ⟨"RecipePlans$Lots", "inStock", "()I"⟩ prog_4_method_4_code 3 (some .int) : Cond) ∈ wsAll := List.mem_of_getElem? (i := 311) rfl
set_option maxRecDepth 100000 in
theorem tw_312 : (.methodLink "RecipePlans$CutSearch" 46 ⟨"RecipePlans$CutSearch", "tighten", "(II)V"⟩ : Cond) ∈ wsAll := List.mem_of_getElem? (i := 312) rfl
set_option maxRecDepth 100000 in
theorem tw_313 : (.instanceMethod ⟨"RecipePlans$CutSearch", "tighten", "(II)V"⟩ : Cond) ∈ wsAll := List.mem_of_getElem? (i := 313) rfl
set_option maxRecDepth 100000 in
theorem tw_314 : (.code ⟨"RecipePlans$CutSearch", "tighten", "(II)V"⟩ prog_2_method_4_code 5 none : Cond) ∈ wsAll := List.mem_of_getElem? (i := 314) rfl
set_option maxRecDepth 100000 in
theorem tw_315 : (.methodLink "RecipePlans$CutSearch" 74 ⟨"RecipePlans$CutSearch", "visitCorners", "(I)V"⟩ : Cond) ∈ wsAll := List.mem_of_getElem? (i := 315) rfl
set_option maxRecDepth 100000 in
theorem tw_316 : (.instanceMethod ⟨"RecipePlans$CutSearch", "visitCorners", "(I)V"⟩ : Cond) ∈ wsAll := List.mem_of_getElem? (i := 316) rfl
set_option maxRecDepth 100000 in
theorem tw_317 : (.code ⟨"RecipePlans$CutSearch", "visitCorners", "(I)V"⟩ prog_2_method_8_code 7 none : Cond) ∈ wsAll := List.mem_of_getElem? (i := 317) rfl
set_option maxRecDepth 100000 in
theorem tw_318 : (.methodLink "RecipePlans$CutSearch" 127 ⟨"RecipePlans$CutSearch", "meets", "([JII)Z"⟩ : Cond) ∈ wsAll := List.mem_of_getElem? (i := 318) rfl
set_option maxRecDepth 100000 in
theorem tw_319 : (.instanceMethod ⟨"RecipePlans$CutSearch", "meets", "([JII)Z"⟩ : Cond) ∈ wsAll := List.mem_of_getElem? (i := 319) rfl
set_option maxRecDepth 100000 in
theorem tw_320 : (.code ⟨"RecipePlans$CutSearch", "meets", "([JII)Z"⟩ prog_2_method_9_code 13 (some .boolean) : Cond) ∈ wsAll := List.mem_of_getElem? (i := 320) rfl
set_option maxRecDepth 100000 in
theorem tw_321 : (.constantLong "RecipePlans$CutSearch" 134 (-1) : Cond) ∈ wsAll := List.mem_of_getElem? (i := 321) rfl
set_option maxRecDepth 100000 in
theorem tw_322 : (.methodLink "RecipePlans$CutSearch" 139 ⟨"RecipePlans$CutSearch", "replaced", "([JIII)J"⟩ : Cond) ∈ wsAll := List.mem_of_getElem? (i := 322) rfl
set_option maxRecDepth 100000 in
theorem tw_323 : (.instanceMethod ⟨"RecipePlans$CutSearch", "replaced", "([JIII)J"⟩ : Cond) ∈ wsAll := List.mem_of_getElem? (i := 323) rfl
set_option maxRecDepth 100000 in
theorem tw_324 : (.code ⟨"RecipePlans$CutSearch", "replaced", "([JIII)J"⟩ prog_2_method_10_code 14 (some .long) : Cond) ∈ wsAll := List.mem_of_getElem? (i := 324) rfl
set_option maxRecDepth 100000 in
theorem tw_325 : (.methodLink "RecipePlans$CutSearch" 147 ⟨"java/lang/Integer", "bitCount", "(I)I"⟩ : Cond) ∈ wsAll := List.mem_of_getElem? (i := 325) rfl
set_option maxRecDepth 100000 in
theorem tw_326 : (.static ⟨"java/lang/Integer", "bitCount", "(I)I"⟩ : Cond) ∈ wsAll := List.mem_of_getElem? (i := 326) rfl
set_option maxRecDepth 100000 in
theorem tw_327 : (.code ⟨"java/lang/Integer", "bitCount", "(I)I"⟩ prog_10_method_49_code 1 (some .int) : Cond) ∈ wsAll := List.mem_of_getElem? (i := 327) rfl
set_option maxRecDepth 100000 in
theorem tw_328 : (.constant "java/lang/Integer" 265 1431655765 : Cond) ∈ wsAll := List.mem_of_getElem? (i := 328) rfl
set_option maxRecDepth 100000 in
theorem tw_329 : (.constant "java/lang/Integer" 266 858993459 : Cond) ∈ wsAll := List.mem_of_getElem? (i := 329) rfl
set_option maxRecDepth 100000 in
theorem tw_330 : (.constant "java/lang/Integer" 267 252645135 : Cond) ∈ wsAll := List.mem_of_getElem? (i := 330) rfl
set_option maxRecDepth 100000 in
theorem tw_331 : (.methodLink "RecipePlans$CutSearch" 131 ⟨"RecipePlans$CutSearch", "weigh", "()V"⟩ : Cond) ∈ wsAll := List.mem_of_getElem? (i := 331) rfl
set_option maxRecDepth 100000 in
theorem tw_332 : (.instanceMethod ⟨"RecipePlans$CutSearch", "weigh", "()V"⟩ : Cond) ∈ wsAll := List.mem_of_getElem? (i := 332) rfl
set_option maxRecDepth 100000 in
theorem tw_333 : (.code ⟨"RecipePlans$CutSearch", "weigh", "()V"⟩ prog_2_method_11_code 5 none : Cond) ∈ wsAll := List.mem_of_getElem? (i := 333) rfl
set_option maxRecDepth 100000 in
theorem tw_334 : (.methodLink "RecipePlans$CutSearch" 153 ⟨"RecipePlans$Lots", "price", "([J)J"⟩ : Cond) ∈ wsAll := List.mem_of_getElem? (i := 334) rfl
set_option maxRecDepth 100000 in
theorem tw_335 : (.instanceMethod ⟨"RecipePlans$Lots", "price", "([J)J"⟩ : Cond) ∈ wsAll := List.mem_of_getElem? (i := 335) rfl
set_option maxRecDepth 100000 in
theorem tw_336 : (.selects "RecipePlans$Lots" ⟨"RecipePlans$Lots", "price", "([J)J"⟩ ⟨"RecipePlans$Lots", "price", "([J)J"⟩ : Cond) ∈ wsAll := List.mem_of_getElem? (i := 336) rfl
set_option maxRecDepth 100000 in
theorem tw_337 : (.code ⟨"RecipePlans$Lots", "price", "([J)J"⟩ prog_4_method_3_code 5 (some .long) : Cond) ∈ wsAll := List.mem_of_getElem? (i := 337) rfl
set_option maxRecDepth 100000 in
theorem tw_338 : (.methodLink "RecipePlans$CutSearch" 157 ⟨"RecipePlans$CutSearch", "isLess", "(JJJJ)Z"⟩ : Cond) ∈ wsAll := List.mem_of_getElem? (i := 338) rfl
set_option maxRecDepth 100000 in
theorem tw_339 : (.static ⟨"RecipePlans$CutSearch", "isLess", "(JJJJ)Z"⟩ : Cond) ∈ wsAll := List.mem_of_getElem? (i := 339) rfl
set_option maxRecDepth 100000 in
theorem tw_340 : (.code ⟨"RecipePlans$CutSearch", "isLess", "(JJJJ)Z"⟩ prog_2_method_12_code 17 (some .boolean) : Cond) ∈ wsAll := List.mem_of_getElem? (i := 340) rfl
set_option maxRecDepth 100000 in
theorem tw_341 : (.methodLink "RecipePlans$CutSearch" 168 ⟨"java/lang/Math", "floorDiv", "(JJ)J"⟩ : Cond) ∈ wsAll := List.mem_of_getElem? (i := 341) rfl
set_option maxRecDepth 100000 in
theorem tw_342 : (.static ⟨"java/lang/Math", "floorDiv", "(JJ)J"⟩ : Cond) ∈ wsAll := List.mem_of_getElem? (i := 342) rfl
set_option maxRecDepth 100000 in
theorem tw_343 : (.code ⟨"java/lang/Math", "floorDiv", "(JJ)J"⟩ prog_11_method_49_code 6 (some .long) : Cond) ∈ wsAll := List.mem_of_getElem? (i := 343) rfl
set_option maxRecDepth 100000 in
theorem tw_344 : (.methodLink "RecipePlans$CutSearch" 161 ⟨"RecipePlans$Lots", "hold", "([J[J)V"⟩ : Cond) ∈ wsAll := List.mem_of_getElem? (i := 344) rfl
set_option maxRecDepth 100000 in
theorem tw_345 : (.instanceMethod ⟨"RecipePlans$Lots", "hold", "([J[J)V"⟩ : Cond) ∈ wsAll := List.mem_of_getElem? (i := 345) rfl
set_option maxRecDepth 100000 in
theorem tw_346 : (.selects "RecipePlans$Lots" ⟨"RecipePlans$Lots", "hold", "([J[J)V"⟩ ⟨"RecipePlans$Lots", "hold", "([J[J)V"⟩ : Cond) ∈ wsAll := List.mem_of_getElem? (i := 346) rfl
set_option maxRecDepth 100000 in
theorem tw_347 : (.code ⟨"RecipePlans$Lots", "hold", "([J[J)V"⟩ prog_4_method_2_code 8 none : Cond) ∈ wsAll := List.mem_of_getElem? (i := 347) rfl
set_option maxRecDepth 100000 in
theorem tw_348 : (.methodLink "RecipePlans$CutSearch" 165 ⟨"RecipePlans$Rules", "keeps", "(I[J)Z"⟩ : Cond) ∈ wsAll := List.mem_of_getElem? (i := 348) rfl
set_option maxRecDepth 100000 in
theorem tw_349 : (.instanceMethod ⟨"RecipePlans$Rules", "keeps", "(I[J)Z"⟩ : Cond) ∈ wsAll := List.mem_of_getElem? (i := 349) rfl
set_option maxRecDepth 100000 in
theorem tw_350 : (.selects "RecipePlans$Rules" ⟨"RecipePlans$Rules", "keeps", "(I[J)Z"⟩ ⟨"RecipePlans$Rules", "keeps", "(I[J)Z"⟩ : Cond) ∈ wsAll := List.mem_of_getElem? (i := 350) rfl
set_option maxRecDepth 100000 in
theorem tw_351 : (.code ⟨"RecipePlans$Rules", "keeps", "(I[J)Z"⟩ prog_5_method_4_code 7 (some .boolean) : Cond) ∈ wsAll := List.mem_of_getElem? (i := 351) rfl
set_option maxRecDepth 100000 in
theorem tw_352 : (.methodLink "RecipePlans$Rules" 35 ⟨"RecipePlans$Rules", "atLeast", "(JJJJ)Z"⟩ : Cond) ∈ wsAll := List.mem_of_getElem? (i := 352) rfl
set_option maxRecDepth 100000 in
theorem tw_353 : (.static ⟨"RecipePlans$Rules", "atLeast", "(JJJJ)Z"⟩ : Cond) ∈ wsAll := List.mem_of_getElem? (i := 353) rfl
set_option maxRecDepth 100000 in
theorem tw_354 : (.code ⟨"RecipePlans$Rules", "atLeast", "(JJJJ)Z"⟩ prog_5_method_5_code 12 (some .boolean) : Cond) ∈ wsAll := List.mem_of_getElem? (i := 354) rfl
set_option maxRecDepth 100000 in
theorem tw_355 : (.constantLong "RecipePlans$Rules" 39 1048575 : Cond) ∈ wsAll := List.mem_of_getElem? (i := 355) rfl
set_option maxRecDepth 100000 in
theorem tw_356 : (.methodLink "RecipePlans$CutSearch" 89 ⟨"RecipePlans$CutSearch", "add", "(I[J)Z"⟩ : Cond) ∈ wsAll := List.mem_of_getElem? (i := 356) rfl
set_option maxRecDepth 100000 in
theorem tw_357 : (.instanceMethod ⟨"RecipePlans$CutSearch", "add", "(I[J)Z"⟩ : Cond) ∈ wsAll := List.mem_of_getElem? (i := 357) rfl
set_option maxRecDepth 100000 in
theorem tw_358 : (.code ⟨"RecipePlans$CutSearch", "add", "(I[J)Z"⟩ prog_2_method_6_code 8 (some .boolean) : Cond) ∈ wsAll := List.mem_of_getElem? (i := 358) rfl
set_option maxRecDepth 100000 in
theorem tw_359 : (.methodLink "RecipePlans$CutSearch" 120 ⟨"RecipePlans$CutSearch", "expand", "([J[JI)J"⟩ : Cond) ∈ wsAll := List.mem_of_getElem? (i := 359) rfl
set_option maxRecDepth 100000 in
theorem tw_360 : (.static ⟨"RecipePlans$CutSearch", "expand", "([J[JI)J"⟩ : Cond) ∈ wsAll := List.mem_of_getElem? (i := 360) rfl
set_option maxRecDepth 100000 in
theorem tw_361 : (.code ⟨"RecipePlans$CutSearch", "expand", "([J[JI)J"⟩ prog_2_method_7_code 8 (some .long) : Cond) ∈ wsAll := List.mem_of_getElem? (i := 361) rfl
set_option maxRecDepth 100000 in
theorem tw_362 : (.methodLink "RecipePlans$CutSearch" 101 ⟨"RecipePlans$CutSearch", "addBoth", "(II)Z"⟩ : Cond) ∈ wsAll := List.mem_of_getElem? (i := 362) rfl
set_option maxRecDepth 100000 in
theorem tw_363 : (.instanceMethod ⟨"RecipePlans$CutSearch", "addBoth", "(II)Z"⟩ : Cond) ∈ wsAll := List.mem_of_getElem? (i := 363) rfl
set_option maxRecDepth 100000 in
theorem tw_364 : (.code ⟨"RecipePlans$CutSearch", "addBoth", "(II)Z"⟩ prog_2_method_5_code 3 (some .boolean) : Cond) ∈ wsAll := List.mem_of_getElem? (i := 364) rfl
set_option maxRecDepth 100000 in
theorem tw_365 : (.methodLink "RecipePlans" 124 ⟨"RecipePlans$WholeSearch", "search", "(Z)V"⟩ : Cond) ∈ wsAll := List.mem_of_getElem? (i := 365) rfl
set_option maxRecDepth 100000 in
theorem tw_366 : (.instanceMethod ⟨"RecipePlans$WholeSearch", "search", "(Z)V"⟩ : Cond) ∈ wsAll := List.mem_of_getElem? (i := 366) rfl
set_option maxRecDepth 100000 in
theorem tw_367 : (.selects "RecipePlans$WholeSearch" ⟨"RecipePlans$WholeSearch", "search", "(Z)V"⟩ ⟨"RecipePlans$WholeSearch", "search", "(Z)V"⟩ : Cond) ∈ wsAll := List.mem_of_getElem? (i := 367) rfl
set_option maxRecDepth 100000 in
theorem tw_368 : (.code ⟨"RecipePlans$WholeSearch", "search", "(Z)V"⟩ prog_7_method_2_code 2 none : Cond) ∈ wsAll := List.mem_of_getElem? (i := 368) rfl
set_option maxRecDepth 100000 in
theorem tw_369 : (.methodLink "RecipePlans$WholeSearch" 46 ⟨"RecipePlans$WholeSearch", "begin", "()V"⟩ : Cond) ∈ wsAll := List.mem_of_getElem? (i := 369) rfl
set_option maxRecDepth 100000 in
theorem tw_370 : (.instanceMethod ⟨"RecipePlans$WholeSearch", "begin", "()V"⟩ : Cond) ∈ wsAll := List.mem_of_getElem? (i := 370) rfl
set_option maxRecDepth 100000 in
theorem tw_371 : (.code ⟨"RecipePlans$WholeSearch", "begin", "()V"⟩ prog_7_method_3_code 3 none : Cond) ∈ wsAll := List.mem_of_getElem? (i := 371) rfl
set_option maxRecDepth 100000 in
theorem tw_372 : (.methodLink "RecipePlans$WholeSearch" 70 ⟨"java/lang/Math", "min", "(JJ)J"⟩ : Cond) ∈ wsAll := List.mem_of_getElem? (i := 372) rfl
set_option maxRecDepth 100000 in
theorem tw_373 : (.static ⟨"java/lang/Math", "min", "(JJ)J"⟩ : Cond) ∈ wsAll := List.mem_of_getElem? (i := 373) rfl
set_option maxRecDepth 100000 in
theorem tw_374 : (.code ⟨"java/lang/Math", "min", "(JJ)J"⟩ prog_11_method_70_code 4 (some .long) : Cond) ∈ wsAll := List.mem_of_getElem? (i := 374) rfl
set_option maxRecDepth 100000 in
theorem tw_375 : (.methodLink "RecipePlans$WholeSearch" 76 ⟨"java/lang/Math", "max", "(JJ)J"⟩ : Cond) ∈ wsAll := List.mem_of_getElem? (i := 375) rfl
set_option maxRecDepth 100000 in
theorem tw_376 : (.static ⟨"java/lang/Math", "max", "(JJ)J"⟩ : Cond) ∈ wsAll := List.mem_of_getElem? (i := 376) rfl
set_option maxRecDepth 100000 in
theorem tw_377 : (.code ⟨"java/lang/Math", "max", "(JJ)J"⟩ prog_11_method_66_code 4 (some .long) : Cond) ∈ wsAll := List.mem_of_getElem? (i := 377) rfl
set_option maxRecDepth 100000 in
theorem tw_378 : (.methodLink "RecipePlans$WholeSearch" 49 ⟨"RecipePlans$WholeSearch", "place", "(IJ)V"⟩ : Cond) ∈ wsAll := List.mem_of_getElem? (i := 378) rfl
set_option maxRecDepth 100000 in
theorem tw_379 : (.instanceMethod ⟨"RecipePlans$WholeSearch", "place", "(IJ)V"⟩ : Cond) ∈ wsAll := List.mem_of_getElem? (i := 379) rfl
set_option maxRecDepth 100000 in
theorem tw_380 : (.code ⟨"RecipePlans$WholeSearch", "place", "(IJ)V"⟩ prog_7_method_4_code 7 none : Cond) ∈ wsAll := List.mem_of_getElem? (i := 380) rfl
set_option maxRecDepth 100000 in
theorem tw_381 : (.methodLink "RecipePlans$WholeSearch" 79 ⟨"RecipePlans$WholeSearch", "mostLoads", "(I)I"⟩ : Cond) ∈ wsAll := List.mem_of_getElem? (i := 381) rfl
set_option maxRecDepth 100000 in
theorem tw_382 : (.instanceMethod ⟨"RecipePlans$WholeSearch", "mostLoads", "(I)I"⟩ : Cond) ∈ wsAll := List.mem_of_getElem? (i := 382) rfl
set_option maxRecDepth 100000 in
theorem tw_383 : (.code ⟨"RecipePlans$WholeSearch", "mostLoads", "(I)I"⟩ prog_7_method_7_code 9 (some .int) : Cond) ∈ wsAll := List.mem_of_getElem? (i := 383) rfl
set_option maxRecDepth 100000 in
theorem tw_384 : (.methodLink "RecipePlans$WholeSearch" 94 ⟨"java/lang/Math", "floorDiv", "(JJ)J"⟩ : Cond) ∈ wsAll := List.mem_of_getElem? (i := 384) rfl
set_option maxRecDepth 100000 in
theorem tw_385 : (.constantLong "RecipePlans$WholeSearch" 97 (-1) : Cond) ∈ wsAll := List.mem_of_getElem? (i := 385) rfl
set_option maxRecDepth 100000 in
theorem tw_386 : (.methodLink "RecipePlans$WholeSearch" 83 ⟨"RecipePlans$WholeSearch", "fewestLoads", "(I)I"⟩ : Cond) ∈ wsAll := List.mem_of_getElem? (i := 386) rfl
set_option maxRecDepth 100000 in
theorem tw_387 : (.instanceMethod ⟨"RecipePlans$WholeSearch", "fewestLoads", "(I)I"⟩ : Cond) ∈ wsAll := List.mem_of_getElem? (i := 387) rfl
set_option maxRecDepth 100000 in
theorem tw_388 : (.code ⟨"RecipePlans$WholeSearch", "fewestLoads", "(I)I"⟩ prog_7_method_8_code 9 (some .int) : Cond) ∈ wsAll := List.mem_of_getElem? (i := 388) rfl
set_option maxRecDepth 100000 in
theorem tw_389 : (.constantLong "RecipePlans$WholeSearch" 99 10 : Cond) ∈ wsAll := List.mem_of_getElem? (i := 389) rfl
set_option maxRecDepth 100000 in
theorem tw_390 : (.methodLink "RecipePlans$WholeSearch" 86 ⟨"RecipePlans$WholeSearch", "take", "(IIJ)V"⟩ : Cond) ∈ wsAll := List.mem_of_getElem? (i := 390) rfl
set_option maxRecDepth 100000 in
theorem tw_391 : (.instanceMethod ⟨"RecipePlans$WholeSearch", "take", "(IIJ)V"⟩ : Cond) ∈ wsAll := List.mem_of_getElem? (i := 391) rfl
set_option maxRecDepth 100000 in
theorem tw_392 : (.code ⟨"RecipePlans$WholeSearch", "take", "(IIJ)V"⟩ prog_7_method_5_code 6 none : Cond) ∈ wsAll := List.mem_of_getElem? (i := 392) rfl
set_option maxRecDepth 100000 in
theorem tw_393 : (.methodLink "RecipePlans$WholeSearch" 90 ⟨"RecipePlans$WholeSearch", "offer", "(J)V"⟩ : Cond) ∈ wsAll := List.mem_of_getElem? (i := 393) rfl
set_option maxRecDepth 100000 in
theorem tw_394 : (.instanceMethod ⟨"RecipePlans$WholeSearch", "offer", "(J)V"⟩ : Cond) ∈ wsAll := List.mem_of_getElem? (i := 394) rfl
set_option maxRecDepth 100000 in
theorem tw_395 : (.code ⟨"RecipePlans$WholeSearch", "offer", "(J)V"⟩ prog_7_method_6_code 4 none : Cond) ∈ wsAll := List.mem_of_getElem? (i := 395) rfl
set_option maxRecDepth 100000 in
theorem tw_396 : (.methodLink "RecipePlans" 127 ⟨"RecipePlans$Found", "takeCut", "(LRecipePlans$CutSearch;)V"⟩ : Cond) ∈ wsAll := List.mem_of_getElem? (i := 396) rfl
set_option maxRecDepth 100000 in
theorem tw_397 : (.instanceMethod ⟨"RecipePlans$Found", "takeCut", "(LRecipePlans$CutSearch;)V"⟩ : Cond) ∈ wsAll := List.mem_of_getElem? (i := 397) rfl
set_option maxRecDepth 100000 in
theorem tw_398 : (.selects "RecipePlans$Found" ⟨"RecipePlans$Found", "takeCut", "(LRecipePlans$CutSearch;)V"⟩ ⟨"RecipePlans$Found", "takeCut", "(LRecipePlans$CutSearch;)V"⟩ : Cond) ∈ wsAll := List.mem_of_getElem? (i := 398) rfl
set_option maxRecDepth 100000 in
theorem tw_399 : (.code ⟨"RecipePlans$Found", "takeCut", "(LRecipePlans$CutSearch;)V"⟩ prog_3_method_2_code 4 none : Cond) ∈ wsAll := List.mem_of_getElem? (i := 399) rfl
set_option maxRecDepth 100000 in
theorem tw_400 : (.methodLink "RecipePlans$Found" 15 ⟨"RecipePlans$CutSearch", "commonDivisor", "()J"⟩ : Cond) ∈ wsAll := List.mem_of_getElem? (i := 400) rfl
set_option maxRecDepth 100000 in
theorem tw_401 : (.instanceMethod ⟨"RecipePlans$CutSearch", "commonDivisor", "()J"⟩ : Cond) ∈ wsAll := List.mem_of_getElem? (i := 401) rfl
set_option maxRecDepth 100000 in
theorem tw_402 : (.selects "RecipePlans$CutSearch" ⟨"RecipePlans$CutSearch", "commonDivisor", "()J"⟩ ⟨"RecipePlans$CutSearch", "commonDivisor", "()J"⟩ : Cond) ∈ wsAll := List.mem_of_getElem? (i := 402) rfl
set_option maxRecDepth 100000 in
theorem tw_403 : (.code ⟨"RecipePlans$CutSearch", "commonDivisor", "()J"⟩ prog_2_method_13_code 8 (some .long) : Cond) ∈ wsAll := List.mem_of_getElem? (i := 403) rfl
set_option maxRecDepth 100000 in
theorem tw_404 : (.methodLink "RecipePlans$CutSearch" 174 ⟨"java/lang/Math", "abs", "(J)J"⟩ : Cond) ∈ wsAll := List.mem_of_getElem? (i := 404) rfl
set_option maxRecDepth 100000 in
theorem tw_405 : (.static ⟨"java/lang/Math", "abs", "(J)J"⟩ : Cond) ∈ wsAll := List.mem_of_getElem? (i := 405) rfl
set_option maxRecDepth 100000 in
theorem tw_406 : (.code ⟨"java/lang/Math", "abs", "(J)J"⟩ prog_11_method_61_code 2 (some .long) : Cond) ∈ wsAll := List.mem_of_getElem? (i := 406) rfl
set_option maxRecDepth 100000 in
theorem tw_407 : (.methodLink "RecipePlans$Found" 37 ⟨"RecipePlans$CutSearch", "fewestClashing", "()I"⟩ : Cond) ∈ wsAll := List.mem_of_getElem? (i := 407) rfl
set_option maxRecDepth 100000 in
theorem tw_408 : (.instanceMethod ⟨"RecipePlans$CutSearch", "fewestClashing", "()I"⟩ : Cond) ∈ wsAll := List.mem_of_getElem? (i := 408) rfl
set_option maxRecDepth 100000 in
theorem tw_409 : (.selects "RecipePlans$CutSearch" ⟨"RecipePlans$CutSearch", "fewestClashing", "()I"⟩ ⟨"RecipePlans$CutSearch", "fewestClashing", "()I"⟩ : Cond) ∈ wsAll := List.mem_of_getElem? (i := 409) rfl
set_option maxRecDepth 100000 in
theorem tw_410 : (.code ⟨"RecipePlans$CutSearch", "fewestClashing", "()I"⟩ prog_2_method_14_code 4 (some .int) : Cond) ∈ wsAll := List.mem_of_getElem? (i := 410) rfl
set_option maxRecDepth 100000 in
theorem tw_411 : (.methodLink "RecipePlans$CutSearch" 181 ⟨"RecipePlans$CutSearch", "allBreak", "(I)Z"⟩ : Cond) ∈ wsAll := List.mem_of_getElem? (i := 411) rfl
set_option maxRecDepth 100000 in
theorem tw_412 : (.instanceMethod ⟨"RecipePlans$CutSearch", "allBreak", "(I)Z"⟩ : Cond) ∈ wsAll := List.mem_of_getElem? (i := 412) rfl
set_option maxRecDepth 100000 in
theorem tw_413 : (.code ⟨"RecipePlans$CutSearch", "allBreak", "(I)Z"⟩ prog_2_method_15_code 3 (some .boolean) : Cond) ∈ wsAll := List.mem_of_getElem? (i := 413) rfl
set_option maxRecDepth 100000 in
theorem tw_414 : (.methodLink "RecipePlans" 131 ⟨"RecipePlans$Found", "takeWhole", "(LRecipePlans$WholeSearch;I)V"⟩ : Cond) ∈ wsAll := List.mem_of_getElem? (i := 414) rfl
set_option maxRecDepth 100000 in
theorem tw_415 : (.instanceMethod ⟨"RecipePlans$Found", "takeWhole", "(LRecipePlans$WholeSearch;I)V"⟩ : Cond) ∈ wsAll := List.mem_of_getElem? (i := 415) rfl
set_option maxRecDepth 100000 in
theorem tw_416 : (.selects "RecipePlans$Found" ⟨"RecipePlans$Found", "takeWhole", "(LRecipePlans$WholeSearch;I)V"⟩ ⟨"RecipePlans$Found", "takeWhole", "(LRecipePlans$WholeSearch;I)V"⟩ : Cond) ∈ wsAll := List.mem_of_getElem? (i := 416) rfl
set_option maxRecDepth 100000 in
theorem tw_417 : (.code ⟨"RecipePlans$Found", "takeWhole", "(LRecipePlans$WholeSearch;I)V"⟩ prog_3_method_3_code 4 none : Cond) ∈ wsAll := List.mem_of_getElem? (i := 417) rfl
set_option maxRecDepth 100000 in
theorem tw_418 : (.methodLink "RecipePlansLaw" 49 ⟨"RecipePlans", "best", "(I)I"⟩ : Cond) ∈ wsAll := List.mem_of_getElem? (i := 418) rfl
set_option maxRecDepth 100000 in
theorem tw_419 : (.instanceMethod ⟨"RecipePlans", "best", "(I)I"⟩ : Cond) ∈ wsAll := List.mem_of_getElem? (i := 419) rfl
set_option maxRecDepth 100000 in
theorem tw_420 : (.selects "RecipePlans" ⟨"RecipePlans", "best", "(I)I"⟩ ⟨"RecipePlans", "best", "(I)I"⟩ : Cond) ∈ wsAll := List.mem_of_getElem? (i := 420) rfl
set_option maxRecDepth 100000 in
theorem tw_421 : (.code ⟨"RecipePlans", "best", "(I)I"⟩ prog_1_method_9_code 2 (some .int) : Cond) ∈ wsAll := List.mem_of_getElem? (i := 421) rfl
set_option maxRecDepth 100000 in
theorem tw_422 : (.methodLink "RecipePlansLaw" 54 ⟨"RecipePlans", "cost", "()J"⟩ : Cond) ∈ wsAll := List.mem_of_getElem? (i := 422) rfl
set_option maxRecDepth 100000 in
theorem tw_423 : (.instanceMethod ⟨"RecipePlans", "cost", "()J"⟩ : Cond) ∈ wsAll := List.mem_of_getElem? (i := 423) rfl
set_option maxRecDepth 100000 in
theorem tw_424 : (.selects "RecipePlans" ⟨"RecipePlans", "cost", "()J"⟩ ⟨"RecipePlans", "cost", "()J"⟩ : Cond) ∈ wsAll := List.mem_of_getElem? (i := 424) rfl
set_option maxRecDepth 100000 in
theorem tw_425 : (.code ⟨"RecipePlans", "cost", "()J"⟩ prog_1_method_10_code 1 (some .long) : Cond) ∈ wsAll := List.mem_of_getElem? (i := 425) rfl
set_option maxRecDepth 100000 in
theorem tw_426 : (.constantLong "RecipePlans" 150 (-9223372036854775808) : Cond) ∈ wsAll := List.mem_of_getElem? (i := 426) rfl
set_option maxRecDepth 100000 in
theorem tw_427 : (.methodLink "RecipePlansLaw" 59 ⟨"RecipePlans", "cut", "(I)J"⟩ : Cond) ∈ wsAll := List.mem_of_getElem? (i := 427) rfl
set_option maxRecDepth 100000 in
theorem tw_428 : (.instanceMethod ⟨"RecipePlans", "cut", "(I)J"⟩ : Cond) ∈ wsAll := List.mem_of_getElem? (i := 428) rfl
set_option maxRecDepth 100000 in
theorem tw_429 : (.selects "RecipePlans" ⟨"RecipePlans", "cut", "(I)J"⟩ ⟨"RecipePlans", "cut", "(I)J"⟩ : Cond) ∈ wsAll := List.mem_of_getElem? (i := 429) rfl
set_option maxRecDepth 100000 in
theorem tw_430 : (.code ⟨"RecipePlans", "cut", "(I)J"⟩ prog_1_method_11_code 2 (some .long) : Cond) ∈ wsAll := List.mem_of_getElem? (i := 430) rfl
set_option maxRecDepth 100000 in
theorem tw_431 : (.methodLink "RecipePlansLaw" 64 ⟨"RecipePlans", "clashes", "()I"⟩ : Cond) ∈ wsAll := List.mem_of_getElem? (i := 431) rfl
set_option maxRecDepth 100000 in
theorem tw_432 : (.instanceMethod ⟨"RecipePlans", "clashes", "()I"⟩ : Cond) ∈ wsAll := List.mem_of_getElem? (i := 432) rfl
set_option maxRecDepth 100000 in
theorem tw_433 : (.selects "RecipePlans" ⟨"RecipePlans", "clashes", "()I"⟩ ⟨"RecipePlans", "clashes", "()I"⟩ : Cond) ∈ wsAll := List.mem_of_getElem? (i := 433) rfl
set_option maxRecDepth 100000 in
theorem tw_434 : (.code ⟨"RecipePlans", "clashes", "()I"⟩ prog_1_method_12_code 1 (some .int) : Cond) ∈ wsAll := List.mem_of_getElem? (i := 434) rfl
set_option maxRecDepth 100000 in
theorem tw_435 : (.methodLink "RecipePlans" 164 ⟨"java/lang/Integer", "bitCount", "(I)I"⟩ : Cond) ∈ wsAll := List.mem_of_getElem? (i := 435) rfl
set_option maxRecDepth 100000 in
theorem tw_436 : (.methodLink "RecipePlansLaw" 68 ⟨"RecipePlans", "clash", "(I)Z"⟩ : Cond) ∈ wsAll := List.mem_of_getElem? (i := 436) rfl
set_option maxRecDepth 100000 in
theorem tw_437 : (.instanceMethod ⟨"RecipePlans", "clash", "(I)Z"⟩ : Cond) ∈ wsAll := List.mem_of_getElem? (i := 437) rfl
set_option maxRecDepth 100000 in
theorem tw_438 : (.selects "RecipePlans" ⟨"RecipePlans", "clash", "(I)Z"⟩ ⟨"RecipePlans", "clash", "(I)Z"⟩ : Cond) ∈ wsAll := List.mem_of_getElem? (i := 438) rfl
set_option maxRecDepth 100000 in
theorem tw_439 : (.code ⟨"RecipePlans", "clash", "(I)Z"⟩ prog_1_method_13_code 2 (some .boolean) : Cond) ∈ wsAll := List.mem_of_getElem? (i := 439) rfl
set_option maxRecDepth 100000 in
theorem tw_440 : (.methodLink "RecipePlans" 170 ⟨"RecipePlans", "hasBit", "(II)Z"⟩ : Cond) ∈ wsAll := List.mem_of_getElem? (i := 440) rfl
set_option maxRecDepth 100000 in
theorem tw_441 : (.methodLink "RecipePlansLaw" 72 ⟨"RecipePlans", "broken", "(IIII)I"⟩ : Cond) ∈ wsAll := List.mem_of_getElem? (i := 441) rfl
set_option maxRecDepth 100000 in
theorem tw_442 : (.instanceMethod ⟨"RecipePlans", "broken", "(IIII)I"⟩ : Cond) ∈ wsAll := List.mem_of_getElem? (i := 442) rfl
set_option maxRecDepth 100000 in
theorem tw_443 : (.selects "RecipePlans" ⟨"RecipePlans", "broken", "(IIII)I"⟩ ⟨"RecipePlans", "broken", "(IIII)I"⟩ : Cond) ∈ wsAll := List.mem_of_getElem? (i := 443) rfl
set_option maxRecDepth 100000 in
theorem tw_444 : (.code ⟨"RecipePlans", "broken", "(IIII)I"⟩ prog_1_method_14_code 6 (some .int) : Cond) ∈ wsAll := List.mem_of_getElem? (i := 444) rfl
set_option maxRecDepth 100000 in
theorem tw_445 : (.methodLink "RecipePlans" 174 ⟨"RecipePlans$Lots", "hold", "([J[J)V"⟩ : Cond) ∈ wsAll := List.mem_of_getElem? (i := 445) rfl
set_option maxRecDepth 100000 in
theorem tw_446 : (.methodLink "RecipePlans" 178 ⟨"RecipePlans$Rules", "keeps", "(I[J)Z"⟩ : Cond) ∈ wsAll := List.mem_of_getElem? (i := 446) rfl
set_option maxRecDepth 100000 in
theorem tw_447 : (.classLink "RecipePlansLaw" 10 "RecipePlansModel" : Cond) ∈ wsAll := List.mem_of_getElem? (i := 447) rfl
set_option maxRecDepth 100000 in
theorem tw_448 : (.instantiable "RecipePlansModel" 24 : Cond) ∈ wsAll := List.mem_of_getElem? (i := 448) rfl
set_option maxRecDepth 100000 in
theorem tw_449 : (.methodLink "RecipePlansLaw" 12 ⟨"RecipePlansModel", "<init>", "()V"⟩ : Cond) ∈ wsAll := List.mem_of_getElem? (i := 449) rfl
set_option maxRecDepth 100000 in
theorem tw_450 : (.instanceMethod ⟨"RecipePlansModel", "<init>", "()V"⟩ : Cond) ∈ wsAll := List.mem_of_getElem? (i := 450) rfl
set_option maxRecDepth 100000 in
theorem tw_451 : (.code ⟨"RecipePlansModel", "<init>", "()V"⟩ prog_9_method_1_code 1 none : Cond) ∈ wsAll := List.mem_of_getElem? (i := 451) rfl
set_option maxRecDepth 100000 in
theorem tw_452 : (.methodLink "RecipePlansModel" 1 ⟨"java/lang/Object", "<init>", "()V"⟩ : Cond) ∈ wsAll := List.mem_of_getElem? (i := 452) rfl
set_option maxRecDepth 100000 in
theorem tw_453 : (.fieldLink "RecipePlansModel" 64 "RecipePlansModel" "lots" "I" : Cond) ∈ wsAll := List.mem_of_getElem? (i := 453) rfl
set_option maxRecDepth 100000 in
theorem tw_454 : (.fieldLink "RecipePlansModel" 7 "RecipePlansModel" "stocks" "[I" : Cond) ∈ wsAll := List.mem_of_getElem? (i := 454) rfl
set_option maxRecDepth 100000 in
theorem tw_455 : (.fieldLink "RecipePlansModel" 13 "RecipePlansModel" "cents" "[I" : Cond) ∈ wsAll := List.mem_of_getElem? (i := 455) rfl
set_option maxRecDepth 100000 in
theorem tw_456 : (.fieldLink "RecipePlansModel" 16 "RecipePlansModel" "amounts" "[I" : Cond) ∈ wsAll := List.mem_of_getElem? (i := 456) rfl
set_option maxRecDepth 100000 in
theorem tw_457 : (.fieldLink "RecipePlansModel" 19 "RecipePlansModel" "told" "[Z" : Cond) ∈ wsAll := List.mem_of_getElem? (i := 457) rfl
set_option maxRecDepth 100000 in
theorem tw_458 : (.fieldLink "RecipePlansModel" 23 "RecipePlansModel" "lows" "[I" : Cond) ∈ wsAll := List.mem_of_getElem? (i := 458) rfl
set_option maxRecDepth 100000 in
theorem tw_459 : (.fieldLink "RecipePlansModel" 26 "RecipePlansModel" "highs" "[I" : Cond) ∈ wsAll := List.mem_of_getElem? (i := 459) rfl
set_option maxRecDepth 100000 in
theorem tw_460 : (.fieldLink "RecipePlansModel" 29 "RecipePlansModel" "overs" "[I" : Cond) ∈ wsAll := List.mem_of_getElem? (i := 460) rfl
set_option maxRecDepth 100000 in
theorem tw_461 : (.fieldLink "RecipePlansModel" 32 "RecipePlansModel" "firsts" "[I" : Cond) ∈ wsAll := List.mem_of_getElem? (i := 461) rfl
set_option maxRecDepth 100000 in
theorem tw_462 : (.fieldLink "RecipePlansModel" 35 "RecipePlansModel" "seconds" "[I" : Cond) ∈ wsAll := List.mem_of_getElem? (i := 462) rfl
set_option maxRecDepth 100000 in
theorem tw_463 : (.fieldLink "RecipePlansModel" 38 "RecipePlansModel" "found" "I" : Cond) ∈ wsAll := List.mem_of_getElem? (i := 463) rfl
set_option maxRecDepth 100000 in
theorem tw_464 : (.fieldLink "RecipePlansModel" 176 "RecipePlansModel" "foundLots" "I" : Cond) ∈ wsAll := List.mem_of_getElem? (i := 464) rfl
set_option maxRecDepth 100000 in
theorem tw_465 : (.fieldLink "RecipePlansModel" 42 "RecipePlansModel" "best" "[I" : Cond) ∈ wsAll := List.mem_of_getElem? (i := 465) rfl
set_option maxRecDepth 100000 in
theorem tw_466 : (.fieldLink "RecipePlansModel" 106 "RecipePlansModel" "bestCost" "J" : Cond) ∈ wsAll := List.mem_of_getElem? (i := 466) rfl
set_option maxRecDepth 100000 in
theorem tw_467 : (.fieldLink "RecipePlansModel" 148 "RecipePlansModel" "cutOver" "J" : Cond) ∈ wsAll := List.mem_of_getElem? (i := 467) rfl
set_option maxRecDepth 100000 in
theorem tw_468 : (.fieldLink "RecipePlansModel" 145 "RecipePlansModel" "cutUnder" "J" : Cond) ∈ wsAll := List.mem_of_getElem? (i := 468) rfl
set_option maxRecDepth 100000 in
theorem tw_469 : (.fieldLink "RecipePlansModel" 158 "RecipePlansModel" "clashSet" "I" : Cond) ∈ wsAll := List.mem_of_getElem? (i := 469) rfl
set_option maxRecDepth 100000 in
theorem tw_470 : (.fieldLink "RecipePlansModel" 45 "RecipePlansModel" "mix" "[I" : Cond) ∈ wsAll := List.mem_of_getElem? (i := 470) rfl
set_option maxRecDepth 100000 in
theorem tw_471 : (.fieldLink "RecipePlansModel" 48 "RecipePlansModel" "limits" "[I" : Cond) ∈ wsAll := List.mem_of_getElem? (i := 471) rfl
set_option maxRecDepth 100000 in
theorem tw_472 : (.fieldLink "RecipePlansModel" 51 "RecipePlansModel" "isLimit" "[Z" : Cond) ∈ wsAll := List.mem_of_getElem? (i := 472) rfl
set_option maxRecDepth 100000 in
theorem tw_473 : (.fieldLink "RecipePlansModel" 54 "RecipePlansModel" "corner" "[I" : Cond) ∈ wsAll := List.mem_of_getElem? (i := 473) rfl
set_option maxRecDepth 100000 in
theorem tw_474 : (.fieldLink "RecipePlansModel" 57 "RecipePlansModel" "over" "[J" : Cond) ∈ wsAll := List.mem_of_getElem? (i := 474) rfl
set_option maxRecDepth 100000 in
theorem tw_475 : (.fieldLink "RecipePlansModel" 126 "RecipePlansModel" "under" "J" : Cond) ∈ wsAll := List.mem_of_getElem? (i := 475) rfl
set_option maxRecDepth 100000 in
theorem tw_476 : (.fieldLink "RecipePlansModel" 61 "RecipePlansModel" "kept" "[Z" : Cond) ∈ wsAll := List.mem_of_getElem? (i := 476) rfl
set_option maxRecDepth 100000 in
theorem tw_501 : (.methodLink "RecipePlansLaw" 19 ⟨"RecipePlansModel", "lot", "(IJ)I"⟩ : Cond) ∈ wsAll := List.mem_of_getElem? (i := 501) rfl
set_option maxRecDepth 100000 in
theorem tw_502 : (.instanceMethod ⟨"RecipePlansModel", "lot", "(IJ)I"⟩ : Cond) ∈ wsAll := List.mem_of_getElem? (i := 502) rfl
set_option maxRecDepth 100000 in
theorem tw_503 : (.selects "RecipePlansModel" ⟨"RecipePlansModel", "lot", "(IJ)I"⟩ ⟨"RecipePlansModel", "lot", "(IJ)I"⟩ : Cond) ∈ wsAll := List.mem_of_getElem? (i := 503) rfl
set_option maxRecDepth 100000 in
theorem tw_504 : (.code ⟨"RecipePlansModel", "lot", "(IJ)I"⟩ prog_9_method_5_code 4 (some .int) : Cond) ∈ wsAll := List.mem_of_getElem? (i := 504) rfl
set_option maxRecDepth 100000 in
theorem tw_505 : (.constantLong "RecipePlansModel" 67 9 : Cond) ∈ wsAll := List.mem_of_getElem? (i := 505) rfl
set_option maxRecDepth 100000 in
theorem tw_506 : (.methodLink "RecipePlansModel" 69 ⟨"RecipePlansModel", "isIn", "(JJJ)Z"⟩ : Cond) ∈ wsAll := List.mem_of_getElem? (i := 506) rfl
set_option maxRecDepth 100000 in
theorem tw_507 : (.static ⟨"RecipePlansModel", "isIn", "(JJJ)Z"⟩ : Cond) ∈ wsAll := List.mem_of_getElem? (i := 507) rfl
set_option maxRecDepth 100000 in
theorem tw_508 : (.code ⟨"RecipePlansModel", "isIn", "(JJJ)Z"⟩ prog_9_method_3_code 6 (some .boolean) : Cond) ∈ wsAll := List.mem_of_getElem? (i := 508) rfl
set_option maxRecDepth 100000 in
theorem tw_509 : (.constantLong "RecipePlansModel" 73 (-1000) : Cond) ∈ wsAll := List.mem_of_getElem? (i := 509) rfl
set_option maxRecDepth 100000 in
theorem tw_510 : (.constantLong "RecipePlansModel" 75 1000 : Cond) ∈ wsAll := List.mem_of_getElem? (i := 510) rfl
set_option maxRecDepth 100000 in
theorem tw_511 : (.methodLink "RecipePlansLaw" 24 ⟨"RecipePlansModel", "amount", "(III)Z"⟩ : Cond) ∈ wsAll := List.mem_of_getElem? (i := 511) rfl
set_option maxRecDepth 100000 in
theorem tw_512 : (.instanceMethod ⟨"RecipePlansModel", "amount", "(III)Z"⟩ : Cond) ∈ wsAll := List.mem_of_getElem? (i := 512) rfl
set_option maxRecDepth 100000 in
theorem tw_513 : (.selects "RecipePlansModel" ⟨"RecipePlansModel", "amount", "(III)Z"⟩ ⟨"RecipePlansModel", "amount", "(III)Z"⟩ : Cond) ∈ wsAll := List.mem_of_getElem? (i := 513) rfl
set_option maxRecDepth 100000 in
theorem tw_514 : (.code ⟨"RecipePlansModel", "amount", "(III)Z"⟩ prog_9_method_6_code 4 (some .boolean) : Cond) ∈ wsAll := List.mem_of_getElem? (i := 514) rfl
set_option maxRecDepth 100000 in
theorem tw_515 : (.methodLink "RecipePlansModel" 77 ⟨"RecipePlansModel", "isWhat", "(I)Z"⟩ : Cond) ∈ wsAll := List.mem_of_getElem? (i := 515) rfl
set_option maxRecDepth 100000 in
theorem tw_516 : (.static ⟨"RecipePlansModel", "isWhat", "(I)Z"⟩ : Cond) ∈ wsAll := List.mem_of_getElem? (i := 516) rfl
set_option maxRecDepth 100000 in
theorem tw_517 : (.code ⟨"RecipePlansModel", "isWhat", "(I)Z"⟩ prog_9_method_4_code 1 (some .boolean) : Cond) ∈ wsAll := List.mem_of_getElem? (i := 517) rfl
set_option maxRecDepth 100000 in
theorem tw_518 : (.constantLong "RecipePlansModel" 81 (-100) : Cond) ∈ wsAll := List.mem_of_getElem? (i := 518) rfl
set_option maxRecDepth 100000 in
theorem tw_519 : (.constantLong "RecipePlansModel" 83 100 : Cond) ∈ wsAll := List.mem_of_getElem? (i := 519) rfl
set_option maxRecDepth 100000 in
theorem tw_520 : (.methodLink "RecipePlansLaw" 28 ⟨"RecipePlansModel", "span", "(III)Z"⟩ : Cond) ∈ wsAll := List.mem_of_getElem? (i := 520) rfl
set_option maxRecDepth 100000 in
theorem tw_521 : (.instanceMethod ⟨"RecipePlansModel", "span", "(III)Z"⟩ : Cond) ∈ wsAll := List.mem_of_getElem? (i := 521) rfl
set_option maxRecDepth 100000 in
theorem tw_522 : (.selects "RecipePlansModel" ⟨"RecipePlansModel", "span", "(III)Z"⟩ ⟨"RecipePlansModel", "span", "(III)Z"⟩ : Cond) ∈ wsAll := List.mem_of_getElem? (i := 522) rfl
set_option maxRecDepth 100000 in
theorem tw_523 : (.code ⟨"RecipePlansModel", "span", "(III)Z"⟩ prog_9_method_8_code 4 (some .boolean) : Cond) ∈ wsAll := List.mem_of_getElem? (i := 523) rfl
set_option maxRecDepth 100000 in
theorem tw_524 : (.constantLong "RecipePlansModel" 85 (-100000) : Cond) ∈ wsAll := List.mem_of_getElem? (i := 524) rfl
set_option maxRecDepth 100000 in
theorem tw_525 : (.constantLong "RecipePlansModel" 87 100000 : Cond) ∈ wsAll := List.mem_of_getElem? (i := 525) rfl
set_option maxRecDepth 100000 in
theorem tw_526 : (.methodLink "RecipePlansModel" 89 ⟨"RecipePlansModel", "tell", "(III)Z"⟩ : Cond) ∈ wsAll := List.mem_of_getElem? (i := 526) rfl
set_option maxRecDepth 100000 in
theorem tw_527 : (.instanceMethod ⟨"RecipePlansModel", "tell", "(III)Z"⟩ : Cond) ∈ wsAll := List.mem_of_getElem? (i := 527) rfl
set_option maxRecDepth 100000 in
theorem tw_528 : (.code ⟨"RecipePlansModel", "tell", "(III)Z"⟩ prog_9_method_7_code 4 (some .boolean) : Cond) ∈ wsAll := List.mem_of_getElem? (i := 528) rfl
set_option maxRecDepth 100000 in
theorem tw_529 : (.methodLink "RecipePlansLaw" 33 ⟨"RecipePlansModel", "ratio", "(IIIIII)Z"⟩ : Cond) ∈ wsAll := List.mem_of_getElem? (i := 529) rfl
set_option maxRecDepth 100000 in
theorem tw_530 : (.instanceMethod ⟨"RecipePlansModel", "ratio", "(IIIIII)Z"⟩ : Cond) ∈ wsAll := List.mem_of_getElem? (i := 530) rfl
set_option maxRecDepth 100000 in
theorem tw_531 : (.selects "RecipePlansModel" ⟨"RecipePlansModel", "ratio", "(IIIIII)Z"⟩ ⟨"RecipePlansModel", "ratio", "(IIIIII)Z"⟩ : Cond) ∈ wsAll := List.mem_of_getElem? (i := 531) rfl
set_option maxRecDepth 100000 in
theorem tw_532 : (.code ⟨"RecipePlansModel", "ratio", "(IIIIII)Z"⟩ prog_9_method_9_code 7 (some .boolean) : Cond) ∈ wsAll := List.mem_of_getElem? (i := 532) rfl
set_option maxRecDepth 100000 in
theorem tw_533 : (.methodLink "RecipePlansLaw" 38 ⟨"RecipePlansModel", "loads", "(II)Z"⟩ : Cond) ∈ wsAll := List.mem_of_getElem? (i := 533) rfl
set_option maxRecDepth 100000 in
theorem tw_534 : (.instanceMethod ⟨"RecipePlansModel", "loads", "(II)Z"⟩ : Cond) ∈ wsAll := List.mem_of_getElem? (i := 534) rfl
set_option maxRecDepth 100000 in
theorem tw_535 : (.selects "RecipePlansModel" ⟨"RecipePlansModel", "loads", "(II)Z"⟩ ⟨"RecipePlansModel", "loads", "(II)Z"⟩ : Cond) ∈ wsAll := List.mem_of_getElem? (i := 535) rfl
set_option maxRecDepth 100000 in
theorem tw_536 : (.code ⟨"RecipePlansModel", "loads", "(II)Z"⟩ prog_9_method_10_code 3 (some .boolean) : Cond) ∈ wsAll := List.mem_of_getElem? (i := 536) rfl
set_option maxRecDepth 100000 in
theorem tw_537 : (.constantLong "RecipePlansModel" 93 36 : Cond) ∈ wsAll := List.mem_of_getElem? (i := 537) rfl
set_option maxRecDepth 100000 in
theorem tw_538 : (.methodLink "RecipePlansLaw" 43 ⟨"RecipePlansModel", "untell", "(I)Z"⟩ : Cond) ∈ wsAll := List.mem_of_getElem? (i := 538) rfl
set_option maxRecDepth 100000 in
theorem tw_539 : (.instanceMethod ⟨"RecipePlansModel", "untell", "(I)Z"⟩ : Cond) ∈ wsAll := List.mem_of_getElem? (i := 539) rfl
set_option maxRecDepth 100000 in
theorem tw_540 : (.selects "RecipePlansModel" ⟨"RecipePlansModel", "untell", "(I)Z"⟩ ⟨"RecipePlansModel", "untell", "(I)Z"⟩ : Cond) ∈ wsAll := List.mem_of_getElem? (i := 540) rfl
set_option maxRecDepth 100000 in
theorem tw_541 : (.code ⟨"RecipePlansModel", "untell", "(I)Z"⟩ prog_9_method_11_code 2 (some .boolean) : Cond) ∈ wsAll := List.mem_of_getElem? (i := 541) rfl
set_option maxRecDepth 100000 in
theorem tw_542 : (.methodLink "RecipePlansLaw" 76 ⟨"RecipePlansModel", "broken", "(IIII)I"⟩ : Cond) ∈ wsAll := List.mem_of_getElem? (i := 542) rfl
set_option maxRecDepth 100000 in
theorem tw_543 : (.instanceMethod ⟨"RecipePlansModel", "broken", "(IIII)I"⟩ : Cond) ∈ wsAll := List.mem_of_getElem? (i := 543) rfl
set_option maxRecDepth 100000 in
theorem tw_544 : (.selects "RecipePlansModel" ⟨"RecipePlansModel", "broken", "(IIII)I"⟩ ⟨"RecipePlansModel", "broken", "(IIII)I"⟩ : Cond) ∈ wsAll := List.mem_of_getElem? (i := 544) rfl
set_option maxRecDepth 100000 in
theorem tw_545 : (.code ⟨"RecipePlansModel", "broken", "(IIII)I"⟩ prog_9_method_15_code 6 (some .int) : Cond) ∈ wsAll := List.mem_of_getElem? (i := 545) rfl
set_option maxRecDepth 100000 in
theorem tw_546 : (.methodLink "RecipePlansModel" 102 ⟨"RecipePlansModel", "firstBroken", "()I"⟩ : Cond) ∈ wsAll := List.mem_of_getElem? (i := 546) rfl
set_option maxRecDepth 100000 in
theorem tw_547 : (.instanceMethod ⟨"RecipePlansModel", "firstBroken", "()I"⟩ : Cond) ∈ wsAll := List.mem_of_getElem? (i := 547) rfl
set_option maxRecDepth 100000 in
theorem tw_548 : (.code ⟨"RecipePlansModel", "firstBroken", "()I"⟩ prog_9_method_14_code 2 (some .int) : Cond) ∈ wsAll := List.mem_of_getElem? (i := 548) rfl
set_option maxRecDepth 100000 in
theorem tw_549 : (.methodLink "RecipePlansModel" 99 ⟨"RecipePlansModel", "keeps", "(I)Z"⟩ : Cond) ∈ wsAll := List.mem_of_getElem? (i := 549) rfl
set_option maxRecDepth 100000 in
theorem tw_550 : (.instanceMethod ⟨"RecipePlansModel", "keeps", "(I)Z"⟩ : Cond) ∈ wsAll := List.mem_of_getElem? (i := 550) rfl
set_option maxRecDepth 100000 in
theorem tw_551 : (.code ⟨"RecipePlansModel", "keeps", "(I)Z"⟩ prog_9_method_13_code 6 (some .boolean) : Cond) ∈ wsAll := List.mem_of_getElem? (i := 551) rfl
set_option maxRecDepth 100000 in
theorem tw_552 : (.methodLink "RecipePlansModel" 95 ⟨"RecipePlansModel", "holds", "(I)I"⟩ : Cond) ∈ wsAll := List.mem_of_getElem? (i := 552) rfl
set_option maxRecDepth 100000 in
theorem tw_553 : (.instanceMethod ⟨"RecipePlansModel", "holds", "(I)I"⟩ : Cond) ∈ wsAll := List.mem_of_getElem? (i := 553) rfl
set_option maxRecDepth 100000 in
theorem tw_554 : (.code ⟨"RecipePlansModel", "holds", "(I)I"⟩ prog_9_method_12_code 4 (some .int) : Cond) ∈ wsAll := List.mem_of_getElem? (i := 554) rfl
set_option maxRecDepth 100000 in
theorem tw_555 : (.methodLink "RecipePlansLaw" 48 ⟨"RecipePlansModel", "run", "()I"⟩ : Cond) ∈ wsAll := List.mem_of_getElem? (i := 555) rfl
set_option maxRecDepth 100000 in
theorem tw_556 : (.instanceMethod ⟨"RecipePlansModel", "run", "()I"⟩ : Cond) ∈ wsAll := List.mem_of_getElem? (i := 556) rfl
set_option maxRecDepth 100000 in
theorem tw_557 : (.selects "RecipePlansModel" ⟨"RecipePlansModel", "run", "()I"⟩ ⟨"RecipePlansModel", "run", "()I"⟩ : Cond) ∈ wsAll := List.mem_of_getElem? (i := 557) rfl
set_option maxRecDepth 100000 in
theorem tw_558 : (.code ⟨"RecipePlansModel", "run", "()I"⟩ prog_9_method_32_code 2 (some .int) : Cond) ∈ wsAll := List.mem_of_getElem? (i := 558) rfl
set_option maxRecDepth 100000 in
theorem tw_559 : (.methodLink "RecipePlansModel" 167 ⟨"RecipePlansModel", "findWhole", "()Z"⟩ : Cond) ∈ wsAll := List.mem_of_getElem? (i := 559) rfl
set_option maxRecDepth 100000 in
theorem tw_560 : (.instanceMethod ⟨"RecipePlansModel", "findWhole", "()Z"⟩ : Cond) ∈ wsAll := List.mem_of_getElem? (i := 560) rfl
set_option maxRecDepth 100000 in
theorem tw_561 : (.code ⟨"RecipePlansModel", "findWhole", "()Z"⟩ prog_9_method_16_code 8 (some .boolean) : Cond) ∈ wsAll := List.mem_of_getElem? (i := 561) rfl
set_option maxRecDepth 100000 in
theorem tw_562 : (.methodLink "RecipePlansModel" 170 ⟨"RecipePlansModel", "setLimits", "()V"⟩ : Cond) ∈ wsAll := List.mem_of_getElem? (i := 562) rfl
set_option maxRecDepth 100000 in
theorem tw_563 : (.instanceMethod ⟨"RecipePlansModel", "setLimits", "()V"⟩ : Cond) ∈ wsAll := List.mem_of_getElem? (i := 563) rfl
set_option maxRecDepth 100000 in
theorem tw_564 : (.code ⟨"RecipePlansModel", "setLimits", "()V"⟩ prog_9_method_18_code 5 none : Cond) ∈ wsAll := List.mem_of_getElem? (i := 564) rfl
set_option maxRecDepth 100000 in
theorem tw_565 : (.methodLink "RecipePlansModel" 110 ⟨"RecipePlansModel", "setLimit", "(IIZ)V"⟩ : Cond) ∈ wsAll := List.mem_of_getElem? (i := 565) rfl
set_option maxRecDepth 100000 in
theorem tw_566 : (.instanceMethod ⟨"RecipePlansModel", "setLimit", "(IIZ)V"⟩ : Cond) ∈ wsAll := List.mem_of_getElem? (i := 566) rfl
set_option maxRecDepth 100000 in
theorem tw_567 : (.code ⟨"RecipePlansModel", "setLimit", "(IIZ)V"⟩ prog_9_method_17_code 8 none : Cond) ∈ wsAll := List.mem_of_getElem? (i := 567) rfl
set_option maxRecDepth 100000 in
theorem tw_568 : (.methodLink "RecipePlansModel" 173 ⟨"RecipePlansModel", "lookAtCorners", "()V"⟩ : Cond) ∈ wsAll := List.mem_of_getElem? (i := 568) rfl
set_option maxRecDepth 100000 in
theorem tw_569 : (.instanceMethod ⟨"RecipePlansModel", "lookAtCorners", "()V"⟩ : Cond) ∈ wsAll := List.mem_of_getElem? (i := 569) rfl
set_option maxRecDepth 100000 in
theorem tw_570 : (.code ⟨"RecipePlansModel", "lookAtCorners", "()V"⟩ prog_9_method_28_code 5 none : Cond) ∈ wsAll := List.mem_of_getElem? (i := 570) rfl
set_option maxRecDepth 100000 in
theorem tw_571 : (.methodLink "RecipePlansModel" 155 ⟨"RecipePlansModel", "lookAtCorner", "()V"⟩ : Cond) ∈ wsAll := List.mem_of_getElem? (i := 571) rfl
set_option maxRecDepth 100000 in
theorem tw_572 : (.instanceMethod ⟨"RecipePlansModel", "lookAtCorner", "()V"⟩ : Cond) ∈ wsAll := List.mem_of_getElem? (i := 572) rfl
set_option maxRecDepth 100000 in
theorem tw_573 : (.code ⟨"RecipePlansModel", "lookAtCorner", "()V"⟩ prog_9_method_27_code 6 none : Cond) ∈ wsAll := List.mem_of_getElem? (i := 573) rfl
set_option maxRecDepth 100000 in
theorem tw_574 : (.methodLink "RecipePlansModel" 138 ⟨"RecipePlansModel", "meet", "()Z"⟩ : Cond) ∈ wsAll := List.mem_of_getElem? (i := 574) rfl
set_option maxRecDepth 100000 in
theorem tw_575 : (.instanceMethod ⟨"RecipePlansModel", "meet", "()Z"⟩ : Cond) ∈ wsAll := List.mem_of_getElem? (i := 575) rfl
set_option maxRecDepth 100000 in
theorem tw_576 : (.code ⟨"RecipePlansModel", "meet", "()Z"⟩ prog_9_method_23_code 4 (some .boolean) : Cond) ∈ wsAll := List.mem_of_getElem? (i := 576) rfl
set_option maxRecDepth 100000 in
theorem tw_577 : (.methodLink "RecipePlansModel" 122 ⟨"RecipePlansModel", "determinant", "(I)J"⟩ : Cond) ∈ wsAll := List.mem_of_getElem? (i := 577) rfl
set_option maxRecDepth 100000 in
theorem tw_578 : (.instanceMethod ⟨"RecipePlansModel", "determinant", "(I)J"⟩ : Cond) ∈ wsAll := List.mem_of_getElem? (i := 578) rfl
set_option maxRecDepth 100000 in
theorem tw_579 : (.code ⟨"RecipePlansModel", "determinant", "(I)J"⟩ prog_9_method_21_code 2 (some .long) : Cond) ∈ wsAll := List.mem_of_getElem? (i := 579) rfl
set_option maxRecDepth 100000 in
theorem tw_580 : (.methodLink "RecipePlansModel" 118 ⟨"RecipePlansModel", "minor", "(IIIII)J"⟩ : Cond) ∈ wsAll := List.mem_of_getElem? (i := 580) rfl
set_option maxRecDepth 100000 in
theorem tw_581 : (.instanceMethod ⟨"RecipePlansModel", "minor", "(IIIII)J"⟩ : Cond) ∈ wsAll := List.mem_of_getElem? (i := 581) rfl
set_option maxRecDepth 100000 in
theorem tw_582 : (.code ⟨"RecipePlansModel", "minor", "(IIIII)J"⟩ prog_9_method_20_code 6 (some .long) : Cond) ∈ wsAll := List.mem_of_getElem? (i := 582) rfl
set_option maxRecDepth 100000 in
theorem tw_583 : (.methodLink "RecipePlansModel" 114 ⟨"RecipePlansModel", "at", "(III)J"⟩ : Cond) ∈ wsAll := List.mem_of_getElem? (i := 583) rfl
set_option maxRecDepth 100000 in
theorem tw_584 : (.instanceMethod ⟨"RecipePlansModel", "at", "(III)J"⟩ : Cond) ∈ wsAll := List.mem_of_getElem? (i := 584) rfl
set_option maxRecDepth 100000 in
theorem tw_585 : (.code ⟨"RecipePlansModel", "at", "(III)J"⟩ prog_9_method_19_code 4 (some .long) : Cond) ∈ wsAll := List.mem_of_getElem? (i := 585) rfl
set_option maxRecDepth 100000 in
theorem tw_586 : (.methodLink "RecipePlansModel" 129 ⟨"RecipePlansModel", "common", "(JJ)J"⟩ : Cond) ∈ wsAll := List.mem_of_getElem? (i := 586) rfl
set_option maxRecDepth 100000 in
theorem tw_587 : (.static ⟨"RecipePlansModel", "common", "(JJ)J"⟩ : Cond) ∈ wsAll := List.mem_of_getElem? (i := 587) rfl
set_option maxRecDepth 100000 in
theorem tw_588 : (.code ⟨"RecipePlansModel", "common", "(JJ)J"⟩ prog_9_method_22_code 10 (some .long) : Cond) ∈ wsAll := List.mem_of_getElem? (i := 588) rfl
set_option maxRecDepth 100000 in
theorem tw_589 : (.methodLink "RecipePlansModel" 142 ⟨"RecipePlansModel", "keptRules", "()I"⟩ : Cond) ∈ wsAll := List.mem_of_getElem? (i := 589) rfl
set_option maxRecDepth 100000 in
theorem tw_590 : (.instanceMethod ⟨"RecipePlansModel", "keptRules", "()I"⟩ : Cond) ∈ wsAll := List.mem_of_getElem? (i := 590) rfl
set_option maxRecDepth 100000 in
theorem tw_591 : (.code ⟨"RecipePlansModel", "keptRules", "()I"⟩ prog_9_method_25_code 3 (some .int) : Cond) ∈ wsAll := List.mem_of_getElem? (i := 591) rfl
set_option maxRecDepth 100000 in
theorem tw_592 : (.methodLink "RecipePlansModel" 135 ⟨"RecipePlansModel", "isKept", "(I)Z"⟩ : Cond) ∈ wsAll := List.mem_of_getElem? (i := 592) rfl
set_option maxRecDepth 100000 in
theorem tw_593 : (.instanceMethod ⟨"RecipePlansModel", "isKept", "(I)Z"⟩ : Cond) ∈ wsAll := List.mem_of_getElem? (i := 593) rfl
set_option maxRecDepth 100000 in
theorem tw_594 : (.code ⟨"RecipePlansModel", "isKept", "(I)Z"⟩ prog_9_method_24_code 13 (some .boolean) : Cond) ∈ wsAll := List.mem_of_getElem? (i := 594) rfl
set_option maxRecDepth 100000 in
theorem tw_595 : (.constantLong "RecipePlansModel" 133 2147483648 : Cond) ∈ wsAll := List.mem_of_getElem? (i := 595) rfl
set_option maxRecDepth 100000 in
theorem tw_596 : (.methodLink "RecipePlansModel" 151 ⟨"RecipePlansModel", "isLess", "(JJJJ)Z"⟩ : Cond) ∈ wsAll := List.mem_of_getElem? (i := 596) rfl
set_option maxRecDepth 100000 in
theorem tw_597 : (.static ⟨"RecipePlansModel", "isLess", "(JJJJ)Z"⟩ : Cond) ∈ wsAll := List.mem_of_getElem? (i := 597) rfl
set_option maxRecDepth 100000 in
theorem tw_598 : (.code ⟨"RecipePlansModel", "isLess", "(JJJJ)Z"⟩ prog_9_method_26_code 25 (some .boolean) : Cond) ∈ wsAll := List.mem_of_getElem? (i := 598) rfl
set_option maxRecDepth 100000 in
theorem tw_599 : (.methodLink "RecipePlansModel" 179 ⟨"RecipePlansModel", "findClash", "()V"⟩ : Cond) ∈ wsAll := List.mem_of_getElem? (i := 599) rfl
set_option maxRecDepth 100000 in
theorem tw_600 : (.instanceMethod ⟨"RecipePlansModel", "findClash", "()V"⟩ : Cond) ∈ wsAll := List.mem_of_getElem? (i := 600) rfl
set_option maxRecDepth 100000 in
theorem tw_601 : (.code ⟨"RecipePlansModel", "findClash", "()V"⟩ prog_9_method_31_code 4 none : Cond) ∈ wsAll := List.mem_of_getElem? (i := 601) rfl
set_option maxRecDepth 100000 in
theorem tw_602 : (.methodLink "RecipePlansModel" 161 ⟨"RecipePlansModel", "sizeOf", "(I)I"⟩ : Cond) ∈ wsAll := List.mem_of_getElem? (i := 602) rfl
set_option maxRecDepth 100000 in
theorem tw_603 : (.static ⟨"RecipePlansModel", "sizeOf", "(I)I"⟩ : Cond) ∈ wsAll := List.mem_of_getElem? (i := 603) rfl
set_option maxRecDepth 100000 in
theorem tw_604 : (.code ⟨"RecipePlansModel", "sizeOf", "(I)I"⟩ prog_9_method_30_code 3 (some .int) : Cond) ∈ wsAll := List.mem_of_getElem? (i := 604) rfl
set_option maxRecDepth 100000 in
theorem tw_605 : (.methodLink "RecipePlansModel" 164 ⟨"RecipePlansModel", "canBeKept", "(I)Z"⟩ : Cond) ∈ wsAll := List.mem_of_getElem? (i := 605) rfl
set_option maxRecDepth 100000 in
theorem tw_606 : (.instanceMethod ⟨"RecipePlansModel", "canBeKept", "(I)Z"⟩ : Cond) ∈ wsAll := List.mem_of_getElem? (i := 606) rfl
set_option maxRecDepth 100000 in
theorem tw_607 : (.code ⟨"RecipePlansModel", "canBeKept", "(I)Z"⟩ prog_9_method_29_code 3 (some .boolean) : Cond) ∈ wsAll := List.mem_of_getElem? (i := 607) rfl
set_option maxRecDepth 100000 in
theorem tw_608 : (.methodLink "RecipePlansLaw" 53 ⟨"RecipePlansModel", "best", "(I)I"⟩ : Cond) ∈ wsAll := List.mem_of_getElem? (i := 608) rfl
set_option maxRecDepth 100000 in
theorem tw_609 : (.instanceMethod ⟨"RecipePlansModel", "best", "(I)I"⟩ : Cond) ∈ wsAll := List.mem_of_getElem? (i := 609) rfl
set_option maxRecDepth 100000 in
theorem tw_610 : (.selects "RecipePlansModel" ⟨"RecipePlansModel", "best", "(I)I"⟩ ⟨"RecipePlansModel", "best", "(I)I"⟩ : Cond) ∈ wsAll := List.mem_of_getElem? (i := 610) rfl
set_option maxRecDepth 100000 in
theorem tw_611 : (.code ⟨"RecipePlansModel", "best", "(I)I"⟩ prog_9_method_33_code 2 (some .int) : Cond) ∈ wsAll := List.mem_of_getElem? (i := 611) rfl
set_option maxRecDepth 100000 in
theorem tw_612 : (.methodLink "RecipePlansLaw" 58 ⟨"RecipePlansModel", "cost", "()J"⟩ : Cond) ∈ wsAll := List.mem_of_getElem? (i := 612) rfl
set_option maxRecDepth 100000 in
theorem tw_613 : (.instanceMethod ⟨"RecipePlansModel", "cost", "()J"⟩ : Cond) ∈ wsAll := List.mem_of_getElem? (i := 613) rfl
set_option maxRecDepth 100000 in
theorem tw_614 : (.selects "RecipePlansModel" ⟨"RecipePlansModel", "cost", "()J"⟩ ⟨"RecipePlansModel", "cost", "()J"⟩ : Cond) ∈ wsAll := List.mem_of_getElem? (i := 614) rfl
set_option maxRecDepth 100000 in
theorem tw_615 : (.code ⟨"RecipePlansModel", "cost", "()J"⟩ prog_9_method_34_code 1 (some .long) : Cond) ∈ wsAll := List.mem_of_getElem? (i := 615) rfl
set_option maxRecDepth 100000 in
theorem tw_616 : (.constantLong "RecipePlansModel" 182 (-9223372036854775808) : Cond) ∈ wsAll := List.mem_of_getElem? (i := 616) rfl
set_option maxRecDepth 100000 in
theorem tw_617 : (.methodLink "RecipePlansLaw" 63 ⟨"RecipePlansModel", "cut", "(I)J"⟩ : Cond) ∈ wsAll := List.mem_of_getElem? (i := 617) rfl
set_option maxRecDepth 100000 in
theorem tw_618 : (.instanceMethod ⟨"RecipePlansModel", "cut", "(I)J"⟩ : Cond) ∈ wsAll := List.mem_of_getElem? (i := 618) rfl
set_option maxRecDepth 100000 in
theorem tw_619 : (.selects "RecipePlansModel" ⟨"RecipePlansModel", "cut", "(I)J"⟩ ⟨"RecipePlansModel", "cut", "(I)J"⟩ : Cond) ∈ wsAll := List.mem_of_getElem? (i := 619) rfl
set_option maxRecDepth 100000 in
theorem tw_620 : (.code ⟨"RecipePlansModel", "cut", "(I)J"⟩ prog_9_method_35_code 2 (some .long) : Cond) ∈ wsAll := List.mem_of_getElem? (i := 620) rfl
set_option maxRecDepth 100000 in
theorem tw_621 : (.methodLink "RecipePlansLaw" 67 ⟨"RecipePlansModel", "clashes", "()I"⟩ : Cond) ∈ wsAll := List.mem_of_getElem? (i := 621) rfl
set_option maxRecDepth 100000 in
theorem tw_622 : (.instanceMethod ⟨"RecipePlansModel", "clashes", "()I"⟩ : Cond) ∈ wsAll := List.mem_of_getElem? (i := 622) rfl
set_option maxRecDepth 100000 in
theorem tw_623 : (.selects "RecipePlansModel" ⟨"RecipePlansModel", "clashes", "()I"⟩ ⟨"RecipePlansModel", "clashes", "()I"⟩ : Cond) ∈ wsAll := List.mem_of_getElem? (i := 623) rfl
set_option maxRecDepth 100000 in
theorem tw_624 : (.code ⟨"RecipePlansModel", "clashes", "()I"⟩ prog_9_method_36_code 1 (some .int) : Cond) ∈ wsAll := List.mem_of_getElem? (i := 624) rfl
set_option maxRecDepth 100000 in
theorem tw_625 : (.methodLink "RecipePlansLaw" 71 ⟨"RecipePlansModel", "clash", "(I)Z"⟩ : Cond) ∈ wsAll := List.mem_of_getElem? (i := 625) rfl
set_option maxRecDepth 100000 in
theorem tw_626 : (.instanceMethod ⟨"RecipePlansModel", "clash", "(I)Z"⟩ : Cond) ∈ wsAll := List.mem_of_getElem? (i := 626) rfl
set_option maxRecDepth 100000 in
theorem tw_627 : (.selects "RecipePlansModel" ⟨"RecipePlansModel", "clash", "(I)Z"⟩ ⟨"RecipePlansModel", "clash", "(I)Z"⟩ : Cond) ∈ wsAll := List.mem_of_getElem? (i := 627) rfl
set_option maxRecDepth 100000 in
theorem tw_628 : (.code ⟨"RecipePlansModel", "clash", "(I)Z"⟩ prog_9_method_37_code 2 (some .boolean) : Cond) ∈ wsAll := List.mem_of_getElem? (i := 628) rfl
set_option maxRecDepth 100000 in
theorem tw_629 : (.constantLong "RecipePlansLaw" 13 4294967295 : Cond) ∈ wsAll := List.mem_of_getElem? (i := 629) rfl
