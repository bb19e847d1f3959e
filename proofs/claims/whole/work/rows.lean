section
-- ===== PART A: goes FIRST, ahead of the names: the tables' words, and 'selects' of the private methods out of them =====
/-- a private method of a class that the tables say can be made, by its rows of tables_1 -/
def lw_okq (q : MethodName × Nat) : Prop := (q.1.cls ≠ "java/lang/invoke/MethodHandle" ∧ q.1.cls ≠ "java/lang/invoke/VarHandle") ∧ Cond.instantiable q.1.cls q.2 ∈ tables_1 ∧ Cond.privateMethod q.1 ∈ tables_1 ∧ Cond.instanceMethod q.1 ∈ tables_1
theorem lw_p0 : lw_okq (⟨"RecipePlans$Sides", "fill", "([J[JLRecipePlans$Rules;I)V"⟩, 3) := ⟨⟨by decide +kernel, by decide +kernel⟩, List.mem_of_getElem? (i := 87) (by decide +kernel), List.mem_of_getElem? (i := 326) (by decide +kernel), List.mem_of_getElem? (i := 327) (by decide +kernel)⟩
theorem lw_p1 : lw_okq (⟨"RecipePlans$CutSearch", "begin", "()V"⟩, 13) := ⟨⟨by decide +kernel, by decide +kernel⟩, List.mem_of_getElem? (i := 109) (by decide +kernel), List.mem_of_getElem? (i := 334) (by decide +kernel), List.mem_of_getElem? (i := 335) (by decide +kernel)⟩
theorem lw_p2 : lw_okq (⟨"RecipePlans$CutSearch", "tighten", "(II)V"⟩, 13) := ⟨⟨by decide +kernel, by decide +kernel⟩, List.mem_of_getElem? (i := 109) (by decide +kernel), List.mem_of_getElem? (i := 342) (by decide +kernel), List.mem_of_getElem? (i := 343) (by decide +kernel)⟩
theorem lw_p3 : lw_okq (⟨"RecipePlans$CutSearch", "visitCorners", "(I)V"⟩, 13) := ⟨⟨by decide +kernel, by decide +kernel⟩, List.mem_of_getElem? (i := 109) (by decide +kernel), List.mem_of_getElem? (i := 346) (by decide +kernel), List.mem_of_getElem? (i := 347) (by decide +kernel)⟩
theorem lw_p4 : lw_okq (⟨"RecipePlans$CutSearch", "meets", "([JII)Z"⟩, 13) := ⟨⟨by decide +kernel, by decide +kernel⟩, List.mem_of_getElem? (i := 109) (by decide +kernel), List.mem_of_getElem? (i := 354) (by decide +kernel), List.mem_of_getElem? (i := 355) (by decide +kernel)⟩
theorem lw_p5 : lw_okq (⟨"RecipePlans$CutSearch", "replaced", "([JIII)J"⟩, 13) := ⟨⟨by decide +kernel, by decide +kernel⟩, List.mem_of_getElem? (i := 109) (by decide +kernel), List.mem_of_getElem? (i := 360) (by decide +kernel), List.mem_of_getElem? (i := 361) (by decide +kernel)⟩
theorem lw_p6 : lw_okq (⟨"RecipePlans$CutSearch", "weigh", "()V"⟩, 13) := ⟨⟨by decide +kernel, by decide +kernel⟩, List.mem_of_getElem? (i := 109) (by decide +kernel), List.mem_of_getElem? (i := 371) (by decide +kernel), List.mem_of_getElem? (i := 372) (by decide +kernel)⟩
theorem lw_p7 : lw_okq (⟨"RecipePlans$CutSearch", "add", "(I[J)Z"⟩, 13) := ⟨⟨by decide +kernel, by decide +kernel⟩, List.mem_of_getElem? (i := 109) (by decide +kernel), List.mem_of_getElem? (i := 397) (by decide +kernel), List.mem_of_getElem? (i := 398) (by decide +kernel)⟩
theorem lw_p8 : lw_okq (⟨"RecipePlans$CutSearch", "addBoth", "(II)Z"⟩, 13) := ⟨⟨by decide +kernel, by decide +kernel⟩, List.mem_of_getElem? (i := 109) (by decide +kernel), List.mem_of_getElem? (i := 404) (by decide +kernel), List.mem_of_getElem? (i := 405) (by decide +kernel)⟩
theorem lw_p9 : lw_okq (⟨"RecipePlans$WholeSearch", "begin", "()V"⟩, 9) := ⟨⟨by decide +kernel, by decide +kernel⟩, List.mem_of_getElem? (i := 161) (by decide +kernel), List.mem_of_getElem? (i := 412) (by decide +kernel), List.mem_of_getElem? (i := 413) (by decide +kernel)⟩
theorem lw_p10 : lw_okq (⟨"RecipePlans$WholeSearch", "place", "(IJ)V"⟩, 9) := ⟨⟨by decide +kernel, by decide +kernel⟩, List.mem_of_getElem? (i := 161) (by decide +kernel), List.mem_of_getElem? (i := 422) (by decide +kernel), List.mem_of_getElem? (i := 423) (by decide +kernel)⟩
theorem lw_p11 : lw_okq (⟨"RecipePlans$WholeSearch", "mostLoads", "(I)I"⟩, 9) := ⟨⟨by decide +kernel, by decide +kernel⟩, List.mem_of_getElem? (i := 161) (by decide +kernel), List.mem_of_getElem? (i := 426) (by decide +kernel), List.mem_of_getElem? (i := 427) (by decide +kernel)⟩
theorem lw_p12 : lw_okq (⟨"RecipePlans$WholeSearch", "fewestLoads", "(I)I"⟩, 9) := ⟨⟨by decide +kernel, by decide +kernel⟩, List.mem_of_getElem? (i := 161) (by decide +kernel), List.mem_of_getElem? (i := 432) (by decide +kernel), List.mem_of_getElem? (i := 433) (by decide +kernel)⟩
theorem lw_p13 : lw_okq (⟨"RecipePlans$WholeSearch", "take", "(IIJ)V"⟩, 9) := ⟨⟨by decide +kernel, by decide +kernel⟩, List.mem_of_getElem? (i := 161) (by decide +kernel), List.mem_of_getElem? (i := 437) (by decide +kernel), List.mem_of_getElem? (i := 438) (by decide +kernel)⟩
theorem lw_p14 : lw_okq (⟨"RecipePlans$WholeSearch", "offer", "(J)V"⟩, 9) := ⟨⟨by decide +kernel, by decide +kernel⟩, List.mem_of_getElem? (i := 161) (by decide +kernel), List.mem_of_getElem? (i := 441) (by decide +kernel), List.mem_of_getElem? (i := 442) (by decide +kernel)⟩
theorem lw_p15 : lw_okq (⟨"RecipePlans$CutSearch", "allBreak", "(I)Z"⟩, 13) := ⟨⟨by decide +kernel, by decide +kernel⟩, List.mem_of_getElem? (i := 109) (by decide +kernel), List.mem_of_getElem? (i := 460) (by decide +kernel), List.mem_of_getElem? (i := 461) (by decide +kernel)⟩
def lw_privs_1 : List (MethodName × Nat) := [(⟨"RecipePlans$Sides", "fill", "([J[JLRecipePlans$Rules;I)V"⟩, 3), (⟨"RecipePlans$CutSearch", "begin", "()V"⟩, 13), (⟨"RecipePlans$CutSearch", "tighten", "(II)V"⟩, 13), (⟨"RecipePlans$CutSearch", "visitCorners", "(I)V"⟩, 13), (⟨"RecipePlans$CutSearch", "meets", "([JII)Z"⟩, 13), (⟨"RecipePlans$CutSearch", "replaced", "([JIII)J"⟩, 13), (⟨"RecipePlans$CutSearch", "weigh", "()V"⟩, 13), (⟨"RecipePlans$CutSearch", "add", "(I[J)Z"⟩, 13), (⟨"RecipePlans$CutSearch", "addBoth", "(II)Z"⟩, 13), (⟨"RecipePlans$WholeSearch", "begin", "()V"⟩, 9), (⟨"RecipePlans$WholeSearch", "place", "(IJ)V"⟩, 9), (⟨"RecipePlans$WholeSearch", "mostLoads", "(I)I"⟩, 9), (⟨"RecipePlans$WholeSearch", "fewestLoads", "(I)I"⟩, 9), (⟨"RecipePlans$WholeSearch", "take", "(IIJ)V"⟩, 9), (⟨"RecipePlans$WholeSearch", "offer", "(J)V"⟩, 9), (⟨"RecipePlans$CutSearch", "allBreak", "(I)Z"⟩, 13)]
theorem lw_r1 : ∀ q ∈ lw_privs_1, lw_okq q := List.forall_mem_cons.mpr ⟨lw_p0, List.forall_mem_cons.mpr ⟨lw_p1, List.forall_mem_cons.mpr ⟨lw_p2, List.forall_mem_cons.mpr ⟨lw_p3, List.forall_mem_cons.mpr ⟨lw_p4, List.forall_mem_cons.mpr ⟨lw_p5, List.forall_mem_cons.mpr ⟨lw_p6, List.forall_mem_cons.mpr ⟨lw_p7, List.forall_mem_cons.mpr ⟨lw_p8, List.forall_mem_cons.mpr ⟨lw_p9, List.forall_mem_cons.mpr ⟨lw_p10, List.forall_mem_cons.mpr ⟨lw_p11, List.forall_mem_cons.mpr ⟨lw_p12, List.forall_mem_cons.mpr ⟨lw_p13, List.forall_mem_cons.mpr ⟨lw_p14, List.forall_mem_cons.mpr ⟨lw_p15, fun _ h => absurd h List.not_mem_nil⟩⟩⟩⟩⟩⟩⟩⟩⟩⟩⟩⟩⟩⟩⟩⟩
theorem lw_p16 : lw_okq (⟨"RecipePlansModel", "tell", "(III)Z"⟩, 24) := ⟨⟨by decide +kernel, by decide +kernel⟩, List.mem_of_getElem? (i := 497) (by decide +kernel), List.mem_of_getElem? (i := 601) (by decide +kernel), List.mem_of_getElem? (i := 602) (by decide +kernel)⟩
theorem lw_p17 : lw_okq (⟨"RecipePlansModel", "firstBroken", "()I"⟩, 24) := ⟨⟨by decide +kernel, by decide +kernel⟩, List.mem_of_getElem? (i := 497) (by decide +kernel), List.mem_of_getElem? (i := 622) (by decide +kernel), List.mem_of_getElem? (i := 623) (by decide +kernel)⟩
theorem lw_p18 : lw_okq (⟨"RecipePlansModel", "keeps", "(I)Z"⟩, 24) := ⟨⟨by decide +kernel, by decide +kernel⟩, List.mem_of_getElem? (i := 497) (by decide +kernel), List.mem_of_getElem? (i := 626) (by decide +kernel), List.mem_of_getElem? (i := 627) (by decide +kernel)⟩
theorem lw_p19 : lw_okq (⟨"RecipePlansModel", "holds", "(I)I"⟩, 24) := ⟨⟨by decide +kernel, by decide +kernel⟩, List.mem_of_getElem? (i := 497) (by decide +kernel), List.mem_of_getElem? (i := 630) (by decide +kernel), List.mem_of_getElem? (i := 631) (by decide +kernel)⟩
theorem lw_p20 : lw_okq (⟨"RecipePlansModel", "findWhole", "()Z"⟩, 24) := ⟨⟨by decide +kernel, by decide +kernel⟩, List.mem_of_getElem? (i := 497) (by decide +kernel), List.mem_of_getElem? (i := 638) (by decide +kernel), List.mem_of_getElem? (i := 639) (by decide +kernel)⟩
theorem lw_p21 : lw_okq (⟨"RecipePlansModel", "setLimits", "()V"⟩, 24) := ⟨⟨by decide +kernel, by decide +kernel⟩, List.mem_of_getElem? (i := 497) (by decide +kernel), List.mem_of_getElem? (i := 642) (by decide +kernel), List.mem_of_getElem? (i := 643) (by decide +kernel)⟩
theorem lw_p22 : lw_okq (⟨"RecipePlansModel", "setLimit", "(IIZ)V"⟩, 24) := ⟨⟨by decide +kernel, by decide +kernel⟩, List.mem_of_getElem? (i := 497) (by decide +kernel), List.mem_of_getElem? (i := 646) (by decide +kernel), List.mem_of_getElem? (i := 647) (by decide +kernel)⟩
theorem lw_p23 : lw_okq (⟨"RecipePlansModel", "lookAtCorners", "()V"⟩, 24) := ⟨⟨by decide +kernel, by decide +kernel⟩, List.mem_of_getElem? (i := 497) (by decide +kernel), List.mem_of_getElem? (i := 650) (by decide +kernel), List.mem_of_getElem? (i := 651) (by decide +kernel)⟩
theorem lw_p24 : lw_okq (⟨"RecipePlansModel", "lookAtCorner", "()V"⟩, 24) := ⟨⟨by decide +kernel, by decide +kernel⟩, List.mem_of_getElem? (i := 497) (by decide +kernel), List.mem_of_getElem? (i := 654) (by decide +kernel), List.mem_of_getElem? (i := 655) (by decide +kernel)⟩
theorem lw_p25 : lw_okq (⟨"RecipePlansModel", "meet", "()Z"⟩, 24) := ⟨⟨by decide +kernel, by decide +kernel⟩, List.mem_of_getElem? (i := 497) (by decide +kernel), List.mem_of_getElem? (i := 658) (by decide +kernel), List.mem_of_getElem? (i := 659) (by decide +kernel)⟩
theorem lw_p26 : lw_okq (⟨"RecipePlansModel", "determinant", "(I)J"⟩, 24) := ⟨⟨by decide +kernel, by decide +kernel⟩, List.mem_of_getElem? (i := 497) (by decide +kernel), List.mem_of_getElem? (i := 662) (by decide +kernel), List.mem_of_getElem? (i := 663) (by decide +kernel)⟩
theorem lw_p27 : lw_okq (⟨"RecipePlansModel", "minor", "(IIIII)J"⟩, 24) := ⟨⟨by decide +kernel, by decide +kernel⟩, List.mem_of_getElem? (i := 497) (by decide +kernel), List.mem_of_getElem? (i := 666) (by decide +kernel), List.mem_of_getElem? (i := 667) (by decide +kernel)⟩
theorem lw_p28 : lw_okq (⟨"RecipePlansModel", "at", "(III)J"⟩, 24) := ⟨⟨by decide +kernel, by decide +kernel⟩, List.mem_of_getElem? (i := 497) (by decide +kernel), List.mem_of_getElem? (i := 670) (by decide +kernel), List.mem_of_getElem? (i := 671) (by decide +kernel)⟩
theorem lw_p29 : lw_okq (⟨"RecipePlansModel", "keptRules", "()I"⟩, 24) := ⟨⟨by decide +kernel, by decide +kernel⟩, List.mem_of_getElem? (i := 497) (by decide +kernel), List.mem_of_getElem? (i := 677) (by decide +kernel), List.mem_of_getElem? (i := 678) (by decide +kernel)⟩
theorem lw_p30 : lw_okq (⟨"RecipePlansModel", "isKept", "(I)Z"⟩, 24) := ⟨⟨by decide +kernel, by decide +kernel⟩, List.mem_of_getElem? (i := 497) (by decide +kernel), List.mem_of_getElem? (i := 681) (by decide +kernel), List.mem_of_getElem? (i := 682) (by decide +kernel)⟩
theorem lw_p31 : lw_okq (⟨"RecipePlansModel", "findClash", "()V"⟩, 24) := ⟨⟨by decide +kernel, by decide +kernel⟩, List.mem_of_getElem? (i := 497) (by decide +kernel), List.mem_of_getElem? (i := 689) (by decide +kernel), List.mem_of_getElem? (i := 690) (by decide +kernel)⟩
def lw_privs_2 : List (MethodName × Nat) := [(⟨"RecipePlansModel", "tell", "(III)Z"⟩, 24), (⟨"RecipePlansModel", "firstBroken", "()I"⟩, 24), (⟨"RecipePlansModel", "keeps", "(I)Z"⟩, 24), (⟨"RecipePlansModel", "holds", "(I)I"⟩, 24), (⟨"RecipePlansModel", "findWhole", "()Z"⟩, 24), (⟨"RecipePlansModel", "setLimits", "()V"⟩, 24), (⟨"RecipePlansModel", "setLimit", "(IIZ)V"⟩, 24), (⟨"RecipePlansModel", "lookAtCorners", "()V"⟩, 24), (⟨"RecipePlansModel", "lookAtCorner", "()V"⟩, 24), (⟨"RecipePlansModel", "meet", "()Z"⟩, 24), (⟨"RecipePlansModel", "determinant", "(I)J"⟩, 24), (⟨"RecipePlansModel", "minor", "(IIIII)J"⟩, 24), (⟨"RecipePlansModel", "at", "(III)J"⟩, 24), (⟨"RecipePlansModel", "keptRules", "()I"⟩, 24), (⟨"RecipePlansModel", "isKept", "(I)Z"⟩, 24), (⟨"RecipePlansModel", "findClash", "()V"⟩, 24)]
theorem lw_r2 : ∀ q ∈ lw_privs_2, lw_okq q := List.forall_mem_cons.mpr ⟨lw_p16, List.forall_mem_cons.mpr ⟨lw_p17, List.forall_mem_cons.mpr ⟨lw_p18, List.forall_mem_cons.mpr ⟨lw_p19, List.forall_mem_cons.mpr ⟨lw_p20, List.forall_mem_cons.mpr ⟨lw_p21, List.forall_mem_cons.mpr ⟨lw_p22, List.forall_mem_cons.mpr ⟨lw_p23, List.forall_mem_cons.mpr ⟨lw_p24, List.forall_mem_cons.mpr ⟨lw_p25, List.forall_mem_cons.mpr ⟨lw_p26, List.forall_mem_cons.mpr ⟨lw_p27, List.forall_mem_cons.mpr ⟨lw_p28, List.forall_mem_cons.mpr ⟨lw_p29, List.forall_mem_cons.mpr ⟨lw_p30, List.forall_mem_cons.mpr ⟨lw_p31, fun _ h => absurd h List.not_mem_nil⟩⟩⟩⟩⟩⟩⟩⟩⟩⟩⟩⟩⟩⟩⟩⟩
theorem lw_p32 : lw_okq (⟨"RecipePlansModel", "canBeKept", "(I)Z"⟩, 24) := ⟨⟨by decide +kernel, by decide +kernel⟩, List.mem_of_getElem? (i := 497) (by decide +kernel), List.mem_of_getElem? (i := 696) (by decide +kernel), List.mem_of_getElem? (i := 697) (by decide +kernel)⟩
def lw_privs_3 : List (MethodName × Nat) := [(⟨"RecipePlansModel", "canBeKept", "(I)Z"⟩, 24)]
theorem lw_r3 : ∀ q ∈ lw_privs_3, lw_okq q := List.forall_mem_cons.mpr ⟨lw_p32, fun _ h => absurd h List.not_mem_nil⟩
def lw_privs : List (MethodName × Nat) := lw_privs_1 ++ (lw_privs_2 ++ (lw_privs_3))
def lw_tbl : List Cond := k2_sels lw_privs ++ tables_1
theorem lw_privs_ok : ∀ q ∈ lw_privs, lw_okq q := by
  show ∀ q ∈ lw_privs_1 ++ (lw_privs_2 ++ (lw_privs_3)), lw_okq q
  exact List.forall_mem_append.mpr ⟨lw_r1, List.forall_mem_append.mpr ⟨lw_r2, lw_r3⟩⟩
-- ===== end of PART A
/-- the words of the tables that stay as the machine goes on -/
def wsAll : List Cond := [.selects "RecipePlans$Sides" ⟨"RecipePlans$Sides", "fill", "([J[JLRecipePlans$Rules;I)V"⟩ ⟨"RecipePlans$Sides", "fill", "([J[JLRecipePlans$Rules;I)V"⟩,
  .selects "RecipePlans$CutSearch" ⟨"RecipePlans$CutSearch", "begin", "()V"⟩ ⟨"RecipePlans$CutSearch", "begin", "()V"⟩,
  .selects "RecipePlans$CutSearch" ⟨"RecipePlans$CutSearch", "tighten", "(II)V"⟩ ⟨"RecipePlans$CutSearch", "tighten", "(II)V"⟩,
  .selects "RecipePlans$CutSearch" ⟨"RecipePlans$CutSearch", "visitCorners", "(I)V"⟩ ⟨"RecipePlans$CutSearch", "visitCorners", "(I)V"⟩,
  .selects "RecipePlans$CutSearch" ⟨"RecipePlans$CutSearch", "meets", "([JII)Z"⟩ ⟨"RecipePlans$CutSearch", "meets", "([JII)Z"⟩,
  .selects "RecipePlans$CutSearch" ⟨"RecipePlans$CutSearch", "replaced", "([JIII)J"⟩ ⟨"RecipePlans$CutSearch", "replaced", "([JIII)J"⟩,
  .selects "RecipePlans$CutSearch" ⟨"RecipePlans$CutSearch", "weigh", "()V"⟩ ⟨"RecipePlans$CutSearch", "weigh", "()V"⟩,
  .selects "RecipePlans$CutSearch" ⟨"RecipePlans$CutSearch", "add", "(I[J)Z"⟩ ⟨"RecipePlans$CutSearch", "add", "(I[J)Z"⟩,
  .selects "RecipePlans$CutSearch" ⟨"RecipePlans$CutSearch", "addBoth", "(II)Z"⟩ ⟨"RecipePlans$CutSearch", "addBoth", "(II)Z"⟩,
  .selects "RecipePlans$WholeSearch" ⟨"RecipePlans$WholeSearch", "begin", "()V"⟩ ⟨"RecipePlans$WholeSearch", "begin", "()V"⟩,
  .selects "RecipePlans$WholeSearch" ⟨"RecipePlans$WholeSearch", "place", "(IJ)V"⟩ ⟨"RecipePlans$WholeSearch", "place", "(IJ)V"⟩,
  .selects "RecipePlans$WholeSearch" ⟨"RecipePlans$WholeSearch", "mostLoads", "(I)I"⟩ ⟨"RecipePlans$WholeSearch", "mostLoads", "(I)I"⟩,
  .selects "RecipePlans$WholeSearch" ⟨"RecipePlans$WholeSearch", "fewestLoads", "(I)I"⟩ ⟨"RecipePlans$WholeSearch", "fewestLoads", "(I)I"⟩,
  .selects "RecipePlans$WholeSearch" ⟨"RecipePlans$WholeSearch", "take", "(IIJ)V"⟩ ⟨"RecipePlans$WholeSearch", "take", "(IIJ)V"⟩,
  .selects "RecipePlans$WholeSearch" ⟨"RecipePlans$WholeSearch", "offer", "(J)V"⟩ ⟨"RecipePlans$WholeSearch", "offer", "(J)V"⟩,
  .selects "RecipePlans$CutSearch" ⟨"RecipePlans$CutSearch", "allBreak", "(I)Z"⟩ ⟨"RecipePlans$CutSearch", "allBreak", "(I)Z"⟩,
  .selects "RecipePlansModel" ⟨"RecipePlansModel", "tell", "(III)Z"⟩ ⟨"RecipePlansModel", "tell", "(III)Z"⟩,
  .selects "RecipePlansModel" ⟨"RecipePlansModel", "firstBroken", "()I"⟩ ⟨"RecipePlansModel", "firstBroken", "()I"⟩,
  .selects "RecipePlansModel" ⟨"RecipePlansModel", "keeps", "(I)Z"⟩ ⟨"RecipePlansModel", "keeps", "(I)Z"⟩,
  .selects "RecipePlansModel" ⟨"RecipePlansModel", "holds", "(I)I"⟩ ⟨"RecipePlansModel", "holds", "(I)I"⟩,
  .selects "RecipePlansModel" ⟨"RecipePlansModel", "findWhole", "()Z"⟩ ⟨"RecipePlansModel", "findWhole", "()Z"⟩,
  .selects "RecipePlansModel" ⟨"RecipePlansModel", "setLimits", "()V"⟩ ⟨"RecipePlansModel", "setLimits", "()V"⟩,
  .selects "RecipePlansModel" ⟨"RecipePlansModel", "setLimit", "(IIZ)V"⟩ ⟨"RecipePlansModel", "setLimit", "(IIZ)V"⟩,
  .selects "RecipePlansModel" ⟨"RecipePlansModel", "lookAtCorners", "()V"⟩ ⟨"RecipePlansModel", "lookAtCorners", "()V"⟩,
  .selects "RecipePlansModel" ⟨"RecipePlansModel", "lookAtCorner", "()V"⟩ ⟨"RecipePlansModel", "lookAtCorner", "()V"⟩,
  .selects "RecipePlansModel" ⟨"RecipePlansModel", "meet", "()Z"⟩ ⟨"RecipePlansModel", "meet", "()Z"⟩,
  .selects "RecipePlansModel" ⟨"RecipePlansModel", "determinant", "(I)J"⟩ ⟨"RecipePlansModel", "determinant", "(I)J"⟩,
  .selects "RecipePlansModel" ⟨"RecipePlansModel", "minor", "(IIIII)J"⟩ ⟨"RecipePlansModel", "minor", "(IIIII)J"⟩,
  .selects "RecipePlansModel" ⟨"RecipePlansModel", "at", "(III)J"⟩ ⟨"RecipePlansModel", "at", "(III)J"⟩,
  .selects "RecipePlansModel" ⟨"RecipePlansModel", "keptRules", "()I"⟩ ⟨"RecipePlansModel", "keptRules", "()I"⟩,
  .selects "RecipePlansModel" ⟨"RecipePlansModel", "isKept", "(I)Z"⟩ ⟨"RecipePlansModel", "isKept", "(I)Z"⟩,
  .selects "RecipePlansModel" ⟨"RecipePlansModel", "findClash", "()V"⟩ ⟨"RecipePlansModel", "findClash", "()V"⟩,
  .selects "RecipePlansModel" ⟨"RecipePlansModel", "canBeKept", "(I)Z"⟩ ⟨"RecipePlansModel", "canBeKept", "(I)Z"⟩,
  .initialized "RecipePlansLaw",
  .initialized "RecipePlans",
  .initialized "RecipePlans$Lots",
  .initialized "RecipePlans$Rules",
  .initialized "RecipePlans$Sides",
  .initialized "RecipePlans$CutSearch",
  .initialized "RecipePlans$WholeSearch",
  .initialized "RecipePlans$Found",
  .initialized "RecipePlansModel",
  .initialized "java/lang/Integer",
  .initialized "java/lang/Math",
  .classLink "RecipePlansLaw" 7 "RecipePlans",
  .instantiable "RecipePlans" 8,
  .methodLink "RecipePlansLaw" 9 ⟨"RecipePlans", "<init>", "()V"⟩,
  .instanceMethod ⟨"RecipePlans", "<init>", "()V"⟩,
  .code ⟨"RecipePlans", "<init>", "()V"⟩ prog_1_method_1_code 1 none,
  .methodLink "RecipePlans" 3 ⟨"java/lang/Object", "<init>", "()V"⟩,
  .instanceMethod ⟨"java/lang/Object", "<init>", "()V"⟩,
  .code ⟨"java/lang/Object", "<init>", "()V"⟩ object_method_1_code 1 none,
  .classLink "RecipePlans" 9 "RecipePlans$Lots",
  .instantiable "RecipePlans$Lots" 4,
  .methodLink "RecipePlans" 11 ⟨"RecipePlans$Lots", "<init>", "()V"⟩,
  .instanceMethod ⟨"RecipePlans$Lots", "<init>", "()V"⟩,
  .code ⟨"RecipePlans$Lots", "<init>", "()V"⟩ prog_4_method_1_code 2 none,
  .methodLink "RecipePlans$Lots" 3 ⟨"java/lang/Object", "<init>", "()V"⟩,
  .classLink "RecipePlans$Lots" 19 "[[J",
  .fieldLink "RecipePlans" 62 "RecipePlans$Lots" "count" "I",
  .fieldLink "RecipePlans$Lots" 9 "RecipePlans$Lots" "stock" "[I",
  .fieldLink "RecipePlans" 76 "RecipePlans$Lots" "stock" "[I",
  .fieldLink "RecipePlans$WholeSearch" 67 "RecipePlans$Lots" "stock" "[I",
  .fieldLink "RecipePlans$CutSearch" 136 "RecipePlans$Lots" "stock" "[I",
  .fieldLink "RecipePlans$Lots" 15 "RecipePlans$Lots" "cents" "[J",
  .fieldLink "RecipePlans" 80 "RecipePlans$Lots" "cents" "[J",
  .fieldLink "RecipePlans$WholeSearch" 62 "RecipePlans$Lots" "cents" "[J",
  .fieldLink "RecipePlans$Lots" 21 "RecipePlans$Lots" "forms" "[[J",
  .fieldLink "RecipePlans$Sides" 30 "RecipePlans$Lots" "forms" "[[J",
  .fieldLink "RecipePlans" 91 "RecipePlans$Lots" "forms" "[[J",
  .fieldLink "RecipePlans$CutSearch" 108 "RecipePlans$Lots" "forms" "[[J",
  .lays "RecipePlans$Lots" "RecipePlans$Lots" "count" "I",
  .laysFinal "RecipePlans$Lots" "RecipePlans$Lots" "stock" "[I",
  .laysFinal "RecipePlans$Lots" "RecipePlans$Lots" "cents" "[J",
  .laysFinal "RecipePlans$Lots" "RecipePlans$Lots" "forms" "[[J",
  .arrayClass .int,
  .arrayClass .long,
  .classLink "RecipePlans" 16 "RecipePlans$Rules",
  .instantiable "RecipePlans$Rules" 6,
  .methodLink "RecipePlans" 18 ⟨"RecipePlans$Rules", "<init>", "()V"⟩,
  .instanceMethod ⟨"RecipePlans$Rules", "<init>", "()V"⟩,
  .code ⟨"RecipePlans$Rules", "<init>", "()V"⟩ prog_5_method_1_code 1 none,
  .methodLink "RecipePlans$Rules" 5 ⟨"java/lang/Object", "<init>", "()V"⟩,
  .fieldLink "RecipePlans$Rules" 27 "RecipePlans$Rules" "told" "I",
  .fieldLink "RecipePlans" 110 "RecipePlans$Rules" "told" "I",
  .fieldLink "RecipePlans$CutSearch" 178 "RecipePlans$Rules" "told" "I",
  .fieldLink "RecipePlans$Rules" 11 "RecipePlans$Rules" "first" "[I",
  .fieldLink "RecipePlans$Sides" 35 "RecipePlans$Rules" "first" "[I",
  .fieldLink "RecipePlans$CutSearch" 111 "RecipePlans$Rules" "first" "[I",
  .fieldLink "RecipePlans$Rules" 15 "RecipePlans$Rules" "second" "[I",
  .fieldLink "RecipePlans$Sides" 38 "RecipePlans$Rules" "second" "[I",
  .fieldLink "RecipePlans$CutSearch" 105 "RecipePlans$Rules" "second" "[I",
  .fieldLink "RecipePlans$Rules" 18 "RecipePlans$Rules" "low" "[I",
  .fieldLink "RecipePlans$Sides" 48 "RecipePlans$Rules" "low" "[I",
  .fieldLink "RecipePlans$CutSearch" 93 "RecipePlans$Rules" "low" "[I",
  .fieldLink "RecipePlans$Rules" 21 "RecipePlans$Rules" "high" "[I",
  .fieldLink "RecipePlans$Sides" 51 "RecipePlans$Rules" "high" "[I",
  .fieldLink "RecipePlans$CutSearch" 98 "RecipePlans$Rules" "high" "[I",
  .fieldLink "RecipePlans$Rules" 24 "RecipePlans$Rules" "over" "[I",
  .fieldLink "RecipePlans$Sides" 45 "RecipePlans$Rules" "over" "[I",
  .lays "RecipePlans$Rules" "RecipePlans$Rules" "told" "I",
  .laysFinal "RecipePlans$Rules" "RecipePlans$Rules" "first" "[I",
  .laysFinal "RecipePlans$Rules" "RecipePlans$Rules" "second" "[I",
  .laysFinal "RecipePlans$Rules" "RecipePlans$Rules" "low" "[I",
  .laysFinal "RecipePlans$Rules" "RecipePlans$Rules" "high" "[I",
  .laysFinal "RecipePlans$Rules" "RecipePlans$Rules" "over" "[I",
  .classLink "RecipePlans" 23 "RecipePlans$Sides",
  .instantiable "RecipePlans$Sides" 3,
  .methodLink "RecipePlans" 25 ⟨"RecipePlans$Sides", "<init>", "()V"⟩,
  .instanceMethod ⟨"RecipePlans$Sides", "<init>", "()V"⟩,
  .code ⟨"RecipePlans$Sides", "<init>", "()V"⟩ prog_6_method_1_code 1 none,
  .methodLink "RecipePlans$Sides" 3 ⟨"java/lang/Object", "<init>", "()V"⟩,
  .classLink "RecipePlans$Sides" 15 "[[J",
  .fieldLink "RecipePlans$Sides" 20 "RecipePlans$Sides" "count" "I",
  .fieldLink "RecipePlans$WholeSearch" 53 "RecipePlans$Sides" "count" "I",
  .fieldLink "RecipePlans$CutSearch" 78 "RecipePlans$Sides" "count" "I",
  .fieldLink "RecipePlans$Sides" 9 "RecipePlans$Sides" "rule" "[I",
  .fieldLink "RecipePlans$CutSearch" 83 "RecipePlans$Sides" "rule" "[I",
  .fieldLink "RecipePlans$Sides" 17 "RecipePlans$Sides" "row" "[[J",
  .fieldLink "RecipePlans$WholeSearch" 59 "RecipePlans$Sides" "row" "[[J",
  .fieldLink "RecipePlans$CutSearch" 86 "RecipePlans$Sides" "row" "[[J",
  .lays "RecipePlans$Sides" "RecipePlans$Sides" "count" "I",
  .laysFinal "RecipePlans$Sides" "RecipePlans$Sides" "rule" "[I",
  .laysFinal "RecipePlans$Sides" "RecipePlans$Sides" "row" "[[J",
  .classLink "RecipePlans" 30 "RecipePlans$CutSearch",
  .instantiable "RecipePlans$CutSearch" 13,
  .methodLink "RecipePlans" 32 ⟨"RecipePlans$CutSearch", "<init>", "(LRecipePlans$Lots;LRecipePlans$Rules;LRecipePlans$Sides;)V"⟩,
  .instanceMethod ⟨"RecipePlans$CutSearch", "<init>", "(LRecipePlans$Lots;LRecipePlans$Rules;LRecipePlans$Sides;)V"⟩,
  .code ⟨"RecipePlans$CutSearch", "<init>", "(LRecipePlans$Lots;LRecipePlans$Rules;LRecipePlans$Sides;)V"⟩ prog_2_method_1_code 4 none,
  .methodLink "RecipePlans$CutSearch" 3 ⟨"java/lang/Object", "<init>", "()V"⟩,
  .classLink "RecipePlans$CutSearch" 23 "[[J",
  .fieldLink "RecipePlans$CutSearch" 9 "RecipePlans$CutSearch" "lots" "LRecipePlans$Lots;",
  .fieldLink "RecipePlans$CutSearch" 15 "RecipePlans$CutSearch" "rules" "LRecipePlans$Rules;",
  .fieldLink "RecipePlans$CutSearch" 19 "RecipePlans$CutSearch" "sides" "LRecipePlans$Sides;",
  .fieldLink "RecipePlans$CutSearch" 25 "RecipePlans$CutSearch" "minors" "[[J",
  .fieldLink "RecipePlans$CutSearch" 28 "RecipePlans$CutSearch" "point" "[J",
  .fieldLink "RecipePlans$CutSearch" 32 "RecipePlans$CutSearch" "held" "[J",
  .fieldLink "RecipePlans$CutSearch" 35 "RecipePlans$CutSearch" "seen" "[Z",
  .fieldLink "RecipePlans$CutSearch" 39 "RecipePlans$CutSearch" "breaks" "[I",
  .fieldLink "RecipePlans$CutSearch" 50 "RecipePlans$CutSearch" "breakCount" "I",
  .fieldLink "RecipePlans$CutSearch" 71 "RecipePlans$CutSearch" "open" "I",
  .fieldLink "RecipePlans$Found" 21 "RecipePlans$CutSearch" "suits" "Z",
  .fieldLink "RecipePlans$CutSearch" 54 "RecipePlans$CutSearch" "suits" "Z",
  .fieldLink "RecipePlans" 120 "RecipePlans$CutSearch" "suits" "Z",
  .fieldLink "RecipePlans$Found" 28 "RecipePlans$CutSearch" "above" "J",
  .fieldLink "RecipePlans$CutSearch" 58 "RecipePlans$CutSearch" "above" "J",
  .fieldLink "RecipePlans$Found" 33 "RecipePlans$CutSearch" "below" "J",
  .fieldLink "RecipePlans$CutSearch" 62 "RecipePlans$CutSearch" "below" "J",
  .laysFinal "RecipePlans$CutSearch" "RecipePlans$CutSearch" "lots" "LRecipePlans$Lots;",
  .laysFinal "RecipePlans$CutSearch" "RecipePlans$CutSearch" "rules" "LRecipePlans$Rules;",
  .laysFinal "RecipePlans$CutSearch" "RecipePlans$CutSearch" "sides" "LRecipePlans$Sides;",
  .laysFinal "RecipePlans$CutSearch" "RecipePlans$CutSearch" "minors" "[[J",
  .laysFinal "RecipePlans$CutSearch" "RecipePlans$CutSearch" "point" "[J",
  .laysFinal "RecipePlans$CutSearch" "RecipePlans$CutSearch" "held" "[J",
  .laysFinal "RecipePlans$CutSearch" "RecipePlans$CutSearch" "seen" "[Z",
  .laysFinal "RecipePlans$CutSearch" "RecipePlans$CutSearch" "breaks" "[I",
  .lays "RecipePlans$CutSearch" "RecipePlans$CutSearch" "breakCount" "I",
  .lays "RecipePlans$CutSearch" "RecipePlans$CutSearch" "open" "I",
  .lays "RecipePlans$CutSearch" "RecipePlans$CutSearch" "suits" "Z",
  .lays "RecipePlans$CutSearch" "RecipePlans$CutSearch" "above" "J",
  .lays "RecipePlans$CutSearch" "RecipePlans$CutSearch" "below" "J",
  .arrayClass .boolean,
  .classLink "RecipePlans" 39 "RecipePlans$WholeSearch",
  .instantiable "RecipePlans$WholeSearch" 9,
  .methodLink "RecipePlans" 41 ⟨"RecipePlans$WholeSearch", "<init>", "(LRecipePlans$Lots;LRecipePlans$Sides;)V"⟩,
  .instanceMethod ⟨"RecipePlans$WholeSearch", "<init>", "(LRecipePlans$Lots;LRecipePlans$Sides;)V"⟩,
  .code ⟨"RecipePlans$WholeSearch", "<init>", "(LRecipePlans$Lots;LRecipePlans$Sides;)V"⟩ prog_7_method_1_code 3 none,
  .methodLink "RecipePlans$WholeSearch" 3 ⟨"java/lang/Object", "<init>", "()V"⟩,
  .classLink "RecipePlans$WholeSearch" 19 "[[J",
  .fieldLink "RecipePlans$WholeSearch" 9 "RecipePlans$WholeSearch" "lots" "LRecipePlans$Lots;",
  .fieldLink "RecipePlans$WholeSearch" 15 "RecipePlans$WholeSearch" "sides" "LRecipePlans$Sides;",
  .fieldLink "RecipePlans$WholeSearch" 21 "RecipePlans$WholeSearch" "value" "[[J",
  .fieldLink "RecipePlans$WholeSearch" 24 "RecipePlans$WholeSearch" "reach" "[[J",
  .fieldLink "RecipePlans$WholeSearch" 27 "RecipePlans$WholeSearch" "least" "[J",
  .fieldLink "RecipePlans$WholeSearch" 31 "RecipePlans$WholeSearch" "taken" "[I",
  .fieldLink "RecipePlans$WholeSearch" 38 "RecipePlans$WholeSearch" "suits" "Z",
  .fieldLink "RecipePlans$Found" 45 "RecipePlans$WholeSearch" "suits" "Z",
  .fieldLink "RecipePlans" 135 "RecipePlans$WholeSearch" "suits" "Z",
  .fieldLink "RecipePlans$WholeSearch" 42 "RecipePlans$WholeSearch" "total" "J",
  .fieldLink "RecipePlans$Found" 54 "RecipePlans$WholeSearch" "total" "J",
  .fieldLink "RecipePlans$WholeSearch" 35 "RecipePlans$WholeSearch" "mix" "[I",
  .fieldLink "RecipePlans$Found" 58 "RecipePlans$WholeSearch" "mix" "[I",
  .laysFinal "RecipePlans$WholeSearch" "RecipePlans$WholeSearch" "lots" "LRecipePlans$Lots;",
  .laysFinal "RecipePlans$WholeSearch" "RecipePlans$WholeSearch" "sides" "LRecipePlans$Sides;",
  .laysFinal "RecipePlans$WholeSearch" "RecipePlans$WholeSearch" "value" "[[J",
  .laysFinal "RecipePlans$WholeSearch" "RecipePlans$WholeSearch" "reach" "[[J",
  .laysFinal "RecipePlans$WholeSearch" "RecipePlans$WholeSearch" "least" "[J",
  .laysFinal "RecipePlans$WholeSearch" "RecipePlans$WholeSearch" "taken" "[I",
  .lays "RecipePlans$WholeSearch" "RecipePlans$WholeSearch" "suits" "Z",
  .lays "RecipePlans$WholeSearch" "RecipePlans$WholeSearch" "total" "J",
  .laysFinal "RecipePlans$WholeSearch" "RecipePlans$WholeSearch" "mix" "[I",
  .classLink "RecipePlans" 48 "RecipePlans$Found",
  .instantiable "RecipePlans$Found" 8,
  .methodLink "RecipePlans" 50 ⟨"RecipePlans$Found", "<init>", "()V"⟩,
  .instanceMethod ⟨"RecipePlans$Found", "<init>", "()V"⟩,
  .code ⟨"RecipePlans$Found", "<init>", "()V"⟩ prog_3_method_1_code 1 none,
  .methodLink "RecipePlans$Found" 3 ⟨"java/lang/Object", "<init>", "()V"⟩,
  .fieldLink "RecipePlans$Found" 48 "RecipePlans$Found" "whole" "Z",
  .fieldLink "RecipePlans" 136 "RecipePlans$Found" "whole" "Z",
  .fieldLink "RecipePlans$Found" 51 "RecipePlans$Found" "lots" "I",
  .fieldLink "RecipePlans" 139 "RecipePlans$Found" "lots" "I",
  .fieldLink "RecipePlans$Found" 9 "RecipePlans$Found" "mix" "[I",
  .fieldLink "RecipePlans" 141 "RecipePlans$Found" "mix" "[I",
  .fieldLink "RecipePlans$Found" 57 "RecipePlans$Found" "total" "J",
  .fieldLink "RecipePlans" 144 "RecipePlans$Found" "total" "J",
  .fieldLink "RecipePlans$Found" 25 "RecipePlans$Found" "cuttable" "Z",
  .fieldLink "RecipePlans" 152 "RecipePlans$Found" "cuttable" "Z",
  .fieldLink "RecipePlans$Found" 32 "RecipePlans$Found" "above" "J",
  .fieldLink "RecipePlans" 155 "RecipePlans$Found" "above" "J",
  .fieldLink "RecipePlans$Found" 36 "RecipePlans$Found" "below" "J",
  .fieldLink "RecipePlans" 158 "RecipePlans$Found" "below" "J",
  .fieldLink "RecipePlans$Found" 41 "RecipePlans$Found" "clashing" "I",
  .fieldLink "RecipePlans" 161 "RecipePlans$Found" "clashing" "I",
  .lays "RecipePlans$Found" "RecipePlans$Found" "whole" "Z",
  .lays "RecipePlans$Found" "RecipePlans$Found" "lots" "I",
  .laysFinal "RecipePlans$Found" "RecipePlans$Found" "mix" "[I",
  .lays "RecipePlans$Found" "RecipePlans$Found" "total" "J",
  .lays "RecipePlans$Found" "RecipePlans$Found" "cuttable" "Z",
  .lays "RecipePlans$Found" "RecipePlans$Found" "above" "J",
  .lays "RecipePlans$Found" "RecipePlans$Found" "below" "J",
  .lays "RecipePlans$Found" "RecipePlans$Found" "clashing" "I",
  .fieldLink "RecipePlans" 12 "RecipePlans" "lots" "LRecipePlans$Lots;",
  .fieldLink "RecipePlans" 19 "RecipePlans" "rules" "LRecipePlans$Rules;",
  .fieldLink "RecipePlans" 26 "RecipePlans" "sides" "LRecipePlans$Sides;",
  .fieldLink "RecipePlans" 35 "RecipePlans" "cuts" "LRecipePlans$CutSearch;",
  .fieldLink "RecipePlans" 44 "RecipePlans" "wholes" "LRecipePlans$WholeSearch;",
  .fieldLink "RecipePlans" 51 "RecipePlans" "found" "LRecipePlans$Found;",
  .fieldLink "RecipePlans" 55 "RecipePlans" "point" "[J",
  .fieldLink "RecipePlans" 59 "RecipePlans" "held" "[J",
  .laysFinal "RecipePlans" "RecipePlans" "lots" "LRecipePlans$Lots;",
  .laysFinal "RecipePlans" "RecipePlans" "rules" "LRecipePlans$Rules;",
  .laysFinal "RecipePlans" "RecipePlans" "sides" "LRecipePlans$Sides;",
  .laysFinal "RecipePlans" "RecipePlans" "cuts" "LRecipePlans$CutSearch;",
  .laysFinal "RecipePlans" "RecipePlans" "wholes" "LRecipePlans$WholeSearch;",
  .laysFinal "RecipePlans" "RecipePlans" "found" "LRecipePlans$Found;",
  .laysFinal "RecipePlans" "RecipePlans" "point" "[J",
  .laysFinal "RecipePlans" "RecipePlans" "held" "[J",
  .methodLink "RecipePlansLaw" 15 ⟨"RecipePlans", "lot", "(IJ)I"⟩,
  .instanceMethod ⟨"RecipePlans", "lot", "(IJ)I"⟩,
  .selects "RecipePlans" ⟨"RecipePlans", "lot", "(IJ)I"⟩ ⟨"RecipePlans", "lot", "(IJ)I"⟩,
  .code ⟨"RecipePlans", "lot", "(IJ)I"⟩ prog_1_method_2_code 5 (some .int),
  .constantLong "RecipePlans" 66 9,
  .methodLink "RecipePlans" 68 ⟨"RecipePlans", "within", "(JJJ)Z"⟩,
  .static ⟨"RecipePlans", "within", "(JJJ)Z"⟩,
  .code ⟨"RecipePlans", "within", "(JJJ)Z"⟩ prog_1_method_15_code 6 (some .boolean),
  .constantLong "RecipePlans" 72 (-1000),
  .constantLong "RecipePlans" 74 1000,
  .methodLink "RecipePlansLaw" 20 ⟨"RecipePlans", "amount", "(III)Z"⟩,
  .instanceMethod ⟨"RecipePlans", "amount", "(III)Z"⟩,
  .selects "RecipePlans" ⟨"RecipePlans", "amount", "(III)Z"⟩ ⟨"RecipePlans", "amount", "(III)Z"⟩,
  .code ⟨"RecipePlans", "amount", "(III)Z"⟩ prog_1_method_3_code 4 (some .boolean),
  .methodLink "RecipePlans" 83 ⟨"RecipePlans", "isWhat", "(I)Z"⟩,
  .static ⟨"RecipePlans", "isWhat", "(I)Z"⟩,
  .code ⟨"RecipePlans", "isWhat", "(I)Z"⟩ prog_1_method_17_code 1 (some .boolean),
  .constantLong "RecipePlans" 182 4,
  .constantLong "RecipePlans" 87 (-100),
  .constantLong "RecipePlans" 89 100,
  .methodLink "RecipePlansLaw" 25 ⟨"RecipePlans", "span", "(III)Z"⟩,
  .instanceMethod ⟨"RecipePlans", "span", "(III)Z"⟩,
  .selects "RecipePlans" ⟨"RecipePlans", "span", "(III)Z"⟩ ⟨"RecipePlans", "span", "(III)Z"⟩,
  .code ⟨"RecipePlans", "span", "(III)Z"⟩ prog_1_method_4_code 4 (some .boolean),
  .constant "RecipePlans" 95 (-100000),
  .constant "RecipePlans" 96 100000,
  .methodLink "RecipePlans" 97 ⟨"RecipePlans", "isRange", "(IIII)Z"⟩,
  .static ⟨"RecipePlans", "isRange", "(IIII)Z"⟩,
  .code ⟨"RecipePlans", "isRange", "(IIII)Z"⟩ prog_1_method_16_code 4 (some .boolean),
  .methodLink "RecipePlans" 101 ⟨"RecipePlans$Rules", "tell", "(IIIIII)V"⟩,
  .instanceMethod ⟨"RecipePlans$Rules", "tell", "(IIIIII)V"⟩,
  .selects "RecipePlans$Rules" ⟨"RecipePlans$Rules", "tell", "(IIIIII)V"⟩ ⟨"RecipePlans$Rules", "tell", "(IIIIII)V"⟩,
  .code ⟨"RecipePlans$Rules", "tell", "(IIIIII)V"⟩ prog_5_method_2_code 7 none,
  .methodLink "RecipePlansLaw" 29 ⟨"RecipePlans", "ratio", "(IIIIII)Z"⟩,
  .instanceMethod ⟨"RecipePlans", "ratio", "(IIIIII)Z"⟩,
  .selects "RecipePlans" ⟨"RecipePlans", "ratio", "(IIIIII)Z"⟩ ⟨"RecipePlans", "ratio", "(IIIIII)Z"⟩,
  .code ⟨"RecipePlans", "ratio", "(IIIIII)Z"⟩ prog_1_method_5_code 7 (some .boolean),
  .methodLink "RecipePlansLaw" 34 ⟨"RecipePlans", "loads", "(II)Z"⟩,
  .instanceMethod ⟨"RecipePlans", "loads", "(II)Z"⟩,
  .selects "RecipePlans" ⟨"RecipePlans", "loads", "(II)Z"⟩ ⟨"RecipePlans", "loads", "(II)Z"⟩,
  .code ⟨"RecipePlans", "loads", "(II)Z"⟩ prog_1_method_6_code 3 (some .boolean),
  .methodLink "RecipePlansLaw" 39 ⟨"RecipePlans", "untell", "(I)Z"⟩,
  .instanceMethod ⟨"RecipePlans", "untell", "(I)Z"⟩,
  .selects "RecipePlans" ⟨"RecipePlans", "untell", "(I)Z"⟩ ⟨"RecipePlans", "untell", "(I)Z"⟩,
  .code ⟨"RecipePlans", "untell", "(I)Z"⟩ prog_1_method_7_code 2 (some .boolean),
  .constantLong "RecipePlans" 105 7,
  .methodLink "RecipePlans" 107 ⟨"RecipePlans$Rules", "isTold", "(I)Z"⟩,
  .instanceMethod ⟨"RecipePlans$Rules", "isTold", "(I)Z"⟩,
  .selects "RecipePlans$Rules" ⟨"RecipePlans$Rules", "isTold", "(I)Z"⟩ ⟨"RecipePlans$Rules", "isTold", "(I)Z"⟩,
  .code ⟨"RecipePlans$Rules", "isTold", "(I)Z"⟩ prog_5_method_3_code 2 (some .boolean),
  .static ⟨"RecipePlans", "hasBit", "(II)Z"⟩,
  .code ⟨"RecipePlans", "hasBit", "(II)Z"⟩ prog_1_method_18_code 2 (some .boolean),
  .methodLink "RecipePlansLaw" 44 ⟨"RecipePlans", "run", "()I"⟩,
  .instanceMethod ⟨"RecipePlans", "run", "()I"⟩,
  .selects "RecipePlans" ⟨"RecipePlans", "run", "()I"⟩ ⟨"RecipePlans", "run", "()I"⟩,
  .code ⟨"RecipePlans", "run", "()I"⟩ prog_1_method_8_code 1 (some .int),
  .methodLink "RecipePlans" 113 ⟨"RecipePlans$Sides", "build", "(LRecipePlans$Lots;LRecipePlans$Rules;)V"⟩,
  .instanceMethod ⟨"RecipePlans$Sides", "build", "(LRecipePlans$Lots;LRecipePlans$Rules;)V"⟩,
  .selects "RecipePlans$Sides" ⟨"RecipePlans$Sides", "build", "(LRecipePlans$Lots;LRecipePlans$Rules;)V"⟩ ⟨"RecipePlans$Sides", "build", "(LRecipePlans$Lots;LRecipePlans$Rules;)V"⟩,
  .code ⟨"RecipePlans$Sides", "build", "(LRecipePlans$Lots;LRecipePlans$Rules;)V"⟩ prog_6_method_2_code 4 none,
  .methodLink "RecipePlans$Sides" 24 ⟨"RecipePlans$Rules", "isTold", "(I)Z"⟩,
  .methodLink "RecipePlans$Sides" 41 ⟨"RecipePlans$Sides", "fill", "([J[JLRecipePlans$Rules;I)V"⟩,
  .instanceMethod ⟨"RecipePlans$Sides", "fill", "([J[JLRecipePlans$Rules;I)V"⟩,
  .code ⟨"RecipePlans$Sides", "fill", "([J[JLRecipePlans$Rules;I)V"⟩ prog_6_method_3_code 10 none,
  .methodLink "RecipePlans" 117 ⟨"RecipePlans$CutSearch", "search", "()V"⟩,
  .instanceMethod ⟨"RecipePlans$CutSearch", "search", "()V"⟩,
  .selects "RecipePlans$CutSearch" ⟨"RecipePlans$CutSearch", "search", "()V"⟩ ⟨"RecipePlans$CutSearch", "search", "()V"⟩,
  .code ⟨"RecipePlans$CutSearch", "search", "()V"⟩ prog_2_method_2_code 1 none,
  .methodLink "RecipePlans$CutSearch" 43 ⟨"RecipePlans$CutSearch", "begin", "()V"⟩,
  .instanceMethod ⟨"RecipePlans$CutSearch", "begin", "()V"⟩,
  .code ⟨"RecipePlans$CutSearch", "begin", "()V"⟩ prog_2_method_3_code 2 none,
  .methodLink "RecipePlans$CutSearch" 65 ⟨"RecipePlans$Lots", "inStock", "()I"⟩,
  .instanceMethod ⟨"RecipePlans$Lots", "inStock", "()I"⟩,
  .selects "RecipePlans$Lots" ⟨"RecipePlans$Lots", "inStock", "()I"⟩ ⟨"RecipePlans$Lots", "inStock", "()I"⟩,
  .code ⟨"RecipePlans$Lots", "inStock", "()I"⟩ prog_4_method_4_code 3 (some .int),
  .methodLink "RecipePlans$CutSearch" 46 ⟨"RecipePlans$CutSearch", "tighten", "(II)V"⟩,
  .instanceMethod ⟨"RecipePlans$CutSearch", "tighten", "(II)V"⟩,
  .code ⟨"RecipePlans$CutSearch", "tighten", "(II)V"⟩ prog_2_method_4_code 5 none,
  .methodLink "RecipePlans$CutSearch" 74 ⟨"RecipePlans$CutSearch", "visitCorners", "(I)V"⟩,
  .instanceMethod ⟨"RecipePlans$CutSearch", "visitCorners", "(I)V"⟩,
  .code ⟨"RecipePlans$CutSearch", "visitCorners", "(I)V"⟩ prog_2_method_8_code 7 none,
  .methodLink "RecipePlans$CutSearch" 127 ⟨"RecipePlans$CutSearch", "meets", "([JII)Z"⟩,
  .instanceMethod ⟨"RecipePlans$CutSearch", "meets", "([JII)Z"⟩,
  .code ⟨"RecipePlans$CutSearch", "meets", "([JII)Z"⟩ prog_2_method_9_code 13 (some .boolean),
  .constantLong "RecipePlans$CutSearch" 134 (-1),
  .methodLink "RecipePlans$CutSearch" 139 ⟨"RecipePlans$CutSearch", "replaced", "([JIII)J"⟩,
  .instanceMethod ⟨"RecipePlans$CutSearch", "replaced", "([JIII)J"⟩,
  .code ⟨"RecipePlans$CutSearch", "replaced", "([JIII)J"⟩ prog_2_method_10_code 14 (some .long),
  .methodLink "RecipePlans$CutSearch" 147 ⟨"java/lang/Integer", "bitCount", "(I)I"⟩,
  .static ⟨"java/lang/Integer", "bitCount", "(I)I"⟩,
  .code ⟨"java/lang/Integer", "bitCount", "(I)I"⟩ prog_10_method_49_code 1 (some .int),
  .constant "java/lang/Integer" 265 1431655765,
  .constant "java/lang/Integer" 266 858993459,
  .constant "java/lang/Integer" 267 252645135,
  .methodLink "RecipePlans$CutSearch" 131 ⟨"RecipePlans$CutSearch", "weigh", "()V"⟩,
  .instanceMethod ⟨"RecipePlans$CutSearch", "weigh", "()V"⟩,
  .code ⟨"RecipePlans$CutSearch", "weigh", "()V"⟩ prog_2_method_11_code 5 none,
  .methodLink "RecipePlans$CutSearch" 153 ⟨"RecipePlans$Lots", "price", "([J)J"⟩,
  .instanceMethod ⟨"RecipePlans$Lots", "price", "([J)J"⟩,
  .selects "RecipePlans$Lots" ⟨"RecipePlans$Lots", "price", "([J)J"⟩ ⟨"RecipePlans$Lots", "price", "([J)J"⟩,
  .code ⟨"RecipePlans$Lots", "price", "([J)J"⟩ prog_4_method_3_code 5 (some .long),
  .methodLink "RecipePlans$CutSearch" 157 ⟨"RecipePlans$CutSearch", "isLess", "(JJJJ)Z"⟩,
  .static ⟨"RecipePlans$CutSearch", "isLess", "(JJJJ)Z"⟩,
  .code ⟨"RecipePlans$CutSearch", "isLess", "(JJJJ)Z"⟩ prog_2_method_12_code 17 (some .boolean),
  .methodLink "RecipePlans$CutSearch" 168 ⟨"java/lang/Math", "floorDiv", "(JJ)J"⟩,
  .static ⟨"java/lang/Math", "floorDiv", "(JJ)J"⟩,
  .code ⟨"java/lang/Math", "floorDiv", "(JJ)J"⟩ prog_11_method_49_code 6 (some .long),
  .methodLink "RecipePlans$CutSearch" 161 ⟨"RecipePlans$Lots", "hold", "([J[J)V"⟩,
  .instanceMethod ⟨"RecipePlans$Lots", "hold", "([J[J)V"⟩,
  .selects "RecipePlans$Lots" ⟨"RecipePlans$Lots", "hold", "([J[J)V"⟩ ⟨"RecipePlans$Lots", "hold", "([J[J)V"⟩,
  .code ⟨"RecipePlans$Lots", "hold", "([J[J)V"⟩ prog_4_method_2_code 8 none,
  .methodLink "RecipePlans$CutSearch" 165 ⟨"RecipePlans$Rules", "keeps", "(I[J)Z"⟩,
  .instanceMethod ⟨"RecipePlans$Rules", "keeps", "(I[J)Z"⟩,
  .selects "RecipePlans$Rules" ⟨"RecipePlans$Rules", "keeps", "(I[J)Z"⟩ ⟨"RecipePlans$Rules", "keeps", "(I[J)Z"⟩,
  .code ⟨"RecipePlans$Rules", "keeps", "(I[J)Z"⟩ prog_5_method_4_code 7 (some .boolean),
  .methodLink "RecipePlans$Rules" 35 ⟨"RecipePlans$Rules", "atLeast", "(JJJJ)Z"⟩,
  .static ⟨"RecipePlans$Rules", "atLeast", "(JJJJ)Z"⟩,
  .code ⟨"RecipePlans$Rules", "atLeast", "(JJJJ)Z"⟩ prog_5_method_5_code 12 (some .boolean),
  .constantLong "RecipePlans$Rules" 39 1048575,
  .methodLink "RecipePlans$CutSearch" 89 ⟨"RecipePlans$CutSearch", "add", "(I[J)Z"⟩,
  .instanceMethod ⟨"RecipePlans$CutSearch", "add", "(I[J)Z"⟩,
  .code ⟨"RecipePlans$CutSearch", "add", "(I[J)Z"⟩ prog_2_method_6_code 8 (some .boolean),
  .methodLink "RecipePlans$CutSearch" 120 ⟨"RecipePlans$CutSearch", "expand", "([J[JI)J"⟩,
  .static ⟨"RecipePlans$CutSearch", "expand", "([J[JI)J"⟩,
  .code ⟨"RecipePlans$CutSearch", "expand", "([J[JI)J"⟩ prog_2_method_7_code 8 (some .long),
  .methodLink "RecipePlans$CutSearch" 101 ⟨"RecipePlans$CutSearch", "addBoth", "(II)Z"⟩,
  .instanceMethod ⟨"RecipePlans$CutSearch", "addBoth", "(II)Z"⟩,
  .code ⟨"RecipePlans$CutSearch", "addBoth", "(II)Z"⟩ prog_2_method_5_code 3 (some .boolean),
  .methodLink "RecipePlans" 124 ⟨"RecipePlans$WholeSearch", "search", "(Z)V"⟩,
  .instanceMethod ⟨"RecipePlans$WholeSearch", "search", "(Z)V"⟩,
  .selects "RecipePlans$WholeSearch" ⟨"RecipePlans$WholeSearch", "search", "(Z)V"⟩ ⟨"RecipePlans$WholeSearch", "search", "(Z)V"⟩,
  .code ⟨"RecipePlans$WholeSearch", "search", "(Z)V"⟩ prog_7_method_2_code 2 none,
  .methodLink "RecipePlans$WholeSearch" 46 ⟨"RecipePlans$WholeSearch", "begin", "()V"⟩,
  .instanceMethod ⟨"RecipePlans$WholeSearch", "begin", "()V"⟩,
  .code ⟨"RecipePlans$WholeSearch", "begin", "()V"⟩ prog_7_method_3_code 3 none,
  .methodLink "RecipePlans$WholeSearch" 70 ⟨"java/lang/Math", "min", "(JJ)J"⟩,
  .static ⟨"java/lang/Math", "min", "(JJ)J"⟩,
  .code ⟨"java/lang/Math", "min", "(JJ)J"⟩ prog_11_method_70_code 4 (some .long),
  .methodLink "RecipePlans$WholeSearch" 76 ⟨"java/lang/Math", "max", "(JJ)J"⟩,
  .static ⟨"java/lang/Math", "max", "(JJ)J"⟩,
  .code ⟨"java/lang/Math", "max", "(JJ)J"⟩ prog_11_method_66_code 4 (some .long),
  .methodLink "RecipePlans$WholeSearch" 49 ⟨"RecipePlans$WholeSearch", "place", "(IJ)V"⟩,
  .instanceMethod ⟨"RecipePlans$WholeSearch", "place", "(IJ)V"⟩,
  .code ⟨"RecipePlans$WholeSearch", "place", "(IJ)V"⟩ prog_7_method_4_code 7 none,
  .methodLink "RecipePlans$WholeSearch" 79 ⟨"RecipePlans$WholeSearch", "mostLoads", "(I)I"⟩,
  .instanceMethod ⟨"RecipePlans$WholeSearch", "mostLoads", "(I)I"⟩,
  .code ⟨"RecipePlans$WholeSearch", "mostLoads", "(I)I"⟩ prog_7_method_7_code 9 (some .int),
  .methodLink "RecipePlans$WholeSearch" 94 ⟨"java/lang/Math", "floorDiv", "(JJ)J"⟩,
  .constantLong "RecipePlans$WholeSearch" 97 (-1),
  .methodLink "RecipePlans$WholeSearch" 83 ⟨"RecipePlans$WholeSearch", "fewestLoads", "(I)I"⟩,
  .instanceMethod ⟨"RecipePlans$WholeSearch", "fewestLoads", "(I)I"⟩,
  .code ⟨"RecipePlans$WholeSearch", "fewestLoads", "(I)I"⟩ prog_7_method_8_code 9 (some .int),
  .constantLong "RecipePlans$WholeSearch" 99 10,
  .methodLink "RecipePlans$WholeSearch" 86 ⟨"RecipePlans$WholeSearch", "take", "(IIJ)V"⟩,
  .instanceMethod ⟨"RecipePlans$WholeSearch", "take", "(IIJ)V"⟩,
  .code ⟨"RecipePlans$WholeSearch", "take", "(IIJ)V"⟩ prog_7_method_5_code 6 none,
  .methodLink "RecipePlans$WholeSearch" 90 ⟨"RecipePlans$WholeSearch", "offer", "(J)V"⟩,
  .instanceMethod ⟨"RecipePlans$WholeSearch", "offer", "(J)V"⟩,
  .code ⟨"RecipePlans$WholeSearch", "offer", "(J)V"⟩ prog_7_method_6_code 4 none,
  .methodLink "RecipePlans" 127 ⟨"RecipePlans$Found", "takeCut", "(LRecipePlans$CutSearch;)V"⟩,
  .instanceMethod ⟨"RecipePlans$Found", "takeCut", "(LRecipePlans$CutSearch;)V"⟩,
  .selects "RecipePlans$Found" ⟨"RecipePlans$Found", "takeCut", "(LRecipePlans$CutSearch;)V"⟩ ⟨"RecipePlans$Found", "takeCut", "(LRecipePlans$CutSearch;)V"⟩,
  .code ⟨"RecipePlans$Found", "takeCut", "(LRecipePlans$CutSearch;)V"⟩ prog_3_method_2_code 4 none,
  .methodLink "RecipePlans$Found" 15 ⟨"RecipePlans$CutSearch", "commonDivisor", "()J"⟩,
  .instanceMethod ⟨"RecipePlans$CutSearch", "commonDivisor", "()J"⟩,
  .selects "RecipePlans$CutSearch" ⟨"RecipePlans$CutSearch", "commonDivisor", "()J"⟩ ⟨"RecipePlans$CutSearch", "commonDivisor", "()J"⟩,
  .code ⟨"RecipePlans$CutSearch", "commonDivisor", "()J"⟩ prog_2_method_13_code 8 (some .long),
  .methodLink "RecipePlans$CutSearch" 174 ⟨"java/lang/Math", "abs", "(J)J"⟩,
  .static ⟨"java/lang/Math", "abs", "(J)J"⟩,
  .code ⟨"java/lang/Math", "abs", "(J)J"⟩ prog_11_method_61_code 2 (some .long),
  .methodLink "RecipePlans$Found" 37 ⟨"RecipePlans$CutSearch", "fewestClashing", "()I"⟩,
  .instanceMethod ⟨"RecipePlans$CutSearch", "fewestClashing", "()I"⟩,
  .selects "RecipePlans$CutSearch" ⟨"RecipePlans$CutSearch", "fewestClashing", "()I"⟩ ⟨"RecipePlans$CutSearch", "fewestClashing", "()I"⟩,
  .code ⟨"RecipePlans$CutSearch", "fewestClashing", "()I"⟩ prog_2_method_14_code 4 (some .int),
  .methodLink "RecipePlans$CutSearch" 181 ⟨"RecipePlans$CutSearch", "allBreak", "(I)Z"⟩,
  .instanceMethod ⟨"RecipePlans$CutSearch", "allBreak", "(I)Z"⟩,
  .code ⟨"RecipePlans$CutSearch", "allBreak", "(I)Z"⟩ prog_2_method_15_code 3 (some .boolean),
  .methodLink "RecipePlans" 131 ⟨"RecipePlans$Found", "takeWhole", "(LRecipePlans$WholeSearch;I)V"⟩,
  .instanceMethod ⟨"RecipePlans$Found", "takeWhole", "(LRecipePlans$WholeSearch;I)V"⟩,
  .selects "RecipePlans$Found" ⟨"RecipePlans$Found", "takeWhole", "(LRecipePlans$WholeSearch;I)V"⟩ ⟨"RecipePlans$Found", "takeWhole", "(LRecipePlans$WholeSearch;I)V"⟩,
  .code ⟨"RecipePlans$Found", "takeWhole", "(LRecipePlans$WholeSearch;I)V"⟩ prog_3_method_3_code 4 none,
  .methodLink "RecipePlansLaw" 49 ⟨"RecipePlans", "best", "(I)I"⟩,
  .instanceMethod ⟨"RecipePlans", "best", "(I)I"⟩,
  .selects "RecipePlans" ⟨"RecipePlans", "best", "(I)I"⟩ ⟨"RecipePlans", "best", "(I)I"⟩,
  .code ⟨"RecipePlans", "best", "(I)I"⟩ prog_1_method_9_code 2 (some .int),
  .methodLink "RecipePlansLaw" 54 ⟨"RecipePlans", "cost", "()J"⟩,
  .instanceMethod ⟨"RecipePlans", "cost", "()J"⟩,
  .selects "RecipePlans" ⟨"RecipePlans", "cost", "()J"⟩ ⟨"RecipePlans", "cost", "()J"⟩,
  .code ⟨"RecipePlans", "cost", "()J"⟩ prog_1_method_10_code 1 (some .long),
  .constantLong "RecipePlans" 150 (-9223372036854775808),
  .methodLink "RecipePlansLaw" 59 ⟨"RecipePlans", "cut", "(I)J"⟩,
  .instanceMethod ⟨"RecipePlans", "cut", "(I)J"⟩,
  .selects "RecipePlans" ⟨"RecipePlans", "cut", "(I)J"⟩ ⟨"RecipePlans", "cut", "(I)J"⟩,
  .code ⟨"RecipePlans", "cut", "(I)J"⟩ prog_1_method_11_code 2 (some .long),
  .methodLink "RecipePlansLaw" 64 ⟨"RecipePlans", "clashes", "()I"⟩,
  .instanceMethod ⟨"RecipePlans", "clashes", "()I"⟩,
  .selects "RecipePlans" ⟨"RecipePlans", "clashes", "()I"⟩ ⟨"RecipePlans", "clashes", "()I"⟩,
  .code ⟨"RecipePlans", "clashes", "()I"⟩ prog_1_method_12_code 1 (some .int),
  .methodLink "RecipePlans" 164 ⟨"java/lang/Integer", "bitCount", "(I)I"⟩,
  .methodLink "RecipePlansLaw" 68 ⟨"RecipePlans", "clash", "(I)Z"⟩,
  .instanceMethod ⟨"RecipePlans", "clash", "(I)Z"⟩,
  .selects "RecipePlans" ⟨"RecipePlans", "clash", "(I)Z"⟩ ⟨"RecipePlans", "clash", "(I)Z"⟩,
  .code ⟨"RecipePlans", "clash", "(I)Z"⟩ prog_1_method_13_code 2 (some .boolean),
  .methodLink "RecipePlans" 170 ⟨"RecipePlans", "hasBit", "(II)Z"⟩,
  .methodLink "RecipePlansLaw" 72 ⟨"RecipePlans", "broken", "(IIII)I"⟩,
  .instanceMethod ⟨"RecipePlans", "broken", "(IIII)I"⟩,
  .selects "RecipePlans" ⟨"RecipePlans", "broken", "(IIII)I"⟩ ⟨"RecipePlans", "broken", "(IIII)I"⟩,
  .code ⟨"RecipePlans", "broken", "(IIII)I"⟩ prog_1_method_14_code 6 (some .int),
  .methodLink "RecipePlans" 174 ⟨"RecipePlans$Lots", "hold", "([J[J)V"⟩,
  .methodLink "RecipePlans" 178 ⟨"RecipePlans$Rules", "keeps", "(I[J)Z"⟩,
  .classLink "RecipePlansLaw" 10 "RecipePlansModel",
  .instantiable "RecipePlansModel" 24,
  .methodLink "RecipePlansLaw" 12 ⟨"RecipePlansModel", "<init>", "()V"⟩,
  .instanceMethod ⟨"RecipePlansModel", "<init>", "()V"⟩,
  .code ⟨"RecipePlansModel", "<init>", "()V"⟩ prog_9_method_1_code 1 none,
  .methodLink "RecipePlansModel" 1 ⟨"java/lang/Object", "<init>", "()V"⟩,
  .fieldLink "RecipePlansModel" 64 "RecipePlansModel" "lots" "I",
  .fieldLink "RecipePlansModel" 7 "RecipePlansModel" "stocks" "[I",
  .fieldLink "RecipePlansModel" 13 "RecipePlansModel" "cents" "[I",
  .fieldLink "RecipePlansModel" 16 "RecipePlansModel" "amounts" "[I",
  .fieldLink "RecipePlansModel" 19 "RecipePlansModel" "told" "[Z",
  .fieldLink "RecipePlansModel" 23 "RecipePlansModel" "lows" "[I",
  .fieldLink "RecipePlansModel" 26 "RecipePlansModel" "highs" "[I",
  .fieldLink "RecipePlansModel" 29 "RecipePlansModel" "overs" "[I",
  .fieldLink "RecipePlansModel" 32 "RecipePlansModel" "firsts" "[I",
  .fieldLink "RecipePlansModel" 35 "RecipePlansModel" "seconds" "[I",
  .fieldLink "RecipePlansModel" 38 "RecipePlansModel" "found" "I",
  .fieldLink "RecipePlansModel" 176 "RecipePlansModel" "foundLots" "I",
  .fieldLink "RecipePlansModel" 42 "RecipePlansModel" "best" "[I",
  .fieldLink "RecipePlansModel" 106 "RecipePlansModel" "bestCost" "J",
  .fieldLink "RecipePlansModel" 148 "RecipePlansModel" "cutOver" "J",
  .fieldLink "RecipePlansModel" 145 "RecipePlansModel" "cutUnder" "J",
  .fieldLink "RecipePlansModel" 158 "RecipePlansModel" "clashSet" "I",
  .fieldLink "RecipePlansModel" 45 "RecipePlansModel" "mix" "[I",
  .fieldLink "RecipePlansModel" 48 "RecipePlansModel" "limits" "[I",
  .fieldLink "RecipePlansModel" 51 "RecipePlansModel" "isLimit" "[Z",
  .fieldLink "RecipePlansModel" 54 "RecipePlansModel" "corner" "[I",
  .fieldLink "RecipePlansModel" 57 "RecipePlansModel" "over" "[J",
  .fieldLink "RecipePlansModel" 126 "RecipePlansModel" "under" "J",
  .fieldLink "RecipePlansModel" 61 "RecipePlansModel" "kept" "[Z",
  .lays "RecipePlansModel" "RecipePlansModel" "lots" "I",
  .laysFinal "RecipePlansModel" "RecipePlansModel" "stocks" "[I",
  .laysFinal "RecipePlansModel" "RecipePlansModel" "cents" "[I",
  .laysFinal "RecipePlansModel" "RecipePlansModel" "amounts" "[I",
  .laysFinal "RecipePlansModel" "RecipePlansModel" "told" "[Z",
  .laysFinal "RecipePlansModel" "RecipePlansModel" "lows" "[I",
  .laysFinal "RecipePlansModel" "RecipePlansModel" "highs" "[I",
  .laysFinal "RecipePlansModel" "RecipePlansModel" "overs" "[I",
  .laysFinal "RecipePlansModel" "RecipePlansModel" "firsts" "[I",
  .laysFinal "RecipePlansModel" "RecipePlansModel" "seconds" "[I",
  .lays "RecipePlansModel" "RecipePlansModel" "found" "I",
  .lays "RecipePlansModel" "RecipePlansModel" "foundLots" "I",
  .laysFinal "RecipePlansModel" "RecipePlansModel" "best" "[I",
  .lays "RecipePlansModel" "RecipePlansModel" "bestCost" "J",
  .lays "RecipePlansModel" "RecipePlansModel" "cutOver" "J",
  .lays "RecipePlansModel" "RecipePlansModel" "cutUnder" "J",
  .lays "RecipePlansModel" "RecipePlansModel" "clashSet" "I",
  .laysFinal "RecipePlansModel" "RecipePlansModel" "mix" "[I",
  .laysFinal "RecipePlansModel" "RecipePlansModel" "limits" "[I",
  .laysFinal "RecipePlansModel" "RecipePlansModel" "isLimit" "[Z",
  .laysFinal "RecipePlansModel" "RecipePlansModel" "corner" "[I",
  .laysFinal "RecipePlansModel" "RecipePlansModel" "over" "[J",
  .lays "RecipePlansModel" "RecipePlansModel" "under" "J",
  .laysFinal "RecipePlansModel" "RecipePlansModel" "kept" "[Z",
  .methodLink "RecipePlansLaw" 19 ⟨"RecipePlansModel", "lot", "(IJ)I"⟩,
  .instanceMethod ⟨"RecipePlansModel", "lot", "(IJ)I"⟩,
  .selects "RecipePlansModel" ⟨"RecipePlansModel", "lot", "(IJ)I"⟩ ⟨"RecipePlansModel", "lot", "(IJ)I"⟩,
  .code ⟨"RecipePlansModel", "lot", "(IJ)I"⟩ prog_9_method_5_code 4 (some .int),
  .constantLong "RecipePlansModel" 67 9,
  .methodLink "RecipePlansModel" 69 ⟨"RecipePlansModel", "isIn", "(JJJ)Z"⟩,
  .static ⟨"RecipePlansModel", "isIn", "(JJJ)Z"⟩,
  .code ⟨"RecipePlansModel", "isIn", "(JJJ)Z"⟩ prog_9_method_3_code 6 (some .boolean),
  .constantLong "RecipePlansModel" 73 (-1000),
  .constantLong "RecipePlansModel" 75 1000,
  .methodLink "RecipePlansLaw" 24 ⟨"RecipePlansModel", "amount", "(III)Z"⟩,
  .instanceMethod ⟨"RecipePlansModel", "amount", "(III)Z"⟩,
  .selects "RecipePlansModel" ⟨"RecipePlansModel", "amount", "(III)Z"⟩ ⟨"RecipePlansModel", "amount", "(III)Z"⟩,
  .code ⟨"RecipePlansModel", "amount", "(III)Z"⟩ prog_9_method_6_code 4 (some .boolean),
  .methodLink "RecipePlansModel" 77 ⟨"RecipePlansModel", "isWhat", "(I)Z"⟩,
  .static ⟨"RecipePlansModel", "isWhat", "(I)Z"⟩,
  .code ⟨"RecipePlansModel", "isWhat", "(I)Z"⟩ prog_9_method_4_code 1 (some .boolean),
  .constantLong "RecipePlansModel" 81 (-100),
  .constantLong "RecipePlansModel" 83 100,
  .methodLink "RecipePlansLaw" 28 ⟨"RecipePlansModel", "span", "(III)Z"⟩,
  .instanceMethod ⟨"RecipePlansModel", "span", "(III)Z"⟩,
  .selects "RecipePlansModel" ⟨"RecipePlansModel", "span", "(III)Z"⟩ ⟨"RecipePlansModel", "span", "(III)Z"⟩,
  .code ⟨"RecipePlansModel", "span", "(III)Z"⟩ prog_9_method_8_code 4 (some .boolean),
  .constantLong "RecipePlansModel" 85 (-100000),
  .constantLong "RecipePlansModel" 87 100000,
  .methodLink "RecipePlansModel" 89 ⟨"RecipePlansModel", "tell", "(III)Z"⟩,
  .instanceMethod ⟨"RecipePlansModel", "tell", "(III)Z"⟩,
  .code ⟨"RecipePlansModel", "tell", "(III)Z"⟩ prog_9_method_7_code 4 (some .boolean),
  .methodLink "RecipePlansLaw" 33 ⟨"RecipePlansModel", "ratio", "(IIIIII)Z"⟩,
  .instanceMethod ⟨"RecipePlansModel", "ratio", "(IIIIII)Z"⟩,
  .selects "RecipePlansModel" ⟨"RecipePlansModel", "ratio", "(IIIIII)Z"⟩ ⟨"RecipePlansModel", "ratio", "(IIIIII)Z"⟩,
  .code ⟨"RecipePlansModel", "ratio", "(IIIIII)Z"⟩ prog_9_method_9_code 7 (some .boolean),
  .methodLink "RecipePlansLaw" 38 ⟨"RecipePlansModel", "loads", "(II)Z"⟩,
  .instanceMethod ⟨"RecipePlansModel", "loads", "(II)Z"⟩,
  .selects "RecipePlansModel" ⟨"RecipePlansModel", "loads", "(II)Z"⟩ ⟨"RecipePlansModel", "loads", "(II)Z"⟩,
  .code ⟨"RecipePlansModel", "loads", "(II)Z"⟩ prog_9_method_10_code 3 (some .boolean),
  .constantLong "RecipePlansModel" 93 36,
  .methodLink "RecipePlansLaw" 43 ⟨"RecipePlansModel", "untell", "(I)Z"⟩,
  .instanceMethod ⟨"RecipePlansModel", "untell", "(I)Z"⟩,
  .selects "RecipePlansModel" ⟨"RecipePlansModel", "untell", "(I)Z"⟩ ⟨"RecipePlansModel", "untell", "(I)Z"⟩,
  .code ⟨"RecipePlansModel", "untell", "(I)Z"⟩ prog_9_method_11_code 2 (some .boolean),
  .methodLink "RecipePlansLaw" 76 ⟨"RecipePlansModel", "broken", "(IIII)I"⟩,
  .instanceMethod ⟨"RecipePlansModel", "broken", "(IIII)I"⟩,
  .selects "RecipePlansModel" ⟨"RecipePlansModel", "broken", "(IIII)I"⟩ ⟨"RecipePlansModel", "broken", "(IIII)I"⟩,
  .code ⟨"RecipePlansModel", "broken", "(IIII)I"⟩ prog_9_method_15_code 6 (some .int),
  .methodLink "RecipePlansModel" 102 ⟨"RecipePlansModel", "firstBroken", "()I"⟩,
  .instanceMethod ⟨"RecipePlansModel", "firstBroken", "()I"⟩,
  .code ⟨"RecipePlansModel", "firstBroken", "()I"⟩ prog_9_method_14_code 2 (some .int),
  .methodLink "RecipePlansModel" 99 ⟨"RecipePlansModel", "keeps", "(I)Z"⟩,
  .instanceMethod ⟨"RecipePlansModel", "keeps", "(I)Z"⟩,
  .code ⟨"RecipePlansModel", "keeps", "(I)Z"⟩ prog_9_method_13_code 6 (some .boolean),
  .methodLink "RecipePlansModel" 95 ⟨"RecipePlansModel", "holds", "(I)I"⟩,
  .instanceMethod ⟨"RecipePlansModel", "holds", "(I)I"⟩,
  .code ⟨"RecipePlansModel", "holds", "(I)I"⟩ prog_9_method_12_code 4 (some .int),
  .methodLink "RecipePlansLaw" 48 ⟨"RecipePlansModel", "run", "()I"⟩,
  .instanceMethod ⟨"RecipePlansModel", "run", "()I"⟩,
  .selects "RecipePlansModel" ⟨"RecipePlansModel", "run", "()I"⟩ ⟨"RecipePlansModel", "run", "()I"⟩,
  .code ⟨"RecipePlansModel", "run", "()I"⟩ prog_9_method_32_code 2 (some .int),
  .methodLink "RecipePlansModel" 167 ⟨"RecipePlansModel", "findWhole", "()Z"⟩,
  .instanceMethod ⟨"RecipePlansModel", "findWhole", "()Z"⟩,
  .code ⟨"RecipePlansModel", "findWhole", "()Z"⟩ prog_9_method_16_code 8 (some .boolean),
  .methodLink "RecipePlansModel" 170 ⟨"RecipePlansModel", "setLimits", "()V"⟩,
  .instanceMethod ⟨"RecipePlansModel", "setLimits", "()V"⟩,
  .code ⟨"RecipePlansModel", "setLimits", "()V"⟩ prog_9_method_18_code 5 none,
  .methodLink "RecipePlansModel" 110 ⟨"RecipePlansModel", "setLimit", "(IIZ)V"⟩,
  .instanceMethod ⟨"RecipePlansModel", "setLimit", "(IIZ)V"⟩,
  .code ⟨"RecipePlansModel", "setLimit", "(IIZ)V"⟩ prog_9_method_17_code 8 none,
  .methodLink "RecipePlansModel" 173 ⟨"RecipePlansModel", "lookAtCorners", "()V"⟩,
  .instanceMethod ⟨"RecipePlansModel", "lookAtCorners", "()V"⟩,
  .code ⟨"RecipePlansModel", "lookAtCorners", "()V"⟩ prog_9_method_28_code 5 none,
  .methodLink "RecipePlansModel" 155 ⟨"RecipePlansModel", "lookAtCorner", "()V"⟩,
  .instanceMethod ⟨"RecipePlansModel", "lookAtCorner", "()V"⟩,
  .code ⟨"RecipePlansModel", "lookAtCorner", "()V"⟩ prog_9_method_27_code 6 none,
  .methodLink "RecipePlansModel" 138 ⟨"RecipePlansModel", "meet", "()Z"⟩,
  .instanceMethod ⟨"RecipePlansModel", "meet", "()Z"⟩,
  .code ⟨"RecipePlansModel", "meet", "()Z"⟩ prog_9_method_23_code 4 (some .boolean),
  .methodLink "RecipePlansModel" 122 ⟨"RecipePlansModel", "determinant", "(I)J"⟩,
  .instanceMethod ⟨"RecipePlansModel", "determinant", "(I)J"⟩,
  .code ⟨"RecipePlansModel", "determinant", "(I)J"⟩ prog_9_method_21_code 2 (some .long),
  .methodLink "RecipePlansModel" 118 ⟨"RecipePlansModel", "minor", "(IIIII)J"⟩,
  .instanceMethod ⟨"RecipePlansModel", "minor", "(IIIII)J"⟩,
  .code ⟨"RecipePlansModel", "minor", "(IIIII)J"⟩ prog_9_method_20_code 6 (some .long),
  .methodLink "RecipePlansModel" 114 ⟨"RecipePlansModel", "at", "(III)J"⟩,
  .instanceMethod ⟨"RecipePlansModel", "at", "(III)J"⟩,
  .code ⟨"RecipePlansModel", "at", "(III)J"⟩ prog_9_method_19_code 4 (some .long),
  .methodLink "RecipePlansModel" 129 ⟨"RecipePlansModel", "common", "(JJ)J"⟩,
  .static ⟨"RecipePlansModel", "common", "(JJ)J"⟩,
  .code ⟨"RecipePlansModel", "common", "(JJ)J"⟩ prog_9_method_22_code 10 (some .long),
  .methodLink "RecipePlansModel" 142 ⟨"RecipePlansModel", "keptRules", "()I"⟩,
  .instanceMethod ⟨"RecipePlansModel", "keptRules", "()I"⟩,
  .code ⟨"RecipePlansModel", "keptRules", "()I"⟩ prog_9_method_25_code 3 (some .int),
  .methodLink "RecipePlansModel" 135 ⟨"RecipePlansModel", "isKept", "(I)Z"⟩,
  .instanceMethod ⟨"RecipePlansModel", "isKept", "(I)Z"⟩,
  .code ⟨"RecipePlansModel", "isKept", "(I)Z"⟩ prog_9_method_24_code 13 (some .boolean),
  .constantLong "RecipePlansModel" 133 2147483648,
  .methodLink "RecipePlansModel" 151 ⟨"RecipePlansModel", "isLess", "(JJJJ)Z"⟩,
  .static ⟨"RecipePlansModel", "isLess", "(JJJJ)Z"⟩,
  .code ⟨"RecipePlansModel", "isLess", "(JJJJ)Z"⟩ prog_9_method_26_code 25 (some .boolean),
  .methodLink "RecipePlansModel" 179 ⟨"RecipePlansModel", "findClash", "()V"⟩,
  .instanceMethod ⟨"RecipePlansModel", "findClash", "()V"⟩,
  .code ⟨"RecipePlansModel", "findClash", "()V"⟩ prog_9_method_31_code 4 none,
  .methodLink "RecipePlansModel" 161 ⟨"RecipePlansModel", "sizeOf", "(I)I"⟩,
  .static ⟨"RecipePlansModel", "sizeOf", "(I)I"⟩,
  .code ⟨"RecipePlansModel", "sizeOf", "(I)I"⟩ prog_9_method_30_code 3 (some .int),
  .methodLink "RecipePlansModel" 164 ⟨"RecipePlansModel", "canBeKept", "(I)Z"⟩,
  .instanceMethod ⟨"RecipePlansModel", "canBeKept", "(I)Z"⟩,
  .code ⟨"RecipePlansModel", "canBeKept", "(I)Z"⟩ prog_9_method_29_code 3 (some .boolean),
  .methodLink "RecipePlansLaw" 53 ⟨"RecipePlansModel", "best", "(I)I"⟩,
  .instanceMethod ⟨"RecipePlansModel", "best", "(I)I"⟩,
  .selects "RecipePlansModel" ⟨"RecipePlansModel", "best", "(I)I"⟩ ⟨"RecipePlansModel", "best", "(I)I"⟩,
  .code ⟨"RecipePlansModel", "best", "(I)I"⟩ prog_9_method_33_code 2 (some .int),
  .methodLink "RecipePlansLaw" 58 ⟨"RecipePlansModel", "cost", "()J"⟩,
  .instanceMethod ⟨"RecipePlansModel", "cost", "()J"⟩,
  .selects "RecipePlansModel" ⟨"RecipePlansModel", "cost", "()J"⟩ ⟨"RecipePlansModel", "cost", "()J"⟩,
  .code ⟨"RecipePlansModel", "cost", "()J"⟩ prog_9_method_34_code 1 (some .long),
  .constantLong "RecipePlansModel" 182 (-9223372036854775808),
  .methodLink "RecipePlansLaw" 63 ⟨"RecipePlansModel", "cut", "(I)J"⟩,
  .instanceMethod ⟨"RecipePlansModel", "cut", "(I)J"⟩,
  .selects "RecipePlansModel" ⟨"RecipePlansModel", "cut", "(I)J"⟩ ⟨"RecipePlansModel", "cut", "(I)J"⟩,
  .code ⟨"RecipePlansModel", "cut", "(I)J"⟩ prog_9_method_35_code 2 (some .long),
  .methodLink "RecipePlansLaw" 67 ⟨"RecipePlansModel", "clashes", "()I"⟩,
  .instanceMethod ⟨"RecipePlansModel", "clashes", "()I"⟩,
  .selects "RecipePlansModel" ⟨"RecipePlansModel", "clashes", "()I"⟩ ⟨"RecipePlansModel", "clashes", "()I"⟩,
  .code ⟨"RecipePlansModel", "clashes", "()I"⟩ prog_9_method_36_code 1 (some .int),
  .methodLink "RecipePlansLaw" 71 ⟨"RecipePlansModel", "clash", "(I)Z"⟩,
  .instanceMethod ⟨"RecipePlansModel", "clash", "(I)Z"⟩,
  .selects "RecipePlansModel" ⟨"RecipePlansModel", "clash", "(I)Z"⟩ ⟨"RecipePlansModel", "clash", "(I)Z"⟩,
  .code ⟨"RecipePlansModel", "clash", "(I)Z"⟩ prog_9_method_37_code 2 (some .boolean),
  .constantLong "RecipePlansLaw" 13 4294967295]
def nestA : List Cond := [.methodLinkNest "RecipePlans$Rules" 31 ⟨"RecipePlans", "hasBit", "(II)Z"⟩ "RecipePlans", .fieldLinkNest "RecipePlans$CutSearch" 114 "RecipePlans" "STARTS" "[I" "RecipePlans", .fieldLinkNest "RecipePlans$CutSearch" 117 "RecipePlans" "SETS" "[I" "RecipePlans", .methodLinkNest "RecipePlans$CutSearch" 124 ⟨"RecipePlans", "hasBit", "(II)Z"⟩ "RecipePlans", .methodLinkNest "RecipePlans$CutSearch" 143 ⟨"RecipePlans", "within", "(JJJ)Z"⟩ "RecipePlans"]
set_option maxRecDepth 100000 in
theorem tw_0 : (.selects "RecipePlans$Sides" ⟨"RecipePlans$Sides", "fill", "([J[JLRecipePlans$Rules;I)V"⟩ ⟨"RecipePlans$Sides", "fill", "([J[JLRecipePlans$Rules;I)V"⟩ : Cond) ∈ wsAll := List.mem_of_getElem? (i := 0) rfl
set_option maxRecDepth 100000 in
theorem tw_1 : (.selects "RecipePlans$CutSearch" ⟨"RecipePlans$CutSearch", "begin", "()V"⟩ ⟨"RecipePlans$CutSearch", "begin", "()V"⟩ : Cond) ∈ wsAll := List.mem_of_getElem? (i := 1) rfl
set_option maxRecDepth 100000 in
theorem tw_2 : (.selects "RecipePlans$CutSearch" ⟨"RecipePlans$CutSearch", "tighten", "(II)V"⟩ ⟨"RecipePlans$CutSearch", "tighten", "(II)V"⟩ : Cond) ∈ wsAll := List.mem_of_getElem? (i := 2) rfl
set_option maxRecDepth 100000 in
theorem tw_3 : (.selects "RecipePlans$CutSearch" ⟨"RecipePlans$CutSearch", "visitCorners", "(I)V"⟩ ⟨"RecipePlans$CutSearch", "visitCorners", "(I)V"⟩ : Cond) ∈ wsAll := List.mem_of_getElem? (i := 3) rfl
set_option maxRecDepth 100000 in
theorem tw_4 : (.selects "RecipePlans$CutSearch" ⟨"RecipePlans$CutSearch", "meets", "([JII)Z"⟩ ⟨"RecipePlans$CutSearch", "meets", "([JII)Z"⟩ : Cond) ∈ wsAll := List.mem_of_getElem? (i := 4) rfl
set_option maxRecDepth 100000 in
theorem tw_5 : (.selects "RecipePlans$CutSearch" ⟨"RecipePlans$CutSearch", "replaced", "([JIII)J"⟩ ⟨"RecipePlans$CutSearch", "replaced", "([JIII)J"⟩ : Cond) ∈ wsAll := List.mem_of_getElem? (i := 5) rfl
set_option maxRecDepth 100000 in
theorem tw_6 : (.selects "RecipePlans$CutSearch" ⟨"RecipePlans$CutSearch", "weigh", "()V"⟩ ⟨"RecipePlans$CutSearch", "weigh", "()V"⟩ : Cond) ∈ wsAll := List.mem_of_getElem? (i := 6) rfl
set_option maxRecDepth 100000 in
theorem tw_7 : (.selects "RecipePlans$CutSearch" ⟨"RecipePlans$CutSearch", "add", "(I[J)Z"⟩ ⟨"RecipePlans$CutSearch", "add", "(I[J)Z"⟩ : Cond) ∈ wsAll := List.mem_of_getElem? (i := 7) rfl
set_option maxRecDepth 100000 in
theorem tw_8 : (.selects "RecipePlans$CutSearch" ⟨"RecipePlans$CutSearch", "addBoth", "(II)Z"⟩ ⟨"RecipePlans$CutSearch", "addBoth", "(II)Z"⟩ : Cond) ∈ wsAll := List.mem_of_getElem? (i := 8) rfl
set_option maxRecDepth 100000 in
theorem tw_9 : (.selects "RecipePlans$WholeSearch" ⟨"RecipePlans$WholeSearch", "begin", "()V"⟩ ⟨"RecipePlans$WholeSearch", "begin", "()V"⟩ : Cond) ∈ wsAll := List.mem_of_getElem? (i := 9) rfl
set_option maxRecDepth 100000 in
theorem tw_10 : (.selects "RecipePlans$WholeSearch" ⟨"RecipePlans$WholeSearch", "place", "(IJ)V"⟩ ⟨"RecipePlans$WholeSearch", "place", "(IJ)V"⟩ : Cond) ∈ wsAll := List.mem_of_getElem? (i := 10) rfl
set_option maxRecDepth 100000 in
theorem tw_11 : (.selects "RecipePlans$WholeSearch" ⟨"RecipePlans$WholeSearch", "mostLoads", "(I)I"⟩ ⟨"RecipePlans$WholeSearch", "mostLoads", "(I)I"⟩ : Cond) ∈ wsAll := List.mem_of_getElem? (i := 11) rfl
set_option maxRecDepth 100000 in
theorem tw_12 : (.selects "RecipePlans$WholeSearch" ⟨"RecipePlans$WholeSearch", "fewestLoads", "(I)I"⟩ ⟨"RecipePlans$WholeSearch", "fewestLoads", "(I)I"⟩ : Cond) ∈ wsAll := List.mem_of_getElem? (i := 12) rfl
set_option maxRecDepth 100000 in
theorem tw_13 : (.selects "RecipePlans$WholeSearch" ⟨"RecipePlans$WholeSearch", "take", "(IIJ)V"⟩ ⟨"RecipePlans$WholeSearch", "take", "(IIJ)V"⟩ : Cond) ∈ wsAll := List.mem_of_getElem? (i := 13) rfl
set_option maxRecDepth 100000 in
theorem tw_14 : (.selects "RecipePlans$WholeSearch" ⟨"RecipePlans$WholeSearch", "offer", "(J)V"⟩ ⟨"RecipePlans$WholeSearch", "offer", "(J)V"⟩ : Cond) ∈ wsAll := List.mem_of_getElem? (i := 14) rfl
set_option maxRecDepth 100000 in
theorem tw_15 : (.selects "RecipePlans$CutSearch" ⟨"RecipePlans$CutSearch", "allBreak", "(I)Z"⟩ ⟨"RecipePlans$CutSearch", "allBreak", "(I)Z"⟩ : Cond) ∈ wsAll := List.mem_of_getElem? (i := 15) rfl
set_option maxRecDepth 100000 in
theorem tw_16 : (.selects "RecipePlansModel" ⟨"RecipePlansModel", "tell", "(III)Z"⟩ ⟨"RecipePlansModel", "tell", "(III)Z"⟩ : Cond) ∈ wsAll := List.mem_of_getElem? (i := 16) rfl
set_option maxRecDepth 100000 in
theorem tw_17 : (.selects "RecipePlansModel" ⟨"RecipePlansModel", "firstBroken", "()I"⟩ ⟨"RecipePlansModel", "firstBroken", "()I"⟩ : Cond) ∈ wsAll := List.mem_of_getElem? (i := 17) rfl
set_option maxRecDepth 100000 in
theorem tw_18 : (.selects "RecipePlansModel" ⟨"RecipePlansModel", "keeps", "(I)Z"⟩ ⟨"RecipePlansModel", "keeps", "(I)Z"⟩ : Cond) ∈ wsAll := List.mem_of_getElem? (i := 18) rfl
set_option maxRecDepth 100000 in
theorem tw_19 : (.selects "RecipePlansModel" ⟨"RecipePlansModel", "holds", "(I)I"⟩ ⟨"RecipePlansModel", "holds", "(I)I"⟩ : Cond) ∈ wsAll := List.mem_of_getElem? (i := 19) rfl
set_option maxRecDepth 100000 in
theorem tw_20 : (.selects "RecipePlansModel" ⟨"RecipePlansModel", "findWhole", "()Z"⟩ ⟨"RecipePlansModel", "findWhole", "()Z"⟩ : Cond) ∈ wsAll := List.mem_of_getElem? (i := 20) rfl
set_option maxRecDepth 100000 in
theorem tw_21 : (.selects "RecipePlansModel" ⟨"RecipePlansModel", "setLimits", "()V"⟩ ⟨"RecipePlansModel", "setLimits", "()V"⟩ : Cond) ∈ wsAll := List.mem_of_getElem? (i := 21) rfl
set_option maxRecDepth 100000 in
theorem tw_22 : (.selects "RecipePlansModel" ⟨"RecipePlansModel", "setLimit", "(IIZ)V"⟩ ⟨"RecipePlansModel", "setLimit", "(IIZ)V"⟩ : Cond) ∈ wsAll := List.mem_of_getElem? (i := 22) rfl
set_option maxRecDepth 100000 in
theorem tw_23 : (.selects "RecipePlansModel" ⟨"RecipePlansModel", "lookAtCorners", "()V"⟩ ⟨"RecipePlansModel", "lookAtCorners", "()V"⟩ : Cond) ∈ wsAll := List.mem_of_getElem? (i := 23) rfl
set_option maxRecDepth 100000 in
theorem tw_24 : (.selects "RecipePlansModel" ⟨"RecipePlansModel", "lookAtCorner", "()V"⟩ ⟨"RecipePlansModel", "lookAtCorner", "()V"⟩ : Cond) ∈ wsAll := List.mem_of_getElem? (i := 24) rfl
set_option maxRecDepth 100000 in
theorem tw_25 : (.selects "RecipePlansModel" ⟨"RecipePlansModel", "meet", "()Z"⟩ ⟨"RecipePlansModel", "meet", "()Z"⟩ : Cond) ∈ wsAll := List.mem_of_getElem? (i := 25) rfl
set_option maxRecDepth 100000 in
theorem tw_26 : (.selects "RecipePlansModel" ⟨"RecipePlansModel", "determinant", "(I)J"⟩ ⟨"RecipePlansModel", "determinant", "(I)J"⟩ : Cond) ∈ wsAll := List.mem_of_getElem? (i := 26) rfl
set_option maxRecDepth 100000 in
theorem tw_27 : (.selects "RecipePlansModel" ⟨"RecipePlansModel", "minor", "(IIIII)J"⟩ ⟨"RecipePlansModel", "minor", "(IIIII)J"⟩ : Cond) ∈ wsAll := List.mem_of_getElem? (i := 27) rfl
set_option maxRecDepth 100000 in
theorem tw_28 : (.selects "RecipePlansModel" ⟨"RecipePlansModel", "at", "(III)J"⟩ ⟨"RecipePlansModel", "at", "(III)J"⟩ : Cond) ∈ wsAll := List.mem_of_getElem? (i := 28) rfl
set_option maxRecDepth 100000 in
theorem tw_29 : (.selects "RecipePlansModel" ⟨"RecipePlansModel", "keptRules", "()I"⟩ ⟨"RecipePlansModel", "keptRules", "()I"⟩ : Cond) ∈ wsAll := List.mem_of_getElem? (i := 29) rfl
set_option maxRecDepth 100000 in
theorem tw_30 : (.selects "RecipePlansModel" ⟨"RecipePlansModel", "isKept", "(I)Z"⟩ ⟨"RecipePlansModel", "isKept", "(I)Z"⟩ : Cond) ∈ wsAll := List.mem_of_getElem? (i := 30) rfl
set_option maxRecDepth 100000 in
theorem tw_31 : (.selects "RecipePlansModel" ⟨"RecipePlansModel", "findClash", "()V"⟩ ⟨"RecipePlansModel", "findClash", "()V"⟩ : Cond) ∈ wsAll := List.mem_of_getElem? (i := 31) rfl
set_option maxRecDepth 100000 in
theorem tw_32 : (.selects "RecipePlansModel" ⟨"RecipePlansModel", "canBeKept", "(I)Z"⟩ ⟨"RecipePlansModel", "canBeKept", "(I)Z"⟩ : Cond) ∈ wsAll := List.mem_of_getElem? (i := 32) rfl
set_option maxRecDepth 100000 in
theorem tw_34 : (.initialized "RecipePlans" : Cond) ∈ wsAll := List.mem_of_getElem? (i := 34) rfl
set_option maxRecDepth 100000 in
theorem tw_35 : (.initialized "RecipePlans$Lots" : Cond) ∈ wsAll := List.mem_of_getElem? (i := 35) rfl
set_option maxRecDepth 100000 in
theorem tw_36 : (.initialized "RecipePlans$Rules" : Cond) ∈ wsAll := List.mem_of_getElem? (i := 36) rfl
set_option maxRecDepth 100000 in
theorem tw_37 : (.initialized "RecipePlans$Sides" : Cond) ∈ wsAll := List.mem_of_getElem? (i := 37) rfl
set_option maxRecDepth 100000 in
theorem tw_38 : (.initialized "RecipePlans$CutSearch" : Cond) ∈ wsAll := List.mem_of_getElem? (i := 38) rfl
set_option maxRecDepth 100000 in
theorem tw_39 : (.initialized "RecipePlans$WholeSearch" : Cond) ∈ wsAll := List.mem_of_getElem? (i := 39) rfl
set_option maxRecDepth 100000 in
theorem tw_40 : (.initialized "RecipePlans$Found" : Cond) ∈ wsAll := List.mem_of_getElem? (i := 40) rfl
set_option maxRecDepth 100000 in
theorem tw_41 : (.initialized "RecipePlansModel" : Cond) ∈ wsAll := List.mem_of_getElem? (i := 41) rfl
set_option maxRecDepth 100000 in
theorem tw_42 : (.initialized "java/lang/Integer" : Cond) ∈ wsAll := List.mem_of_getElem? (i := 42) rfl
set_option maxRecDepth 100000 in
theorem tw_43 : (.initialized "java/lang/Math" : Cond) ∈ wsAll := List.mem_of_getElem? (i := 43) rfl
set_option maxRecDepth 100000 in
theorem tw_49 : (.methodLink "RecipePlans" 3 ⟨"java/lang/Object", "<init>", "()V"⟩ : Cond) ∈ wsAll := List.mem_of_getElem? (i := 49) rfl
set_option maxRecDepth 100000 in
theorem tw_50 : (.instanceMethod ⟨"java/lang/Object", "<init>", "()V"⟩ : Cond) ∈ wsAll := List.mem_of_getElem? (i := 50) rfl
set_option maxRecDepth 100000 in
theorem tw_51 : (.code ⟨"java/lang/Object", "<init>", "()V"⟩ object_method_1_code 1 none : Cond) ∈ wsAll := List.mem_of_getElem? (i := 51) rfl
set_option maxRecDepth 100000 in
theorem tw_52 : (.classLink "RecipePlans" 9 "RecipePlans$Lots" : Cond) ∈ wsAll := List.mem_of_getElem? (i := 52) rfl
set_option maxRecDepth 100000 in
theorem tw_53 : (.instantiable "RecipePlans$Lots" 4 : Cond) ∈ wsAll := List.mem_of_getElem? (i := 53) rfl
set_option maxRecDepth 100000 in
theorem tw_54 : (.methodLink "RecipePlans" 11 ⟨"RecipePlans$Lots", "<init>", "()V"⟩ : Cond) ∈ wsAll := List.mem_of_getElem? (i := 54) rfl
set_option maxRecDepth 100000 in
theorem tw_55 : (.instanceMethod ⟨"RecipePlans$Lots", "<init>", "()V"⟩ : Cond) ∈ wsAll := List.mem_of_getElem? (i := 55) rfl
set_option maxRecDepth 100000 in
theorem tw_56 : (.code ⟨"RecipePlans$Lots", "<init>", "()V"⟩ prog_4_method_1_code 2 none : Cond) ∈ wsAll := List.mem_of_getElem? (i := 56) rfl
set_option maxRecDepth 100000 in
theorem tw_57 : (.methodLink "RecipePlans$Lots" 3 ⟨"java/lang/Object", "<init>", "()V"⟩ : Cond) ∈ wsAll := List.mem_of_getElem? (i := 57) rfl
set_option maxRecDepth 100000 in
theorem tw_58 : (.classLink "RecipePlans$Lots" 19 "[[J" : Cond) ∈ wsAll := List.mem_of_getElem? (i := 58) rfl
set_option maxRecDepth 100000 in
theorem tw_59 : (.fieldLink "RecipePlans" 62 "RecipePlans$Lots" "count" "I" : Cond) ∈ wsAll := List.mem_of_getElem? (i := 59) rfl
set_option maxRecDepth 100000 in
theorem tw_60 : (.fieldLink "RecipePlans$Lots" 9 "RecipePlans$Lots" "stock" "[I" : Cond) ∈ wsAll := List.mem_of_getElem? (i := 60) rfl
set_option maxRecDepth 100000 in
theorem tw_61 : (.fieldLink "RecipePlans" 76 "RecipePlans$Lots" "stock" "[I" : Cond) ∈ wsAll := List.mem_of_getElem? (i := 61) rfl
set_option maxRecDepth 100000 in
theorem tw_62 : (.fieldLink "RecipePlans$WholeSearch" 67 "RecipePlans$Lots" "stock" "[I" : Cond) ∈ wsAll := List.mem_of_getElem? (i := 62) rfl
set_option maxRecDepth 100000 in
theorem tw_63 : (.fieldLink "RecipePlans$CutSearch" 136 "RecipePlans$Lots" "stock" "[I" : Cond) ∈ wsAll := List.mem_of_getElem? (i := 63) rfl
set_option maxRecDepth 100000 in
theorem tw_64 : (.fieldLink "RecipePlans$Lots" 15 "RecipePlans$Lots" "cents" "[J" : Cond) ∈ wsAll := List.mem_of_getElem? (i := 64) rfl
set_option maxRecDepth 100000 in
theorem tw_65 : (.fieldLink "RecipePlans" 80 "RecipePlans$Lots" "cents" "[J" : Cond) ∈ wsAll := List.mem_of_getElem? (i := 65) rfl
set_option maxRecDepth 100000 in
theorem tw_66 : (.fieldLink "RecipePlans$WholeSearch" 62 "RecipePlans$Lots" "cents" "[J" : Cond) ∈ wsAll := List.mem_of_getElem? (i := 66) rfl
set_option maxRecDepth 100000 in
theorem tw_67 : (.fieldLink "RecipePlans$Lots" 21 "RecipePlans$Lots" "forms" "[[J" : Cond) ∈ wsAll := List.mem_of_getElem? (i := 67) rfl
set_option maxRecDepth 100000 in
theorem tw_68 : (.fieldLink "RecipePlans$Sides" 30 "RecipePlans$Lots" "forms" "[[J" : Cond) ∈ wsAll := List.mem_of_getElem? (i := 68) rfl
set_option maxRecDepth 100000 in
theorem tw_69 : (.fieldLink "RecipePlans" 91 "RecipePlans$Lots" "forms" "[[J" : Cond) ∈ wsAll := List.mem_of_getElem? (i := 69) rfl
set_option maxRecDepth 100000 in
theorem tw_70 : (.fieldLink "RecipePlans$CutSearch" 108 "RecipePlans$Lots" "forms" "[[J" : Cond) ∈ wsAll := List.mem_of_getElem? (i := 70) rfl
set_option maxRecDepth 100000 in
theorem tw_75 : (.arrayClass .int : Cond) ∈ wsAll := List.mem_of_getElem? (i := 75) rfl
set_option maxRecDepth 100000 in
theorem tw_76 : (.arrayClass .long : Cond) ∈ wsAll := List.mem_of_getElem? (i := 76) rfl
set_option maxRecDepth 100000 in
theorem tw_77 : (.classLink "RecipePlans" 16 "RecipePlans$Rules" : Cond) ∈ wsAll := List.mem_of_getElem? (i := 77) rfl
set_option maxRecDepth 100000 in
theorem tw_78 : (.instantiable "RecipePlans$Rules" 6 : Cond) ∈ wsAll := List.mem_of_getElem? (i := 78) rfl
set_option maxRecDepth 100000 in
theorem tw_79 : (.methodLink "RecipePlans" 18 ⟨"RecipePlans$Rules", "<init>", "()V"⟩ : Cond) ∈ wsAll := List.mem_of_getElem? (i := 79) rfl
set_option maxRecDepth 100000 in
theorem tw_80 : (.instanceMethod ⟨"RecipePlans$Rules", "<init>", "()V"⟩ : Cond) ∈ wsAll := List.mem_of_getElem? (i := 80) rfl
set_option maxRecDepth 100000 in
theorem tw_81 : (.code ⟨"RecipePlans$Rules", "<init>", "()V"⟩ prog_5_method_1_code 1 none : Cond) ∈ wsAll := List.mem_of_getElem? (i := 81) rfl
set_option maxRecDepth 100000 in
theorem tw_82 : (.methodLink "RecipePlans$Rules" 5 ⟨"java/lang/Object", "<init>", "()V"⟩ : Cond) ∈ wsAll := List.mem_of_getElem? (i := 82) rfl
set_option maxRecDepth 100000 in
theorem tw_83 : (.fieldLink "RecipePlans$Rules" 27 "RecipePlans$Rules" "told" "I" : Cond) ∈ wsAll := List.mem_of_getElem? (i := 83) rfl
set_option maxRecDepth 100000 in
theorem tw_84 : (.fieldLink "RecipePlans" 110 "RecipePlans$Rules" "told" "I" : Cond) ∈ wsAll := List.mem_of_getElem? (i := 84) rfl
set_option maxRecDepth 100000 in
theorem tw_85 : (.fieldLink "RecipePlans$CutSearch" 178 "RecipePlans$Rules" "told" "I" : Cond) ∈ wsAll := List.mem_of_getElem? (i := 85) rfl
set_option maxRecDepth 100000 in
theorem tw_86 : (.fieldLink "RecipePlans$Rules" 11 "RecipePlans$Rules" "first" "[I" : Cond) ∈ wsAll := List.mem_of_getElem? (i := 86) rfl
set_option maxRecDepth 100000 in
theorem tw_87 : (.fieldLink "RecipePlans$Sides" 35 "RecipePlans$Rules" "first" "[I" : Cond) ∈ wsAll := List.mem_of_getElem? (i := 87) rfl
set_option maxRecDepth 100000 in
theorem tw_88 : (.fieldLink "RecipePlans$CutSearch" 111 "RecipePlans$Rules" "first" "[I" : Cond) ∈ wsAll := List.mem_of_getElem? (i := 88) rfl
set_option maxRecDepth 100000 in
theorem tw_89 : (.fieldLink "RecipePlans$Rules" 15 "RecipePlans$Rules" "second" "[I" : Cond) ∈ wsAll := List.mem_of_getElem? (i := 89) rfl
set_option maxRecDepth 100000 in
theorem tw_90 : (.fieldLink "RecipePlans$Sides" 38 "RecipePlans$Rules" "second" "[I" : Cond) ∈ wsAll := List.mem_of_getElem? (i := 90) rfl
set_option maxRecDepth 100000 in
theorem tw_91 : (.fieldLink "RecipePlans$CutSearch" 105 "RecipePlans$Rules" "second" "[I" : Cond) ∈ wsAll := List.mem_of_getElem? (i := 91) rfl
set_option maxRecDepth 100000 in
theorem tw_92 : (.fieldLink "RecipePlans$Rules" 18 "RecipePlans$Rules" "low" "[I" : Cond) ∈ wsAll := List.mem_of_getElem? (i := 92) rfl
set_option maxRecDepth 100000 in
theorem tw_93 : (.fieldLink "RecipePlans$Sides" 48 "RecipePlans$Rules" "low" "[I" : Cond) ∈ wsAll := List.mem_of_getElem? (i := 93) rfl
set_option maxRecDepth 100000 in
theorem tw_94 : (.fieldLink "RecipePlans$CutSearch" 93 "RecipePlans$Rules" "low" "[I" : Cond) ∈ wsAll := List.mem_of_getElem? (i := 94) rfl
set_option maxRecDepth 100000 in
theorem tw_95 : (.fieldLink "RecipePlans$Rules" 21 "RecipePlans$Rules" "high" "[I" : Cond) ∈ wsAll := List.mem_of_getElem? (i := 95) rfl
set_option maxRecDepth 100000 in
theorem tw_96 : (.fieldLink "RecipePlans$Sides" 51 "RecipePlans$Rules" "high" "[I" : Cond) ∈ wsAll := List.mem_of_getElem? (i := 96) rfl
set_option maxRecDepth 100000 in
theorem tw_97 : (.fieldLink "RecipePlans$CutSearch" 98 "RecipePlans$Rules" "high" "[I" : Cond) ∈ wsAll := List.mem_of_getElem? (i := 97) rfl
set_option maxRecDepth 100000 in
theorem tw_98 : (.fieldLink "RecipePlans$Rules" 24 "RecipePlans$Rules" "over" "[I" : Cond) ∈ wsAll := List.mem_of_getElem? (i := 98) rfl
set_option maxRecDepth 100000 in
theorem tw_99 : (.fieldLink "RecipePlans$Sides" 45 "RecipePlans$Rules" "over" "[I" : Cond) ∈ wsAll := List.mem_of_getElem? (i := 99) rfl
set_option maxRecDepth 100000 in
theorem tw_106 : (.classLink "RecipePlans" 23 "RecipePlans$Sides" : Cond) ∈ wsAll := List.mem_of_getElem? (i := 106) rfl
set_option maxRecDepth 100000 in
theorem tw_107 : (.instantiable "RecipePlans$Sides" 3 : Cond) ∈ wsAll := List.mem_of_getElem? (i := 107) rfl
set_option maxRecDepth 100000 in
theorem tw_108 : (.methodLink "RecipePlans" 25 ⟨"RecipePlans$Sides", "<init>", "()V"⟩ : Cond) ∈ wsAll := List.mem_of_getElem? (i := 108) rfl
set_option maxRecDepth 100000 in
theorem tw_109 : (.instanceMethod ⟨"RecipePlans$Sides", "<init>", "()V"⟩ : Cond) ∈ wsAll := List.mem_of_getElem? (i := 109) rfl
set_option maxRecDepth 100000 in
theorem tw_110 : (.code ⟨"RecipePlans$Sides", "<init>", "()V"⟩ prog_6_method_1_code 1 none : Cond) ∈ wsAll := List.mem_of_getElem? (i := 110) rfl
set_option maxRecDepth 100000 in
theorem tw_111 : (.methodLink "RecipePlans$Sides" 3 ⟨"java/lang/Object", "<init>", "()V"⟩ : Cond) ∈ wsAll := List.mem_of_getElem? (i := 111) rfl
set_option maxRecDepth 100000 in
theorem tw_112 : (.classLink "RecipePlans$Sides" 15 "[[J" : Cond) ∈ wsAll := List.mem_of_getElem? (i := 112) rfl
set_option maxRecDepth 100000 in
theorem tw_113 : (.fieldLink "RecipePlans$Sides" 20 "RecipePlans$Sides" "count" "I" : Cond) ∈ wsAll := List.mem_of_getElem? (i := 113) rfl
set_option maxRecDepth 100000 in
theorem tw_114 : (.fieldLink "RecipePlans$WholeSearch" 53 "RecipePlans$Sides" "count" "I" : Cond) ∈ wsAll := List.mem_of_getElem? (i := 114) rfl
set_option maxRecDepth 100000 in
theorem tw_115 : (.fieldLink "RecipePlans$CutSearch" 78 "RecipePlans$Sides" "count" "I" : Cond) ∈ wsAll := List.mem_of_getElem? (i := 115) rfl
set_option maxRecDepth 100000 in
theorem tw_116 : (.fieldLink "RecipePlans$Sides" 9 "RecipePlans$Sides" "rule" "[I" : Cond) ∈ wsAll := List.mem_of_getElem? (i := 116) rfl
set_option maxRecDepth 100000 in
theorem tw_117 : (.fieldLink "RecipePlans$CutSearch" 83 "RecipePlans$Sides" "rule" "[I" : Cond) ∈ wsAll := List.mem_of_getElem? (i := 117) rfl
set_option maxRecDepth 100000 in
theorem tw_118 : (.fieldLink "RecipePlans$Sides" 17 "RecipePlans$Sides" "row" "[[J" : Cond) ∈ wsAll := List.mem_of_getElem? (i := 118) rfl
set_option maxRecDepth 100000 in
theorem tw_119 : (.fieldLink "RecipePlans$WholeSearch" 59 "RecipePlans$Sides" "row" "[[J" : Cond) ∈ wsAll := List.mem_of_getElem? (i := 119) rfl
set_option maxRecDepth 100000 in
theorem tw_120 : (.fieldLink "RecipePlans$CutSearch" 86 "RecipePlans$Sides" "row" "[[J" : Cond) ∈ wsAll := List.mem_of_getElem? (i := 120) rfl
set_option maxRecDepth 100000 in
theorem tw_124 : (.classLink "RecipePlans" 30 "RecipePlans$CutSearch" : Cond) ∈ wsAll := List.mem_of_getElem? (i := 124) rfl
set_option maxRecDepth 100000 in
theorem tw_125 : (.instantiable "RecipePlans$CutSearch" 13 : Cond) ∈ wsAll := List.mem_of_getElem? (i := 125) rfl
set_option maxRecDepth 100000 in
theorem tw_126 : (.methodLink "RecipePlans" 32 ⟨"RecipePlans$CutSearch", "<init>", "(LRecipePlans$Lots;LRecipePlans$Rules;LRecipePlans$Sides;)V"⟩ : Cond) ∈ wsAll := List.mem_of_getElem? (i := 126) rfl
set_option maxRecDepth 100000 in
theorem tw_127 : (.instanceMethod ⟨"RecipePlans$CutSearch", "<init>", "(LRecipePlans$Lots;LRecipePlans$Rules;LRecipePlans$Sides;)V"⟩ : Cond) ∈ wsAll := List.mem_of_getElem? (i := 127) rfl
set_option maxRecDepth 100000 in
theorem tw_128 : (.code ⟨"RecipePlans$CutSearch", "<init>", "(LRecipePlans$Lots;LRecipePlans$Rules;LRecipePlans$Sides;)V"⟩ prog_2_method_1_code 4 none : Cond) ∈ wsAll := List.mem_of_getElem? (i := 128) rfl
set_option maxRecDepth 100000 in
theorem tw_129 : (.methodLink "RecipePlans$CutSearch" 3 ⟨"java/lang/Object", "<init>", "()V"⟩ : Cond) ∈ wsAll := List.mem_of_getElem? (i := 129) rfl
set_option maxRecDepth 100000 in
theorem tw_130 : (.classLink "RecipePlans$CutSearch" 23 "[[J" : Cond) ∈ wsAll := List.mem_of_getElem? (i := 130) rfl
set_option maxRecDepth 100000 in
theorem tw_131 : (.fieldLink "RecipePlans$CutSearch" 9 "RecipePlans$CutSearch" "lots" "LRecipePlans$Lots;" : Cond) ∈ wsAll := List.mem_of_getElem? (i := 131) rfl
set_option maxRecDepth 100000 in
theorem tw_132 : (.fieldLink "RecipePlans$CutSearch" 15 "RecipePlans$CutSearch" "rules" "LRecipePlans$Rules;" : Cond) ∈ wsAll := List.mem_of_getElem? (i := 132) rfl
set_option maxRecDepth 100000 in
theorem tw_133 : (.fieldLink "RecipePlans$CutSearch" 19 "RecipePlans$CutSearch" "sides" "LRecipePlans$Sides;" : Cond) ∈ wsAll := List.mem_of_getElem? (i := 133) rfl
set_option maxRecDepth 100000 in
theorem tw_134 : (.fieldLink "RecipePlans$CutSearch" 25 "RecipePlans$CutSearch" "minors" "[[J" : Cond) ∈ wsAll := List.mem_of_getElem? (i := 134) rfl
set_option maxRecDepth 100000 in
theorem tw_135 : (.fieldLink "RecipePlans$CutSearch" 28 "RecipePlans$CutSearch" "point" "[J" : Cond) ∈ wsAll := List.mem_of_getElem? (i := 135) rfl
set_option maxRecDepth 100000 in
theorem tw_136 : (.fieldLink "RecipePlans$CutSearch" 32 "RecipePlans$CutSearch" "held" "[J" : Cond) ∈ wsAll := List.mem_of_getElem? (i := 136) rfl
set_option maxRecDepth 100000 in
theorem tw_137 : (.fieldLink "RecipePlans$CutSearch" 35 "RecipePlans$CutSearch" "seen" "[Z" : Cond) ∈ wsAll := List.mem_of_getElem? (i := 137) rfl
set_option maxRecDepth 100000 in
theorem tw_138 : (.fieldLink "RecipePlans$CutSearch" 39 "RecipePlans$CutSearch" "breaks" "[I" : Cond) ∈ wsAll := List.mem_of_getElem? (i := 138) rfl
set_option maxRecDepth 100000 in
theorem tw_139 : (.fieldLink "RecipePlans$CutSearch" 50 "RecipePlans$CutSearch" "breakCount" "I" : Cond) ∈ wsAll := List.mem_of_getElem? (i := 139) rfl
set_option maxRecDepth 100000 in
theorem tw_140 : (.fieldLink "RecipePlans$CutSearch" 71 "RecipePlans$CutSearch" "open" "I" : Cond) ∈ wsAll := List.mem_of_getElem? (i := 140) rfl
set_option maxRecDepth 100000 in
theorem tw_141 : (.fieldLink "RecipePlans$Found" 21 "RecipePlans$CutSearch" "suits" "Z" : Cond) ∈ wsAll := List.mem_of_getElem? (i := 141) rfl
set_option maxRecDepth 100000 in
theorem tw_142 : (.fieldLink "RecipePlans$CutSearch" 54 "RecipePlans$CutSearch" "suits" "Z" : Cond) ∈ wsAll := List.mem_of_getElem? (i := 142) rfl
set_option maxRecDepth 100000 in
theorem tw_143 : (.fieldLink "RecipePlans" 120 "RecipePlans$CutSearch" "suits" "Z" : Cond) ∈ wsAll := List.mem_of_getElem? (i := 143) rfl
set_option maxRecDepth 100000 in
theorem tw_144 : (.fieldLink "RecipePlans$Found" 28 "RecipePlans$CutSearch" "above" "J" : Cond) ∈ wsAll := List.mem_of_getElem? (i := 144) rfl
set_option maxRecDepth 100000 in
theorem tw_145 : (.fieldLink "RecipePlans$CutSearch" 58 "RecipePlans$CutSearch" "above" "J" : Cond) ∈ wsAll := List.mem_of_getElem? (i := 145) rfl
set_option maxRecDepth 100000 in
theorem tw_146 : (.fieldLink "RecipePlans$Found" 33 "RecipePlans$CutSearch" "below" "J" : Cond) ∈ wsAll := List.mem_of_getElem? (i := 146) rfl
set_option maxRecDepth 100000 in
theorem tw_147 : (.fieldLink "RecipePlans$CutSearch" 62 "RecipePlans$CutSearch" "below" "J" : Cond) ∈ wsAll := List.mem_of_getElem? (i := 147) rfl
set_option maxRecDepth 100000 in
theorem tw_161 : (.arrayClass .boolean : Cond) ∈ wsAll := List.mem_of_getElem? (i := 161) rfl
set_option maxRecDepth 100000 in
theorem tw_162 : (.classLink "RecipePlans" 39 "RecipePlans$WholeSearch" : Cond) ∈ wsAll := List.mem_of_getElem? (i := 162) rfl
set_option maxRecDepth 100000 in
theorem tw_163 : (.instantiable "RecipePlans$WholeSearch" 9 : Cond) ∈ wsAll := List.mem_of_getElem? (i := 163) rfl
set_option maxRecDepth 100000 in
theorem tw_164 : (.methodLink "RecipePlans" 41 ⟨"RecipePlans$WholeSearch", "<init>", "(LRecipePlans$Lots;LRecipePlans$Sides;)V"⟩ : Cond) ∈ wsAll := List.mem_of_getElem? (i := 164) rfl
set_option maxRecDepth 100000 in
theorem tw_165 : (.instanceMethod ⟨"RecipePlans$WholeSearch", "<init>", "(LRecipePlans$Lots;LRecipePlans$Sides;)V"⟩ : Cond) ∈ wsAll := List.mem_of_getElem? (i := 165) rfl
set_option maxRecDepth 100000 in
theorem tw_166 : (.code ⟨"RecipePlans$WholeSearch", "<init>", "(LRecipePlans$Lots;LRecipePlans$Sides;)V"⟩ prog_7_method_1_code 3 none : Cond) ∈ wsAll := List.mem_of_getElem? (i := 166) rfl
set_option maxRecDepth 100000 in
theorem tw_167 : (.methodLink "RecipePlans$WholeSearch" 3 ⟨"java/lang/Object", "<init>", "()V"⟩ : Cond) ∈ wsAll := List.mem_of_getElem? (i := 167) rfl
set_option maxRecDepth 100000 in
theorem tw_168 : (.classLink "RecipePlans$WholeSearch" 19 "[[J" : Cond) ∈ wsAll := List.mem_of_getElem? (i := 168) rfl
set_option maxRecDepth 100000 in
theorem tw_169 : (.fieldLink "RecipePlans$WholeSearch" 9 "RecipePlans$WholeSearch" "lots" "LRecipePlans$Lots;" : Cond) ∈ wsAll := List.mem_of_getElem? (i := 169) rfl
set_option maxRecDepth 100000 in
theorem tw_170 : (.fieldLink "RecipePlans$WholeSearch" 15 "RecipePlans$WholeSearch" "sides" "LRecipePlans$Sides;" : Cond) ∈ wsAll := List.mem_of_getElem? (i := 170) rfl
set_option maxRecDepth 100000 in
theorem tw_171 : (.fieldLink "RecipePlans$WholeSearch" 21 "RecipePlans$WholeSearch" "value" "[[J" : Cond) ∈ wsAll := List.mem_of_getElem? (i := 171) rfl
set_option maxRecDepth 100000 in
theorem tw_172 : (.fieldLink "RecipePlans$WholeSearch" 24 "RecipePlans$WholeSearch" "reach" "[[J" : Cond) ∈ wsAll := List.mem_of_getElem? (i := 172) rfl
set_option maxRecDepth 100000 in
theorem tw_173 : (.fieldLink "RecipePlans$WholeSearch" 27 "RecipePlans$WholeSearch" "least" "[J" : Cond) ∈ wsAll := List.mem_of_getElem? (i := 173) rfl
set_option maxRecDepth 100000 in
theorem tw_174 : (.fieldLink "RecipePlans$WholeSearch" 31 "RecipePlans$WholeSearch" "taken" "[I" : Cond) ∈ wsAll := List.mem_of_getElem? (i := 174) rfl
set_option maxRecDepth 100000 in
theorem tw_175 : (.fieldLink "RecipePlans$WholeSearch" 38 "RecipePlans$WholeSearch" "suits" "Z" : Cond) ∈ wsAll := List.mem_of_getElem? (i := 175) rfl
set_option maxRecDepth 100000 in
theorem tw_176 : (.fieldLink "RecipePlans$Found" 45 "RecipePlans$WholeSearch" "suits" "Z" : Cond) ∈ wsAll := List.mem_of_getElem? (i := 176) rfl
set_option maxRecDepth 100000 in
theorem tw_177 : (.fieldLink "RecipePlans" 135 "RecipePlans$WholeSearch" "suits" "Z" : Cond) ∈ wsAll := List.mem_of_getElem? (i := 177) rfl
set_option maxRecDepth 100000 in
theorem tw_178 : (.fieldLink "RecipePlans$WholeSearch" 42 "RecipePlans$WholeSearch" "total" "J" : Cond) ∈ wsAll := List.mem_of_getElem? (i := 178) rfl
set_option maxRecDepth 100000 in
theorem tw_179 : (.fieldLink "RecipePlans$Found" 54 "RecipePlans$WholeSearch" "total" "J" : Cond) ∈ wsAll := List.mem_of_getElem? (i := 179) rfl
set_option maxRecDepth 100000 in
theorem tw_180 : (.fieldLink "RecipePlans$WholeSearch" 35 "RecipePlans$WholeSearch" "mix" "[I" : Cond) ∈ wsAll := List.mem_of_getElem? (i := 180) rfl
set_option maxRecDepth 100000 in
theorem tw_181 : (.fieldLink "RecipePlans$Found" 58 "RecipePlans$WholeSearch" "mix" "[I" : Cond) ∈ wsAll := List.mem_of_getElem? (i := 181) rfl
set_option maxRecDepth 100000 in
theorem tw_191 : (.classLink "RecipePlans" 48 "RecipePlans$Found" : Cond) ∈ wsAll := List.mem_of_getElem? (i := 191) rfl
set_option maxRecDepth 100000 in
theorem tw_192 : (.instantiable "RecipePlans$Found" 8 : Cond) ∈ wsAll := List.mem_of_getElem? (i := 192) rfl
set_option maxRecDepth 100000 in
theorem tw_193 : (.methodLink "RecipePlans" 50 ⟨"RecipePlans$Found", "<init>", "()V"⟩ : Cond) ∈ wsAll := List.mem_of_getElem? (i := 193) rfl
set_option maxRecDepth 100000 in
theorem tw_194 : (.instanceMethod ⟨"RecipePlans$Found", "<init>", "()V"⟩ : Cond) ∈ wsAll := List.mem_of_getElem? (i := 194) rfl
set_option maxRecDepth 100000 in
theorem tw_195 : (.code ⟨"RecipePlans$Found", "<init>", "()V"⟩ prog_3_method_1_code 1 none : Cond) ∈ wsAll := List.mem_of_getElem? (i := 195) rfl
set_option maxRecDepth 100000 in
theorem tw_196 : (.methodLink "RecipePlans$Found" 3 ⟨"java/lang/Object", "<init>", "()V"⟩ : Cond) ∈ wsAll := List.mem_of_getElem? (i := 196) rfl
set_option maxRecDepth 100000 in
theorem tw_197 : (.fieldLink "RecipePlans$Found" 48 "RecipePlans$Found" "whole" "Z" : Cond) ∈ wsAll := List.mem_of_getElem? (i := 197) rfl
set_option maxRecDepth 100000 in
theorem tw_198 : (.fieldLink "RecipePlans" 136 "RecipePlans$Found" "whole" "Z" : Cond) ∈ wsAll := List.mem_of_getElem? (i := 198) rfl
set_option maxRecDepth 100000 in
theorem tw_199 : (.fieldLink "RecipePlans$Found" 51 "RecipePlans$Found" "lots" "I" : Cond) ∈ wsAll := List.mem_of_getElem? (i := 199) rfl
set_option maxRecDepth 100000 in
theorem tw_200 : (.fieldLink "RecipePlans" 139 "RecipePlans$Found" "lots" "I" : Cond) ∈ wsAll := List.mem_of_getElem? (i := 200) rfl
set_option maxRecDepth 100000 in
theorem tw_201 : (.fieldLink "RecipePlans$Found" 9 "RecipePlans$Found" "mix" "[I" : Cond) ∈ wsAll := List.mem_of_getElem? (i := 201) rfl
set_option maxRecDepth 100000 in
theorem tw_202 : (.fieldLink "RecipePlans" 141 "RecipePlans$Found" "mix" "[I" : Cond) ∈ wsAll := List.mem_of_getElem? (i := 202) rfl
set_option maxRecDepth 100000 in
theorem tw_203 : (.fieldLink "RecipePlans$Found" 57 "RecipePlans$Found" "total" "J" : Cond) ∈ wsAll := List.mem_of_getElem? (i := 203) rfl
set_option maxRecDepth 100000 in
theorem tw_204 : (.fieldLink "RecipePlans" 144 "RecipePlans$Found" "total" "J" : Cond) ∈ wsAll := List.mem_of_getElem? (i := 204) rfl
set_option maxRecDepth 100000 in
theorem tw_205 : (.fieldLink "RecipePlans$Found" 25 "RecipePlans$Found" "cuttable" "Z" : Cond) ∈ wsAll := List.mem_of_getElem? (i := 205) rfl
set_option maxRecDepth 100000 in
theorem tw_206 : (.fieldLink "RecipePlans" 152 "RecipePlans$Found" "cuttable" "Z" : Cond) ∈ wsAll := List.mem_of_getElem? (i := 206) rfl
set_option maxRecDepth 100000 in
theorem tw_207 : (.fieldLink "RecipePlans$Found" 32 "RecipePlans$Found" "above" "J" : Cond) ∈ wsAll := List.mem_of_getElem? (i := 207) rfl
set_option maxRecDepth 100000 in
theorem tw_208 : (.fieldLink "RecipePlans" 155 "RecipePlans$Found" "above" "J" : Cond) ∈ wsAll := List.mem_of_getElem? (i := 208) rfl
set_option maxRecDepth 100000 in
theorem tw_209 : (.fieldLink "RecipePlans$Found" 36 "RecipePlans$Found" "below" "J" : Cond) ∈ wsAll := List.mem_of_getElem? (i := 209) rfl
set_option maxRecDepth 100000 in
theorem tw_210 : (.fieldLink "RecipePlans" 158 "RecipePlans$Found" "below" "J" : Cond) ∈ wsAll := List.mem_of_getElem? (i := 210) rfl
set_option maxRecDepth 100000 in
theorem tw_211 : (.fieldLink "RecipePlans$Found" 41 "RecipePlans$Found" "clashing" "I" : Cond) ∈ wsAll := List.mem_of_getElem? (i := 211) rfl
set_option maxRecDepth 100000 in
theorem tw_212 : (.fieldLink "RecipePlans" 161 "RecipePlans$Found" "clashing" "I" : Cond) ∈ wsAll := List.mem_of_getElem? (i := 212) rfl
set_option maxRecDepth 100000 in
theorem tw_221 : (.fieldLink "RecipePlans" 12 "RecipePlans" "lots" "LRecipePlans$Lots;" : Cond) ∈ wsAll := List.mem_of_getElem? (i := 221) rfl
set_option maxRecDepth 100000 in
theorem tw_222 : (.fieldLink "RecipePlans" 19 "RecipePlans" "rules" "LRecipePlans$Rules;" : Cond) ∈ wsAll := List.mem_of_getElem? (i := 222) rfl
set_option maxRecDepth 100000 in
theorem tw_223 : (.fieldLink "RecipePlans" 26 "RecipePlans" "sides" "LRecipePlans$Sides;" : Cond) ∈ wsAll := List.mem_of_getElem? (i := 223) rfl
set_option maxRecDepth 100000 in
theorem tw_224 : (.fieldLink "RecipePlans" 35 "RecipePlans" "cuts" "LRecipePlans$CutSearch;" : Cond) ∈ wsAll := List.mem_of_getElem? (i := 224) rfl
set_option maxRecDepth 100000 in
theorem tw_225 : (.fieldLink "RecipePlans" 44 "RecipePlans" "wholes" "LRecipePlans$WholeSearch;" : Cond) ∈ wsAll := List.mem_of_getElem? (i := 225) rfl
set_option maxRecDepth 100000 in
theorem tw_226 : (.fieldLink "RecipePlans" 51 "RecipePlans" "found" "LRecipePlans$Found;" : Cond) ∈ wsAll := List.mem_of_getElem? (i := 226) rfl
set_option maxRecDepth 100000 in
theorem tw_227 : (.fieldLink "RecipePlans" 55 "RecipePlans" "point" "[J" : Cond) ∈ wsAll := List.mem_of_getElem? (i := 227) rfl
set_option maxRecDepth 100000 in
theorem tw_228 : (.fieldLink "RecipePlans" 59 "RecipePlans" "held" "[J" : Cond) ∈ wsAll := List.mem_of_getElem? (i := 228) rfl
set_option maxRecDepth 100000 in
theorem tw_241 : (.constantLong "RecipePlans" 66 9 : Cond) ∈ wsAll := List.mem_of_getElem? (i := 241) rfl
set_option maxRecDepth 100000 in
theorem tw_242 : (.methodLink "RecipePlans" 68 ⟨"RecipePlans", "within", "(JJJ)Z"⟩ : Cond) ∈ wsAll := List.mem_of_getElem? (i := 242) rfl
set_option maxRecDepth 100000 in
theorem tw_243 : (.static ⟨"RecipePlans", "within", "(JJJ)Z"⟩ : Cond) ∈ wsAll := List.mem_of_getElem? (i := 243) rfl
set_option maxRecDepth 100000 in
theorem tw_244 : (.code ⟨"RecipePlans", "within", "(JJJ)Z"⟩ prog_1_method_15_code 6 (some .boolean) : Cond) ∈ wsAll := List.mem_of_getElem? (i := 244) rfl
set_option maxRecDepth 100000 in
theorem tw_245 : (.constantLong "RecipePlans" 72 (-1000) : Cond) ∈ wsAll := List.mem_of_getElem? (i := 245) rfl
set_option maxRecDepth 100000 in
theorem tw_246 : (.constantLong "RecipePlans" 74 1000 : Cond) ∈ wsAll := List.mem_of_getElem? (i := 246) rfl
set_option maxRecDepth 100000 in
theorem tw_251 : (.methodLink "RecipePlans" 83 ⟨"RecipePlans", "isWhat", "(I)Z"⟩ : Cond) ∈ wsAll := List.mem_of_getElem? (i := 251) rfl
set_option maxRecDepth 100000 in
theorem tw_252 : (.static ⟨"RecipePlans", "isWhat", "(I)Z"⟩ : Cond) ∈ wsAll := List.mem_of_getElem? (i := 252) rfl
set_option maxRecDepth 100000 in
theorem tw_253 : (.code ⟨"RecipePlans", "isWhat", "(I)Z"⟩ prog_1_method_17_code 1 (some .boolean) : Cond) ∈ wsAll := List.mem_of_getElem? (i := 253) rfl
set_option maxRecDepth 100000 in
theorem tw_254 : (.constantLong "RecipePlans" 182 4 : Cond) ∈ wsAll := List.mem_of_getElem? (i := 254) rfl
set_option maxRecDepth 100000 in
theorem tw_255 : (.constantLong "RecipePlans" 87 (-100) : Cond) ∈ wsAll := List.mem_of_getElem? (i := 255) rfl
set_option maxRecDepth 100000 in
theorem tw_256 : (.constantLong "RecipePlans" 89 100 : Cond) ∈ wsAll := List.mem_of_getElem? (i := 256) rfl
set_option maxRecDepth 100000 in
theorem tw_261 : (.constant "RecipePlans" 95 (-100000) : Cond) ∈ wsAll := List.mem_of_getElem? (i := 261) rfl
set_option maxRecDepth 100000 in
theorem tw_262 : (.constant "RecipePlans" 96 100000 : Cond) ∈ wsAll := List.mem_of_getElem? (i := 262) rfl
set_option maxRecDepth 100000 in
theorem tw_263 : (.methodLink "RecipePlans" 97 ⟨"RecipePlans", "isRange", "(IIII)Z"⟩ : Cond) ∈ wsAll := List.mem_of_getElem? (i := 263) rfl
set_option maxRecDepth 100000 in
theorem tw_264 : (.static ⟨"RecipePlans", "isRange", "(IIII)Z"⟩ : Cond) ∈ wsAll := List.mem_of_getElem? (i := 264) rfl
set_option maxRecDepth 100000 in
theorem tw_265 : (.code ⟨"RecipePlans", "isRange", "(IIII)Z"⟩ prog_1_method_16_code 4 (some .boolean) : Cond) ∈ wsAll := List.mem_of_getElem? (i := 265) rfl
set_option maxRecDepth 100000 in
theorem tw_266 : (.methodLink "RecipePlans" 101 ⟨"RecipePlans$Rules", "tell", "(IIIIII)V"⟩ : Cond) ∈ wsAll := List.mem_of_getElem? (i := 266) rfl
set_option maxRecDepth 100000 in
theorem tw_267 : (.instanceMethod ⟨"RecipePlans$Rules", "tell", "(IIIIII)V"⟩ : Cond) ∈ wsAll := List.mem_of_getElem? (i := 267) rfl
set_option maxRecDepth 100000 in
theorem tw_268 : (.selects "RecipePlans$Rules" ⟨"RecipePlans$Rules", "tell", "(IIIIII)V"⟩ ⟨"RecipePlans$Rules", "tell", "(IIIIII)V"⟩ : Cond) ∈ wsAll := List.mem_of_getElem? (i := 268) rfl
set_option maxRecDepth 100000 in
theorem tw_269 : (.code ⟨"RecipePlans$Rules", "tell", "(IIIIII)V"⟩ prog_5_method_2_code 7 none : Cond) ∈ wsAll := List.mem_of_getElem? (i := 269) rfl
set_option maxRecDepth 100000 in
theorem tw_282 : (.constantLong "RecipePlans" 105 7 : Cond) ∈ wsAll := List.mem_of_getElem? (i := 282) rfl
set_option maxRecDepth 100000 in
theorem tw_283 : (.methodLink "RecipePlans" 107 ⟨"RecipePlans$Rules", "isTold", "(I)Z"⟩ : Cond) ∈ wsAll := List.mem_of_getElem? (i := 283) rfl
set_option maxRecDepth 100000 in
theorem tw_284 : (.instanceMethod ⟨"RecipePlans$Rules", "isTold", "(I)Z"⟩ : Cond) ∈ wsAll := List.mem_of_getElem? (i := 284) rfl
set_option maxRecDepth 100000 in
theorem tw_285 : (.selects "RecipePlans$Rules" ⟨"RecipePlans$Rules", "isTold", "(I)Z"⟩ ⟨"RecipePlans$Rules", "isTold", "(I)Z"⟩ : Cond) ∈ wsAll := List.mem_of_getElem? (i := 285) rfl
set_option maxRecDepth 100000 in
theorem tw_286 : (.code ⟨"RecipePlans$Rules", "isTold", "(I)Z"⟩ prog_5_method_3_code 2 (some .boolean) : Cond) ∈ wsAll := List.mem_of_getElem? (i := 286) rfl
set_option maxRecDepth 100000 in
theorem tw_287 : (.static ⟨"RecipePlans", "hasBit", "(II)Z"⟩ : Cond) ∈ wsAll := List.mem_of_getElem? (i := 287) rfl
set_option maxRecDepth 100000 in
theorem tw_288 : (.code ⟨"RecipePlans", "hasBit", "(II)Z"⟩ prog_1_method_18_code 2 (some .boolean) : Cond) ∈ wsAll := List.mem_of_getElem? (i := 288) rfl
set_option maxRecDepth 100000 in
theorem tw_293 : (.methodLink "RecipePlans" 113 ⟨"RecipePlans$Sides", "build", "(LRecipePlans$Lots;LRecipePlans$Rules;)V"⟩ : Cond) ∈ wsAll := List.mem_of_getElem? (i := 293) rfl
set_option maxRecDepth 100000 in
theorem tw_294 : (.instanceMethod ⟨"RecipePlans$Sides", "build", "(LRecipePlans$Lots;LRecipePlans$Rules;)V"⟩ : Cond) ∈ wsAll := List.mem_of_getElem? (i := 294) rfl
set_option maxRecDepth 100000 in
theorem tw_295 : (.selects "RecipePlans$Sides" ⟨"RecipePlans$Sides", "build", "(LRecipePlans$Lots;LRecipePlans$Rules;)V"⟩ ⟨"RecipePlans$Sides", "build", "(LRecipePlans$Lots;LRecipePlans$Rules;)V"⟩ : Cond) ∈ wsAll := List.mem_of_getElem? (i := 295) rfl
set_option maxRecDepth 100000 in
theorem tw_296 : (.code ⟨"RecipePlans$Sides", "build", "(LRecipePlans$Lots;LRecipePlans$Rules;)V"⟩ prog_6_method_2_code 4 none : Cond) ∈ wsAll := List.mem_of_getElem? (i := 296) rfl
set_option maxRecDepth 100000 in
theorem tw_297 : (.methodLink "RecipePlans$Sides" 24 ⟨"RecipePlans$Rules", "isTold", "(I)Z"⟩ : Cond) ∈ wsAll := List.mem_of_getElem? (i := 297) rfl
set_option maxRecDepth 100000 in
theorem tw_298 : (.methodLink "RecipePlans$Sides" 41 ⟨"RecipePlans$Sides", "fill", "([J[JLRecipePlans$Rules;I)V"⟩ : Cond) ∈ wsAll := List.mem_of_getElem? (i := 298) rfl
set_option maxRecDepth 100000 in
theorem tw_299 : (.instanceMethod ⟨"RecipePlans$Sides", "fill", "([J[JLRecipePlans$Rules;I)V"⟩ : Cond) ∈ wsAll := List.mem_of_getElem? (i := 299) rfl
set_option maxRecDepth 100000 in
theorem tw_300 : (.code ⟨"RecipePlans$Sides", "fill", "([J[JLRecipePlans$Rules;I)V"⟩ prog_6_method_3_code 10 none : Cond) ∈ wsAll := List.mem_of_getElem? (i := 300) rfl
set_option maxRecDepth 100000 in
theorem tw_301 : (.methodLink "RecipePlans" 117 ⟨"RecipePlans$CutSearch", "search", "()V"⟩ : Cond) ∈ wsAll := List.mem_of_getElem? (i := 301) rfl
set_option maxRecDepth 100000 in
theorem tw_302 : (.instanceMethod ⟨"RecipePlans$CutSearch", "search", "()V"⟩ : Cond) ∈ wsAll := List.mem_of_getElem? (i := 302) rfl
set_option maxRecDepth 100000 in
theorem tw_303 : (.selects "RecipePlans$CutSearch" ⟨"RecipePlans$CutSearch", "search", "()V"⟩ ⟨"RecipePlans$CutSearch", "search", "()V"⟩ : Cond) ∈ wsAll := List.mem_of_getElem? (i := 303) rfl
set_option maxRecDepth 100000 in
theorem tw_304 : (.code ⟨"RecipePlans$CutSearch", "search", "()V"⟩ prog_2_method_2_code 1 none : Cond) ∈ wsAll := List.mem_of_getElem? (i := 304) rfl
set_option maxRecDepth 100000 in
theorem tw_305 : (.methodLink "RecipePlans$CutSearch" 43 ⟨"RecipePlans$CutSearch", "begin", "()V"⟩ : Cond) ∈ wsAll := List.mem_of_getElem? (i := 305) rfl
set_option maxRecDepth 100000 in
theorem tw_306 : (.instanceMethod ⟨"RecipePlans$CutSearch", "begin", "()V"⟩ : Cond) ∈ wsAll := List.mem_of_getElem? (i := 306) rfl
set_option maxRecDepth 100000 in
theorem tw_307 : (.code ⟨"RecipePlans$CutSearch", "begin", "()V"⟩ prog_2_method_3_code 2 none : Cond) ∈ wsAll := List.mem_of_getElem? (i := 307) rfl
set_option maxRecDepth 100000 in
theorem tw_308 : (.methodLink "RecipePlans$CutSearch" 65 ⟨"RecipePlans$Lots", "inStock", "()I"⟩ : Cond) ∈ wsAll := List.mem_of_getElem? (i := 308) rfl
set_option maxRecDepth 100000 in
theorem tw_309 : (.instanceMethod ⟨"RecipePlans$Lots", "inStock", "()I"⟩ : Cond) ∈ wsAll := List.mem_of_getElem? (i := 309) rfl
set_option maxRecDepth 100000 in
theorem tw_310 : (.selects "RecipePlans$Lots" ⟨"RecipePlans$Lots", "inStock", "()I"⟩ ⟨"RecipePlans$Lots", "inStock", "()I"⟩ : Cond) ∈ wsAll := List.mem_of_getElem? (i := 310) rfl
set_option maxRecDepth 100000 in
theorem tw_311 : (.code ⟨"RecipePlans$Lots", "inStock", "()I"⟩ prog_4_method_4_code 3 (some .int) : Cond) ∈ wsAll := List.mem_of_getElem? (i := 311) rfl
set_option maxRecDepth 100000 in
theorem tw_312 : (.methodLink "RecipePlans$CutSearch" 46 ⟨"RecipePlans$CutSearch", "tighten", "(II)V"⟩ : Cond) ∈ wsAll := List.mem_of_getElem? (i := 312) rfl
set_option maxRecDepth 100000 in
theorem tw_313 : (.instanceMethod ⟨"RecipePlans$CutSearch", "tighten", "(II)V"⟩ : Cond) ∈ wsAll := List.mem_of_getElem? (i := 313) rfl
set_option maxRecDepth 100000 in
theorem tw_314 : (.code ⟨"RecipePlans$CutSearch", "tighten", "(II)V"⟩ prog_2_method_4_code 5 none : Cond) ∈ wsAll := List.mem_of_getElem? (i := 314) rfl
set_option maxRecDepth 100000 in
theorem tw_315 : (.methodLink "RecipePlans$CutSearch" 74 ⟨"RecipePlans$CutSearch", "visitCorners", "(I)V"⟩ : Cond) ∈ wsAll := List.mem_of_getElem? (i := 315) rfl
set_option maxRecDepth 100000 in
theorem tw_316 : (.instanceMethod ⟨"RecipePlans$CutSearch", "visitCorners", "(I)V"⟩ : Cond) ∈ wsAll := List.mem_of_getElem? (i := 316) rfl
set_option maxRecDepth 100000 in
theorem tw_317 : (.code ⟨"RecipePlans$CutSearch", "visitCorners", "(I)V"⟩ prog_2_method_8_code 7 none : Cond) ∈ wsAll := List.mem_of_getElem? (i := 317) rfl
set_option maxRecDepth 100000 in
theorem tw_318 : (.methodLink "RecipePlans$CutSearch" 127 ⟨"RecipePlans$CutSearch", "meets", "([JII)Z"⟩ : Cond) ∈ wsAll := List.mem_of_getElem? (i := 318) rfl
set_option maxRecDepth 100000 in
theorem tw_319 : (.instanceMethod ⟨"RecipePlans$CutSearch", "meets", "([JII)Z"⟩ : Cond) ∈ wsAll := List.mem_of_getElem? (i := 319) rfl
set_option maxRecDepth 100000 in
theorem tw_320 : (.code ⟨"RecipePlans$CutSearch", "meets", "([JII)Z"⟩ prog_2_method_9_code 13 (some .boolean) : Cond) ∈ wsAll := List.mem_of_getElem? (i := 320) rfl
set_option maxRecDepth 100000 in
theorem tw_321 : (.constantLong "RecipePlans$CutSearch" 134 (-1) : Cond) ∈ wsAll := List.mem_of_getElem? (i := 321) rfl
set_option maxRecDepth 100000 in
theorem tw_322 : (.methodLink "RecipePlans$CutSearch" 139 ⟨"RecipePlans$CutSearch", "replaced", "([JIII)J"⟩ : Cond) ∈ wsAll := List.mem_of_getElem? (i := 322) rfl
set_option maxRecDepth 100000 in
theorem tw_323 : (.instanceMethod ⟨"RecipePlans$CutSearch", "replaced", "([JIII)J"⟩ : Cond) ∈ wsAll := List.mem_of_getElem? (i := 323) rfl
set_option maxRecDepth 100000 in
theorem tw_324 : (.code ⟨"RecipePlans$CutSearch", "replaced", "([JIII)J"⟩ prog_2_method_10_code 14 (some .long) : Cond) ∈ wsAll := List.mem_of_getElem? (i := 324) rfl
set_option maxRecDepth 100000 in
theorem tw_325 : (.methodLink "RecipePlans$CutSearch" 147 ⟨"java/lang/Integer", "bitCount", "(I)I"⟩ : Cond) ∈ wsAll := List.mem_of_getElem? (i := 325) rfl
set_option maxRecDepth 100000 in
theorem tw_326 : (.static ⟨"java/lang/Integer", "bitCount", "(I)I"⟩ : Cond) ∈ wsAll := List.mem_of_getElem? (i := 326) rfl
set_option maxRecDepth 100000 in
theorem tw_327 : (.code ⟨"java/lang/Integer", "bitCount", "(I)I"⟩ prog_10_method_49_code 1 (some .int) : Cond) ∈ wsAll := List.mem_of_getElem? (i := 327) rfl
set_option maxRecDepth 100000 in
theorem tw_328 : (.constant "java/lang/Integer" 265 1431655765 : Cond) ∈ wsAll := List.mem_of_getElem? (i := 328) rfl
set_option maxRecDepth 100000 in
theorem tw_329 : (.constant "java/lang/Integer" 266 858993459 : Cond) ∈ wsAll := List.mem_of_getElem? (i := 329) rfl
set_option maxRecDepth 100000 in
theorem tw_330 : (.constant "java/lang/Integer" 267 252645135 : Cond) ∈ wsAll := List.mem_of_getElem? (i := 330) rfl
set_option maxRecDepth 100000 in
theorem tw_331 : (.methodLink "RecipePlans$CutSearch" 131 ⟨"RecipePlans$CutSearch", "weigh", "()V"⟩ : Cond) ∈ wsAll := List.mem_of_getElem? (i := 331) rfl
set_option maxRecDepth 100000 in
theorem tw_332 : (.instanceMethod ⟨"RecipePlans$CutSearch", "weigh", "()V"⟩ : Cond) ∈ wsAll := List.mem_of_getElem? (i := 332) rfl
set_option maxRecDepth 100000 in
theorem tw_333 : (.code ⟨"RecipePlans$CutSearch", "weigh", "()V"⟩ prog_2_method_11_code 5 none : Cond) ∈ wsAll := List.mem_of_getElem? (i := 333) rfl
set_option maxRecDepth 100000 in
theorem tw_334 : (.methodLink "RecipePlans$CutSearch" 153 ⟨"RecipePlans$Lots", "price", "([J)J"⟩ : Cond) ∈ wsAll := List.mem_of_getElem? (i := 334) rfl
set_option maxRecDepth 100000 in
theorem tw_335 : (.instanceMethod ⟨"RecipePlans$Lots", "price", "([J)J"⟩ : Cond) ∈ wsAll := List.mem_of_getElem? (i := 335) rfl
set_option maxRecDepth 100000 in
theorem tw_336 : (.selects "RecipePlans$Lots" ⟨"RecipePlans$Lots", "price", "([J)J"⟩ ⟨"RecipePlans$Lots", "price", "([J)J"⟩ : Cond) ∈ wsAll := List.mem_of_getElem? (i := 336) rfl
set_option maxRecDepth 100000 in
theorem tw_337 : (.code ⟨"RecipePlans$Lots", "price", "([J)J"⟩ prog_4_method_3_code 5 (some .long) : Cond) ∈ wsAll := List.mem_of_getElem? (i := 337) rfl
set_option maxRecDepth 100000 in
theorem tw_338 : (.methodLink "RecipePlans$CutSearch" 157 ⟨"RecipePlans$CutSearch", "isLess", "(JJJJ)Z"⟩ : Cond) ∈ wsAll := List.mem_of_getElem? (i := 338) rfl
set_option maxRecDepth 100000 in
theorem tw_339 : (.static ⟨"RecipePlans$CutSearch", "isLess", "(JJJJ)Z"⟩ : Cond) ∈ wsAll := List.mem_of_getElem? (i := 339) rfl
set_option maxRecDepth 100000 in
theorem tw_340 : (.code ⟨"RecipePlans$CutSearch", "isLess", "(JJJJ)Z"⟩ prog_2_method_12_code 17 (some .boolean) : Cond) ∈ wsAll := List.mem_of_getElem? (i := 340) rfl
set_option maxRecDepth 100000 in
theorem tw_341 : (.methodLink "RecipePlans$CutSearch" 168 ⟨"java/lang/Math", "floorDiv", "(JJ)J"⟩ : Cond) ∈ wsAll := List.mem_of_getElem? (i := 341) rfl
set_option maxRecDepth 100000 in
theorem tw_342 : (.static ⟨"java/lang/Math", "floorDiv", "(JJ)J"⟩ : Cond) ∈ wsAll := List.mem_of_getElem? (i := 342) rfl
set_option maxRecDepth 100000 in
theorem tw_343 : (.code ⟨"java/lang/Math", "floorDiv", "(JJ)J"⟩ prog_11_method_49_code 6 (some .long) : Cond) ∈ wsAll := List.mem_of_getElem? (i := 343) rfl
set_option maxRecDepth 100000 in
theorem tw_344 : (.methodLink "RecipePlans$CutSearch" 161 ⟨"RecipePlans$Lots", "hold", "([J[J)V"⟩ : Cond) ∈ wsAll := List.mem_of_getElem? (i := 344) rfl
set_option maxRecDepth 100000 in
theorem tw_345 : (.instanceMethod ⟨"RecipePlans$Lots", "hold", "([J[J)V"⟩ : Cond) ∈ wsAll := List.mem_of_getElem? (i := 345) rfl
set_option maxRecDepth 100000 in
theorem tw_346 : (.selects "RecipePlans$Lots" ⟨"RecipePlans$Lots", "hold", "([J[J)V"⟩ ⟨"RecipePlans$Lots", "hold", "([J[J)V"⟩ : Cond) ∈ wsAll := List.mem_of_getElem? (i := 346) rfl
set_option maxRecDepth 100000 in
theorem tw_347 : (.code ⟨"RecipePlans$Lots", "hold", "([J[J)V"⟩ prog_4_method_2_code 8 none : Cond) ∈ wsAll := List.mem_of_getElem? (i := 347) rfl
set_option maxRecDepth 100000 in
theorem tw_348 : (.methodLink "RecipePlans$CutSearch" 165 ⟨"RecipePlans$Rules", "keeps", "(I[J)Z"⟩ : Cond) ∈ wsAll := List.mem_of_getElem? (i := 348) rfl
set_option maxRecDepth 100000 in
theorem tw_349 : (.instanceMethod ⟨"RecipePlans$Rules", "keeps", "(I[J)Z"⟩ : Cond) ∈ wsAll := List.mem_of_getElem? (i := 349) rfl
set_option maxRecDepth 100000 in
theorem tw_350 : (.selects "RecipePlans$Rules" ⟨"RecipePlans$Rules", "keeps", "(I[J)Z"⟩ ⟨"RecipePlans$Rules", "keeps", "(I[J)Z"⟩ : Cond) ∈ wsAll := List.mem_of_getElem? (i := 350) rfl
set_option maxRecDepth 100000 in
theorem tw_351 : (.code ⟨"RecipePlans$Rules", "keeps", "(I[J)Z"⟩ prog_5_method_4_code 7 (some .boolean) : Cond) ∈ wsAll := List.mem_of_getElem? (i := 351) rfl
set_option maxRecDepth 100000 in
theorem tw_352 : (.methodLink "RecipePlans$Rules" 35 ⟨"RecipePlans$Rules", "atLeast", "(JJJJ)Z"⟩ : Cond) ∈ wsAll := List.mem_of_getElem? (i := 352) rfl
set_option maxRecDepth 100000 in
theorem tw_353 : (.static ⟨"RecipePlans$Rules", "atLeast", "(JJJJ)Z"⟩ : Cond) ∈ wsAll := List.mem_of_getElem? (i := 353) rfl
set_option maxRecDepth 100000 in
theorem tw_354 : (.code ⟨"RecipePlans$Rules", "atLeast", "(JJJJ)Z"⟩ prog_5_method_5_code 12 (some .boolean) : Cond) ∈ wsAll := List.mem_of_getElem? (i := 354) rfl
set_option maxRecDepth 100000 in
theorem tw_355 : (.constantLong "RecipePlans$Rules" 39 1048575 : Cond) ∈ wsAll := List.mem_of_getElem? (i := 355) rfl
set_option maxRecDepth 100000 in
theorem tw_356 : (.methodLink "RecipePlans$CutSearch" 89 ⟨"RecipePlans$CutSearch", "add", "(I[J)Z"⟩ : Cond) ∈ wsAll := List.mem_of_getElem? (i := 356) rfl
set_option maxRecDepth 100000 in
theorem tw_357 : (.instanceMethod ⟨"RecipePlans$CutSearch", "add", "(I[J)Z"⟩ : Cond) ∈ wsAll := List.mem_of_getElem? (i := 357) rfl
set_option maxRecDepth 100000 in
theorem tw_358 : (.code ⟨"RecipePlans$CutSearch", "add", "(I[J)Z"⟩ prog_2_method_6_code 8 (some .boolean) : Cond) ∈ wsAll := List.mem_of_getElem? (i := 358) rfl
set_option maxRecDepth 100000 in
theorem tw_359 : (.methodLink "RecipePlans$CutSearch" 120 ⟨"RecipePlans$CutSearch", "expand", "([J[JI)J"⟩ : Cond) ∈ wsAll := List.mem_of_getElem? (i := 359) rfl
set_option maxRecDepth 100000 in
theorem tw_360 : (.static ⟨"RecipePlans$CutSearch", "expand", "([J[JI)J"⟩ : Cond) ∈ wsAll := List.mem_of_getElem? (i := 360) rfl
set_option maxRecDepth 100000 in
theorem tw_361 : (.code ⟨"RecipePlans$CutSearch", "expand", "([J[JI)J"⟩ prog_2_method_7_code 8 (some .long) : Cond) ∈ wsAll := List.mem_of_getElem? (i := 361) rfl
set_option maxRecDepth 100000 in
theorem tw_362 : (.methodLink "RecipePlans$CutSearch" 101 ⟨"RecipePlans$CutSearch", "addBoth", "(II)Z"⟩ : Cond) ∈ wsAll := List.mem_of_getElem? (i := 362) rfl
set_option maxRecDepth 100000 in
theorem tw_363 : (.instanceMethod ⟨"RecipePlans$CutSearch", "addBoth", "(II)Z"⟩ : Cond) ∈ wsAll := List.mem_of_getElem? (i := 363) rfl
set_option maxRecDepth 100000 in
theorem tw_364 : (.code ⟨"RecipePlans$CutSearch", "addBoth", "(II)Z"⟩ prog_2_method_5_code 3 (some .boolean) : Cond) ∈ wsAll := List.mem_of_getElem? (i := 364) rfl
set_option maxRecDepth 100000 in
theorem tw_365 : (.methodLink "RecipePlans" 124 ⟨"RecipePlans$WholeSearch", "search", "(Z)V"⟩ : Cond) ∈ wsAll := List.mem_of_getElem? (i := 365) rfl
set_option maxRecDepth 100000 in
theorem tw_366 : (.instanceMethod ⟨"RecipePlans$WholeSearch", "search", "(Z)V"⟩ : Cond) ∈ wsAll := List.mem_of_getElem? (i := 366) rfl
set_option maxRecDepth 100000 in
theorem tw_367 : (.selects "RecipePlans$WholeSearch" ⟨"RecipePlans$WholeSearch", "search", "(Z)V"⟩ ⟨"RecipePlans$WholeSearch", "search", "(Z)V"⟩ : Cond) ∈ wsAll := List.mem_of_getElem? (i := 367) rfl
set_option maxRecDepth 100000 in
theorem tw_368 : (.code ⟨"RecipePlans$WholeSearch", "search", "(Z)V"⟩ prog_7_method_2_code 2 none : Cond) ∈ wsAll := List.mem_of_getElem? (i := 368) rfl
set_option maxRecDepth 100000 in
theorem tw_369 : (.methodLink "RecipePlans$WholeSearch" 46 ⟨"RecipePlans$WholeSearch", "begin", "()V"⟩ : Cond) ∈ wsAll := List.mem_of_getElem? (i := 369) rfl
set_option maxRecDepth 100000 in
theorem tw_370 : (.instanceMethod ⟨"RecipePlans$WholeSearch", "begin", "()V"⟩ : Cond) ∈ wsAll := List.mem_of_getElem? (i := 370) rfl
set_option maxRecDepth 100000 in
theorem tw_371 : (.code ⟨"RecipePlans$WholeSearch", "begin", "()V"⟩ prog_7_method_3_code 3 none : Cond) ∈ wsAll := List.mem_of_getElem? (i := 371) rfl
set_option maxRecDepth 100000 in
theorem tw_372 : (.methodLink "RecipePlans$WholeSearch" 70 ⟨"java/lang/Math", "min", "(JJ)J"⟩ : Cond) ∈ wsAll := List.mem_of_getElem? (i := 372) rfl
set_option maxRecDepth 100000 in
theorem tw_373 : (.static ⟨"java/lang/Math", "min", "(JJ)J"⟩ : Cond) ∈ wsAll := List.mem_of_getElem? (i := 373) rfl
set_option maxRecDepth 100000 in
theorem tw_374 : (.code ⟨"java/lang/Math", "min", "(JJ)J"⟩ prog_11_method_70_code 4 (some .long) : Cond) ∈ wsAll := List.mem_of_getElem? (i := 374) rfl
set_option maxRecDepth 100000 in
theorem tw_375 : (.methodLink "RecipePlans$WholeSearch" 76 ⟨"java/lang/Math", "max", "(JJ)J"⟩ : Cond) ∈ wsAll := List.mem_of_getElem? (i := 375) rfl
set_option maxRecDepth 100000 in
theorem tw_376 : (.static ⟨"java/lang/Math", "max", "(JJ)J"⟩ : Cond) ∈ wsAll := List.mem_of_getElem? (i := 376) rfl
set_option maxRecDepth 100000 in
theorem tw_377 : (.code ⟨"java/lang/Math", "max", "(JJ)J"⟩ prog_11_method_66_code 4 (some .long) : Cond) ∈ wsAll := List.mem_of_getElem? (i := 377) rfl
set_option maxRecDepth 100000 in
theorem tw_378 : (.methodLink "RecipePlans$WholeSearch" 49 ⟨"RecipePlans$WholeSearch", "place", "(IJ)V"⟩ : Cond) ∈ wsAll := List.mem_of_getElem? (i := 378) rfl
set_option maxRecDepth 100000 in
theorem tw_379 : (.instanceMethod ⟨"RecipePlans$WholeSearch", "place", "(IJ)V"⟩ : Cond) ∈ wsAll := List.mem_of_getElem? (i := 379) rfl
set_option maxRecDepth 100000 in
theorem tw_380 : (.code ⟨"RecipePlans$WholeSearch", "place", "(IJ)V"⟩ prog_7_method_4_code 7 none : Cond) ∈ wsAll := List.mem_of_getElem? (i := 380) rfl
set_option maxRecDepth 100000 in
theorem tw_381 : (.methodLink "RecipePlans$WholeSearch" 79 ⟨"RecipePlans$WholeSearch", "mostLoads", "(I)I"⟩ : Cond) ∈ wsAll := List.mem_of_getElem? (i := 381) rfl
set_option maxRecDepth 100000 in
theorem tw_382 : (.instanceMethod ⟨"RecipePlans$WholeSearch", "mostLoads", "(I)I"⟩ : Cond) ∈ wsAll := List.mem_of_getElem? (i := 382) rfl
set_option maxRecDepth 100000 in
theorem tw_383 : (.code ⟨"RecipePlans$WholeSearch", "mostLoads", "(I)I"⟩ prog_7_method_7_code 9 (some .int) : Cond) ∈ wsAll := List.mem_of_getElem? (i := 383) rfl
set_option maxRecDepth 100000 in
theorem tw_384 : (.methodLink "RecipePlans$WholeSearch" 94 ⟨"java/lang/Math", "floorDiv", "(JJ)J"⟩ : Cond) ∈ wsAll := List.mem_of_getElem? (i := 384) rfl
set_option maxRecDepth 100000 in
theorem tw_385 : (.constantLong "RecipePlans$WholeSearch" 97 (-1) : Cond) ∈ wsAll := List.mem_of_getElem? (i := 385) rfl
set_option maxRecDepth 100000 in
theorem tw_386 : (.methodLink "RecipePlans$WholeSearch" 83 ⟨"RecipePlans$WholeSearch", "fewestLoads", "(I)I"⟩ : Cond) ∈ wsAll := List.mem_of_getElem? (i := 386) rfl
set_option maxRecDepth 100000 in
theorem tw_387 : (.instanceMethod ⟨"RecipePlans$WholeSearch", "fewestLoads", "(I)I"⟩ : Cond) ∈ wsAll := List.mem_of_getElem? (i := 387) rfl
set_option maxRecDepth 100000 in
theorem tw_388 : (.code ⟨"RecipePlans$WholeSearch", "fewestLoads", "(I)I"⟩ prog_7_method_8_code 9 (some .int) : Cond) ∈ wsAll := List.mem_of_getElem? (i := 388) rfl
set_option maxRecDepth 100000 in
theorem tw_389 : (.constantLong "RecipePlans$WholeSearch" 99 10 : Cond) ∈ wsAll := List.mem_of_getElem? (i := 389) rfl
set_option maxRecDepth 100000 in
theorem tw_390 : (.methodLink "RecipePlans$WholeSearch" 86 ⟨"RecipePlans$WholeSearch", "take", "(IIJ)V"⟩ : Cond) ∈ wsAll := List.mem_of_getElem? (i := 390) rfl
set_option maxRecDepth 100000 in
theorem tw_391 : (.instanceMethod ⟨"RecipePlans$WholeSearch", "take", "(IIJ)V"⟩ : Cond) ∈ wsAll := List.mem_of_getElem? (i := 391) rfl
set_option maxRecDepth 100000 in
theorem tw_392 : (.code ⟨"RecipePlans$WholeSearch", "take", "(IIJ)V"⟩ prog_7_method_5_code 6 none : Cond) ∈ wsAll := List.mem_of_getElem? (i := 392) rfl
set_option maxRecDepth 100000 in
theorem tw_393 : (.methodLink "RecipePlans$WholeSearch" 90 ⟨"RecipePlans$WholeSearch", "offer", "(J)V"⟩ : Cond) ∈ wsAll := List.mem_of_getElem? (i := 393) rfl
set_option maxRecDepth 100000 in
theorem tw_394 : (.instanceMethod ⟨"RecipePlans$WholeSearch", "offer", "(J)V"⟩ : Cond) ∈ wsAll := List.mem_of_getElem? (i := 394) rfl
set_option maxRecDepth 100000 in
theorem tw_395 : (.code ⟨"RecipePlans$WholeSearch", "offer", "(J)V"⟩ prog_7_method_6_code 4 none : Cond) ∈ wsAll := List.mem_of_getElem? (i := 395) rfl
set_option maxRecDepth 100000 in
theorem tw_396 : (.methodLink "RecipePlans" 127 ⟨"RecipePlans$Found", "takeCut", "(LRecipePlans$CutSearch;)V"⟩ : Cond) ∈ wsAll := List.mem_of_getElem? (i := 396) rfl
set_option maxRecDepth 100000 in
theorem tw_397 : (.instanceMethod ⟨"RecipePlans$Found", "takeCut", "(LRecipePlans$CutSearch;)V"⟩ : Cond) ∈ wsAll := List.mem_of_getElem? (i := 397) rfl
set_option maxRecDepth 100000 in
theorem tw_398 : (.selects "RecipePlans$Found" ⟨"RecipePlans$Found", "takeCut", "(LRecipePlans$CutSearch;)V"⟩ ⟨"RecipePlans$Found", "takeCut", "(LRecipePlans$CutSearch;)V"⟩ : Cond) ∈ wsAll := List.mem_of_getElem? (i := 398) rfl
set_option maxRecDepth 100000 in
theorem tw_399 : (.code ⟨"RecipePlans$Found", "takeCut", "(LRecipePlans$CutSearch;)V"⟩ prog_3_method_2_code 4 none : Cond) ∈ wsAll := List.mem_of_getElem? (i := 399) rfl
set_option maxRecDepth 100000 in
theorem tw_400 : (.methodLink "RecipePlans$Found" 15 ⟨"RecipePlans$CutSearch", "commonDivisor", "()J"⟩ : Cond) ∈ wsAll := List.mem_of_getElem? (i := 400) rfl
set_option maxRecDepth 100000 in
theorem tw_401 : (.instanceMethod ⟨"RecipePlans$CutSearch", "commonDivisor", "()J"⟩ : Cond) ∈ wsAll := List.mem_of_getElem? (i := 401) rfl
set_option maxRecDepth 100000 in
theorem tw_402 : (.selects "RecipePlans$CutSearch" ⟨"RecipePlans$CutSearch", "commonDivisor", "()J"⟩ ⟨"RecipePlans$CutSearch", "commonDivisor", "()J"⟩ : Cond) ∈ wsAll := List.mem_of_getElem? (i := 402) rfl
set_option maxRecDepth 100000 in
theorem tw_403 : (.code ⟨"RecipePlans$CutSearch", "commonDivisor", "()J"⟩ prog_2_method_13_code 8 (some .long) : Cond) ∈ wsAll := List.mem_of_getElem? (i := 403) rfl
set_option maxRecDepth 100000 in
theorem tw_404 : (.methodLink "RecipePlans$CutSearch" 174 ⟨"java/lang/Math", "abs", "(J)J"⟩ : Cond) ∈ wsAll := List.mem_of_getElem? (i := 404) rfl
set_option maxRecDepth 100000 in
theorem tw_405 : (.static ⟨"java/lang/Math", "abs", "(J)J"⟩ : Cond) ∈ wsAll := List.mem_of_getElem? (i := 405) rfl
set_option maxRecDepth 100000 in
theorem tw_406 : (.code ⟨"java/lang/Math", "abs", "(J)J"⟩ prog_11_method_61_code 2 (some .long) : Cond) ∈ wsAll := List.mem_of_getElem? (i := 406) rfl
set_option maxRecDepth 100000 in
theorem tw_407 : (.methodLink "RecipePlans$Found" 37 ⟨"RecipePlans$CutSearch", "fewestClashing", "()I"⟩ : Cond) ∈ wsAll := List.mem_of_getElem? (i := 407) rfl
set_option maxRecDepth 100000 in
theorem tw_408 : (.instanceMethod ⟨"RecipePlans$CutSearch", "fewestClashing", "()I"⟩ : Cond) ∈ wsAll := List.mem_of_getElem? (i := 408) rfl
set_option maxRecDepth 100000 in
theorem tw_409 : (.selects "RecipePlans$CutSearch" ⟨"RecipePlans$CutSearch", "fewestClashing", "()I"⟩ ⟨"RecipePlans$CutSearch", "fewestClashing", "()I"⟩ : Cond) ∈ wsAll := List.mem_of_getElem? (i := 409) rfl
set_option maxRecDepth 100000 in
theorem tw_410 : (.code ⟨"RecipePlans$CutSearch", "fewestClashing", "()I"⟩ prog_2_method_14_code 4 (some .int) : Cond) ∈ wsAll := List.mem_of_getElem? (i := 410) rfl
set_option maxRecDepth 100000 in
theorem tw_411 : (.methodLink "RecipePlans$CutSearch" 181 ⟨"RecipePlans$CutSearch", "allBreak", "(I)Z"⟩ : Cond) ∈ wsAll := List.mem_of_getElem? (i := 411) rfl
set_option maxRecDepth 100000 in
theorem tw_412 : (.instanceMethod ⟨"RecipePlans$CutSearch", "allBreak", "(I)Z"⟩ : Cond) ∈ wsAll := List.mem_of_getElem? (i := 412) rfl
set_option maxRecDepth 100000 in
theorem tw_413 : (.code ⟨"RecipePlans$CutSearch", "allBreak", "(I)Z"⟩ prog_2_method_15_code 3 (some .boolean) : Cond) ∈ wsAll := List.mem_of_getElem? (i := 413) rfl
set_option maxRecDepth 100000 in
theorem tw_414 : (.methodLink "RecipePlans" 131 ⟨"RecipePlans$Found", "takeWhole", "(LRecipePlans$WholeSearch;I)V"⟩ : Cond) ∈ wsAll := List.mem_of_getElem? (i := 414) rfl
set_option maxRecDepth 100000 in
theorem tw_415 : (.instanceMethod ⟨"RecipePlans$Found", "takeWhole", "(LRecipePlans$WholeSearch;I)V"⟩ : Cond) ∈ wsAll := List.mem_of_getElem? (i := 415) rfl
set_option maxRecDepth 100000 in
theorem tw_416 : (.selects "RecipePlans$Found" ⟨"RecipePlans$Found", "takeWhole", "(LRecipePlans$WholeSearch;I)V"⟩ ⟨"RecipePlans$Found", "takeWhole", "(LRecipePlans$WholeSearch;I)V"⟩ : Cond) ∈ wsAll := List.mem_of_getElem? (i := 416) rfl
set_option maxRecDepth 100000 in
theorem tw_417 : (.code ⟨"RecipePlans$Found", "takeWhole", "(LRecipePlans$WholeSearch;I)V"⟩ prog_3_method_3_code 4 none : Cond) ∈ wsAll := List.mem_of_getElem? (i := 417) rfl
set_option maxRecDepth 100000 in
theorem tw_426 : (.constantLong "RecipePlans" 150 (-9223372036854775808) : Cond) ∈ wsAll := List.mem_of_getElem? (i := 426) rfl
set_option maxRecDepth 100000 in
theorem tw_435 : (.methodLink "RecipePlans" 164 ⟨"java/lang/Integer", "bitCount", "(I)I"⟩ : Cond) ∈ wsAll := List.mem_of_getElem? (i := 435) rfl
set_option maxRecDepth 100000 in
theorem tw_440 : (.methodLink "RecipePlans" 170 ⟨"RecipePlans", "hasBit", "(II)Z"⟩ : Cond) ∈ wsAll := List.mem_of_getElem? (i := 440) rfl
set_option maxRecDepth 100000 in
theorem tw_445 : (.methodLink "RecipePlans" 174 ⟨"RecipePlans$Lots", "hold", "([J[J)V"⟩ : Cond) ∈ wsAll := List.mem_of_getElem? (i := 445) rfl
set_option maxRecDepth 100000 in
theorem tw_446 : (.methodLink "RecipePlans" 178 ⟨"RecipePlans$Rules", "keeps", "(I[J)Z"⟩ : Cond) ∈ wsAll := List.mem_of_getElem? (i := 446) rfl
set_option maxRecDepth 100000 in
theorem tw_452 : (.methodLink "RecipePlansModel" 1 ⟨"java/lang/Object", "<init>", "()V"⟩ : Cond) ∈ wsAll := List.mem_of_getElem? (i := 452) rfl
set_option maxRecDepth 100000 in
theorem tw_453 : (.fieldLink "RecipePlansModel" 64 "RecipePlansModel" "lots" "I" : Cond) ∈ wsAll := List.mem_of_getElem? (i := 453) rfl
set_option maxRecDepth 100000 in
theorem tw_454 : (.fieldLink "RecipePlansModel" 7 "RecipePlansModel" "stocks" "[I" : Cond) ∈ wsAll := List.mem_of_getElem? (i := 454) rfl
set_option maxRecDepth 100000 in
theorem tw_455 : (.fieldLink "RecipePlansModel" 13 "RecipePlansModel" "cents" "[I" : Cond) ∈ wsAll := List.mem_of_getElem? (i := 455) rfl
set_option maxRecDepth 100000 in
theorem tw_456 : (.fieldLink "RecipePlansModel" 16 "RecipePlansModel" "amounts" "[I" : Cond) ∈ wsAll := List.mem_of_getElem? (i := 456) rfl
set_option maxRecDepth 100000 in
theorem tw_457 : (.fieldLink "RecipePlansModel" 19 "RecipePlansModel" "told" "[Z" : Cond) ∈ wsAll := List.mem_of_getElem? (i := 457) rfl
set_option maxRecDepth 100000 in
theorem tw_458 : (.fieldLink "RecipePlansModel" 23 "RecipePlansModel" "lows" "[I" : Cond) ∈ wsAll := List.mem_of_getElem? (i := 458) rfl
set_option maxRecDepth 100000 in
theorem tw_459 : (.fieldLink "RecipePlansModel" 26 "RecipePlansModel" "highs" "[I" : Cond) ∈ wsAll := List.mem_of_getElem? (i := 459) rfl
set_option maxRecDepth 100000 in
theorem tw_460 : (.fieldLink "RecipePlansModel" 29 "RecipePlansModel" "overs" "[I" : Cond) ∈ wsAll := List.mem_of_getElem? (i := 460) rfl
set_option maxRecDepth 100000 in
theorem tw_461 : (.fieldLink "RecipePlansModel" 32 "RecipePlansModel" "firsts" "[I" : Cond) ∈ wsAll := List.mem_of_getElem? (i := 461) rfl
set_option maxRecDepth 100000 in
theorem tw_462 : (.fieldLink "RecipePlansModel" 35 "RecipePlansModel" "seconds" "[I" : Cond) ∈ wsAll := List.mem_of_getElem? (i := 462) rfl
set_option maxRecDepth 100000 in
theorem tw_463 : (.fieldLink "RecipePlansModel" 38 "RecipePlansModel" "found" "I" : Cond) ∈ wsAll := List.mem_of_getElem? (i := 463) rfl
set_option maxRecDepth 100000 in
theorem tw_464 : (.fieldLink "RecipePlansModel" 176 "RecipePlansModel" "foundLots" "I" : Cond) ∈ wsAll := List.mem_of_getElem? (i := 464) rfl
set_option maxRecDepth 100000 in
theorem tw_465 : (.fieldLink "RecipePlansModel" 42 "RecipePlansModel" "best" "[I" : Cond) ∈ wsAll := List.mem_of_getElem? (i := 465) rfl
set_option maxRecDepth 100000 in
theorem tw_466 : (.fieldLink "RecipePlansModel" 106 "RecipePlansModel" "bestCost" "J" : Cond) ∈ wsAll := List.mem_of_getElem? (i := 466) rfl
set_option maxRecDepth 100000 in
theorem tw_467 : (.fieldLink "RecipePlansModel" 148 "RecipePlansModel" "cutOver" "J" : Cond) ∈ wsAll := List.mem_of_getElem? (i := 467) rfl
set_option maxRecDepth 100000 in
theorem tw_468 : (.fieldLink "RecipePlansModel" 145 "RecipePlansModel" "cutUnder" "J" : Cond) ∈ wsAll := List.mem_of_getElem? (i := 468) rfl
set_option maxRecDepth 100000 in
theorem tw_469 : (.fieldLink "RecipePlansModel" 158 "RecipePlansModel" "clashSet" "I" : Cond) ∈ wsAll := List.mem_of_getElem? (i := 469) rfl
set_option maxRecDepth 100000 in
theorem tw_470 : (.fieldLink "RecipePlansModel" 45 "RecipePlansModel" "mix" "[I" : Cond) ∈ wsAll := List.mem_of_getElem? (i := 470) rfl
set_option maxRecDepth 100000 in
theorem tw_471 : (.fieldLink "RecipePlansModel" 48 "RecipePlansModel" "limits" "[I" : Cond) ∈ wsAll := List.mem_of_getElem? (i := 471) rfl
set_option maxRecDepth 100000 in
theorem tw_472 : (.fieldLink "RecipePlansModel" 51 "RecipePlansModel" "isLimit" "[Z" : Cond) ∈ wsAll := List.mem_of_getElem? (i := 472) rfl
set_option maxRecDepth 100000 in
theorem tw_473 : (.fieldLink "RecipePlansModel" 54 "RecipePlansModel" "corner" "[I" : Cond) ∈ wsAll := List.mem_of_getElem? (i := 473) rfl
set_option maxRecDepth 100000 in
theorem tw_474 : (.fieldLink "RecipePlansModel" 57 "RecipePlansModel" "over" "[J" : Cond) ∈ wsAll := List.mem_of_getElem? (i := 474) rfl
set_option maxRecDepth 100000 in
theorem tw_475 : (.fieldLink "RecipePlansModel" 126 "RecipePlansModel" "under" "J" : Cond) ∈ wsAll := List.mem_of_getElem? (i := 475) rfl
set_option maxRecDepth 100000 in
theorem tw_476 : (.fieldLink "RecipePlansModel" 61 "RecipePlansModel" "kept" "[Z" : Cond) ∈ wsAll := List.mem_of_getElem? (i := 476) rfl
set_option maxRecDepth 100000 in
theorem tw_505 : (.constantLong "RecipePlansModel" 67 9 : Cond) ∈ wsAll := List.mem_of_getElem? (i := 505) rfl
set_option maxRecDepth 100000 in
theorem tw_506 : (.methodLink "RecipePlansModel" 69 ⟨"RecipePlansModel", "isIn", "(JJJ)Z"⟩ : Cond) ∈ wsAll := List.mem_of_getElem? (i := 506) rfl
set_option maxRecDepth 100000 in
theorem tw_507 : (.static ⟨"RecipePlansModel", "isIn", "(JJJ)Z"⟩ : Cond) ∈ wsAll := List.mem_of_getElem? (i := 507) rfl
set_option maxRecDepth 100000 in
theorem tw_508 : (.code ⟨"RecipePlansModel", "isIn", "(JJJ)Z"⟩ prog_9_method_3_code 6 (some .boolean) : Cond) ∈ wsAll := List.mem_of_getElem? (i := 508) rfl
set_option maxRecDepth 100000 in
theorem tw_509 : (.constantLong "RecipePlansModel" 73 (-1000) : Cond) ∈ wsAll := List.mem_of_getElem? (i := 509) rfl
set_option maxRecDepth 100000 in
theorem tw_510 : (.constantLong "RecipePlansModel" 75 1000 : Cond) ∈ wsAll := List.mem_of_getElem? (i := 510) rfl
set_option maxRecDepth 100000 in
theorem tw_515 : (.methodLink "RecipePlansModel" 77 ⟨"RecipePlansModel", "isWhat", "(I)Z"⟩ : Cond) ∈ wsAll := List.mem_of_getElem? (i := 515) rfl
set_option maxRecDepth 100000 in
theorem tw_516 : (.static ⟨"RecipePlansModel", "isWhat", "(I)Z"⟩ : Cond) ∈ wsAll := List.mem_of_getElem? (i := 516) rfl
set_option maxRecDepth 100000 in
theorem tw_517 : (.code ⟨"RecipePlansModel", "isWhat", "(I)Z"⟩ prog_9_method_4_code 1 (some .boolean) : Cond) ∈ wsAll := List.mem_of_getElem? (i := 517) rfl
set_option maxRecDepth 100000 in
theorem tw_518 : (.constantLong "RecipePlansModel" 81 (-100) : Cond) ∈ wsAll := List.mem_of_getElem? (i := 518) rfl
set_option maxRecDepth 100000 in
theorem tw_519 : (.constantLong "RecipePlansModel" 83 100 : Cond) ∈ wsAll := List.mem_of_getElem? (i := 519) rfl
set_option maxRecDepth 100000 in
theorem tw_524 : (.constantLong "RecipePlansModel" 85 (-100000) : Cond) ∈ wsAll := List.mem_of_getElem? (i := 524) rfl
set_option maxRecDepth 100000 in
theorem tw_525 : (.constantLong "RecipePlansModel" 87 100000 : Cond) ∈ wsAll := List.mem_of_getElem? (i := 525) rfl
set_option maxRecDepth 100000 in
theorem tw_526 : (.methodLink "RecipePlansModel" 89 ⟨"RecipePlansModel", "tell", "(III)Z"⟩ : Cond) ∈ wsAll := List.mem_of_getElem? (i := 526) rfl
set_option maxRecDepth 100000 in
theorem tw_527 : (.instanceMethod ⟨"RecipePlansModel", "tell", "(III)Z"⟩ : Cond) ∈ wsAll := List.mem_of_getElem? (i := 527) rfl
set_option maxRecDepth 100000 in
theorem tw_528 : (.code ⟨"RecipePlansModel", "tell", "(III)Z"⟩ prog_9_method_7_code 4 (some .boolean) : Cond) ∈ wsAll := List.mem_of_getElem? (i := 528) rfl
set_option maxRecDepth 100000 in
theorem tw_537 : (.constantLong "RecipePlansModel" 93 36 : Cond) ∈ wsAll := List.mem_of_getElem? (i := 537) rfl
set_option maxRecDepth 100000 in
theorem tw_546 : (.methodLink "RecipePlansModel" 102 ⟨"RecipePlansModel", "firstBroken", "()I"⟩ : Cond) ∈ wsAll := List.mem_of_getElem? (i := 546) rfl
set_option maxRecDepth 100000 in
theorem tw_547 : (.instanceMethod ⟨"RecipePlansModel", "firstBroken", "()I"⟩ : Cond) ∈ wsAll := List.mem_of_getElem? (i := 547) rfl
set_option maxRecDepth 100000 in
theorem tw_548 : (.code ⟨"RecipePlansModel", "firstBroken", "()I"⟩ prog_9_method_14_code 2 (some .int) : Cond) ∈ wsAll := List.mem_of_getElem? (i := 548) rfl
set_option maxRecDepth 100000 in
theorem tw_549 : (.methodLink "RecipePlansModel" 99 ⟨"RecipePlansModel", "keeps", "(I)Z"⟩ : Cond) ∈ wsAll := List.mem_of_getElem? (i := 549) rfl
set_option maxRecDepth 100000 in
theorem tw_550 : (.instanceMethod ⟨"RecipePlansModel", "keeps", "(I)Z"⟩ : Cond) ∈ wsAll := List.mem_of_getElem? (i := 550) rfl
set_option maxRecDepth 100000 in
theorem tw_551 : (.code ⟨"RecipePlansModel", "keeps", "(I)Z"⟩ prog_9_method_13_code 6 (some .boolean) : Cond) ∈ wsAll := List.mem_of_getElem? (i := 551) rfl
set_option maxRecDepth 100000 in
theorem tw_552 : (.methodLink "RecipePlansModel" 95 ⟨"RecipePlansModel", "holds", "(I)I"⟩ : Cond) ∈ wsAll := List.mem_of_getElem? (i := 552) rfl
set_option maxRecDepth 100000 in
theorem tw_553 : (.instanceMethod ⟨"RecipePlansModel", "holds", "(I)I"⟩ : Cond) ∈ wsAll := List.mem_of_getElem? (i := 553) rfl
set_option maxRecDepth 100000 in
theorem tw_554 : (.code ⟨"RecipePlansModel", "holds", "(I)I"⟩ prog_9_method_12_code 4 (some .int) : Cond) ∈ wsAll := List.mem_of_getElem? (i := 554) rfl
set_option maxRecDepth 100000 in
theorem tw_559 : (.methodLink "RecipePlansModel" 167 ⟨"RecipePlansModel", "findWhole", "()Z"⟩ : Cond) ∈ wsAll := List.mem_of_getElem? (i := 559) rfl
set_option maxRecDepth 100000 in
theorem tw_560 : (.instanceMethod ⟨"RecipePlansModel", "findWhole", "()Z"⟩ : Cond) ∈ wsAll := List.mem_of_getElem? (i := 560) rfl
set_option maxRecDepth 100000 in
theorem tw_561 : (.code ⟨"RecipePlansModel", "findWhole", "()Z"⟩ prog_9_method_16_code 8 (some .boolean) : Cond) ∈ wsAll := List.mem_of_getElem? (i := 561) rfl
set_option maxRecDepth 100000 in
theorem tw_562 : (.methodLink "RecipePlansModel" 170 ⟨"RecipePlansModel", "setLimits", "()V"⟩ : Cond) ∈ wsAll := List.mem_of_getElem? (i := 562) rfl
set_option maxRecDepth 100000 in
theorem tw_563 : (.instanceMethod ⟨"RecipePlansModel", "setLimits", "()V"⟩ : Cond) ∈ wsAll := List.mem_of_getElem? (i := 563) rfl
set_option maxRecDepth 100000 in
theorem tw_564 : (.code ⟨"RecipePlansModel", "setLimits", "()V"⟩ prog_9_method_18_code 5 none : Cond) ∈ wsAll := List.mem_of_getElem? (i := 564) rfl
set_option maxRecDepth 100000 in
theorem tw_565 : (.methodLink "RecipePlansModel" 110 ⟨"RecipePlansModel", "setLimit", "(IIZ)V"⟩ : Cond) ∈ wsAll := List.mem_of_getElem? (i := 565) rfl
set_option maxRecDepth 100000 in
theorem tw_566 : (.instanceMethod ⟨"RecipePlansModel", "setLimit", "(IIZ)V"⟩ : Cond) ∈ wsAll := List.mem_of_getElem? (i := 566) rfl
set_option maxRecDepth 100000 in
theorem tw_567 : (.code ⟨"RecipePlansModel", "setLimit", "(IIZ)V"⟩ prog_9_method_17_code 8 none : Cond) ∈ wsAll := List.mem_of_getElem? (i := 567) rfl
set_option maxRecDepth 100000 in
theorem tw_568 : (.methodLink "RecipePlansModel" 173 ⟨"RecipePlansModel", "lookAtCorners", "()V"⟩ : Cond) ∈ wsAll := List.mem_of_getElem? (i := 568) rfl
set_option maxRecDepth 100000 in
theorem tw_569 : (.instanceMethod ⟨"RecipePlansModel", "lookAtCorners", "()V"⟩ : Cond) ∈ wsAll := List.mem_of_getElem? (i := 569) rfl
set_option maxRecDepth 100000 in
theorem tw_570 : (.code ⟨"RecipePlansModel", "lookAtCorners", "()V"⟩ prog_9_method_28_code 5 none : Cond) ∈ wsAll := List.mem_of_getElem? (i := 570) rfl
set_option maxRecDepth 100000 in
theorem tw_571 : (.methodLink "RecipePlansModel" 155 ⟨"RecipePlansModel", "lookAtCorner", "()V"⟩ : Cond) ∈ wsAll := List.mem_of_getElem? (i := 571) rfl
set_option maxRecDepth 100000 in
theorem tw_572 : (.instanceMethod ⟨"RecipePlansModel", "lookAtCorner", "()V"⟩ : Cond) ∈ wsAll := List.mem_of_getElem? (i := 572) rfl
set_option maxRecDepth 100000 in
theorem tw_573 : (.code ⟨"RecipePlansModel", "lookAtCorner", "()V"⟩ prog_9_method_27_code 6 none : Cond) ∈ wsAll := List.mem_of_getElem? (i := 573) rfl
set_option maxRecDepth 100000 in
theorem tw_574 : (.methodLink "RecipePlansModel" 138 ⟨"RecipePlansModel", "meet", "()Z"⟩ : Cond) ∈ wsAll := List.mem_of_getElem? (i := 574) rfl
set_option maxRecDepth 100000 in
theorem tw_575 : (.instanceMethod ⟨"RecipePlansModel", "meet", "()Z"⟩ : Cond) ∈ wsAll := List.mem_of_getElem? (i := 575) rfl
set_option maxRecDepth 100000 in
theorem tw_576 : (.code ⟨"RecipePlansModel", "meet", "()Z"⟩ prog_9_method_23_code 4 (some .boolean) : Cond) ∈ wsAll := List.mem_of_getElem? (i := 576) rfl
set_option maxRecDepth 100000 in
theorem tw_577 : (.methodLink "RecipePlansModel" 122 ⟨"RecipePlansModel", "determinant", "(I)J"⟩ : Cond) ∈ wsAll := List.mem_of_getElem? (i := 577) rfl
set_option maxRecDepth 100000 in
theorem tw_578 : (.instanceMethod ⟨"RecipePlansModel", "determinant", "(I)J"⟩ : Cond) ∈ wsAll := List.mem_of_getElem? (i := 578) rfl
set_option maxRecDepth 100000 in
theorem tw_579 : (.code ⟨"RecipePlansModel", "determinant", "(I)J"⟩ prog_9_method_21_code 2 (some .long) : Cond) ∈ wsAll := List.mem_of_getElem? (i := 579) rfl
set_option maxRecDepth 100000 in
theorem tw_580 : (.methodLink "RecipePlansModel" 118 ⟨"RecipePlansModel", "minor", "(IIIII)J"⟩ : Cond) ∈ wsAll := List.mem_of_getElem? (i := 580) rfl
set_option maxRecDepth 100000 in
theorem tw_581 : (.instanceMethod ⟨"RecipePlansModel", "minor", "(IIIII)J"⟩ : Cond) ∈ wsAll := List.mem_of_getElem? (i := 581) rfl
set_option maxRecDepth 100000 in
theorem tw_582 : (.code ⟨"RecipePlansModel", "minor", "(IIIII)J"⟩ prog_9_method_20_code 6 (some .long) : Cond) ∈ wsAll := List.mem_of_getElem? (i := 582) rfl
set_option maxRecDepth 100000 in
theorem tw_583 : (.methodLink "RecipePlansModel" 114 ⟨"RecipePlansModel", "at", "(III)J"⟩ : Cond) ∈ wsAll := List.mem_of_getElem? (i := 583) rfl
set_option maxRecDepth 100000 in
theorem tw_584 : (.instanceMethod ⟨"RecipePlansModel", "at", "(III)J"⟩ : Cond) ∈ wsAll := List.mem_of_getElem? (i := 584) rfl
set_option maxRecDepth 100000 in
theorem tw_585 : (.code ⟨"RecipePlansModel", "at", "(III)J"⟩ prog_9_method_19_code 4 (some .long) : Cond) ∈ wsAll := List.mem_of_getElem? (i := 585) rfl
set_option maxRecDepth 100000 in
theorem tw_586 : (.methodLink "RecipePlansModel" 129 ⟨"RecipePlansModel", "common", "(JJ)J"⟩ : Cond) ∈ wsAll := List.mem_of_getElem? (i := 586) rfl
set_option maxRecDepth 100000 in
theorem tw_587 : (.static ⟨"RecipePlansModel", "common", "(JJ)J"⟩ : Cond) ∈ wsAll := List.mem_of_getElem? (i := 587) rfl
set_option maxRecDepth 100000 in
theorem tw_588 : (.code ⟨"RecipePlansModel", "common", "(JJ)J"⟩ prog_9_method_22_code 10 (some .long) : Cond) ∈ wsAll := List.mem_of_getElem? (i := 588) rfl
set_option maxRecDepth 100000 in
theorem tw_589 : (.methodLink "RecipePlansModel" 142 ⟨"RecipePlansModel", "keptRules", "()I"⟩ : Cond) ∈ wsAll := List.mem_of_getElem? (i := 589) rfl
set_option maxRecDepth 100000 in
theorem tw_590 : (.instanceMethod ⟨"RecipePlansModel", "keptRules", "()I"⟩ : Cond) ∈ wsAll := List.mem_of_getElem? (i := 590) rfl
set_option maxRecDepth 100000 in
theorem tw_591 : (.code ⟨"RecipePlansModel", "keptRules", "()I"⟩ prog_9_method_25_code 3 (some .int) : Cond) ∈ wsAll := List.mem_of_getElem? (i := 591) rfl
set_option maxRecDepth 100000 in
theorem tw_592 : (.methodLink "RecipePlansModel" 135 ⟨"RecipePlansModel", "isKept", "(I)Z"⟩ : Cond) ∈ wsAll := List.mem_of_getElem? (i := 592) rfl
set_option maxRecDepth 100000 in
theorem tw_593 : (.instanceMethod ⟨"RecipePlansModel", "isKept", "(I)Z"⟩ : Cond) ∈ wsAll := List.mem_of_getElem? (i := 593) rfl
set_option maxRecDepth 100000 in
theorem tw_594 : (.code ⟨"RecipePlansModel", "isKept", "(I)Z"⟩ prog_9_method_24_code 13 (some .boolean) : Cond) ∈ wsAll := List.mem_of_getElem? (i := 594) rfl
set_option maxRecDepth 100000 in
theorem tw_595 : (.constantLong "RecipePlansModel" 133 2147483648 : Cond) ∈ wsAll := List.mem_of_getElem? (i := 595) rfl
set_option maxRecDepth 100000 in
theorem tw_596 : (.methodLink "RecipePlansModel" 151 ⟨"RecipePlansModel", "isLess", "(JJJJ)Z"⟩ : Cond) ∈ wsAll := List.mem_of_getElem? (i := 596) rfl
set_option maxRecDepth 100000 in
theorem tw_597 : (.static ⟨"RecipePlansModel", "isLess", "(JJJJ)Z"⟩ : Cond) ∈ wsAll := List.mem_of_getElem? (i := 597) rfl
set_option maxRecDepth 100000 in
theorem tw_598 : (.code ⟨"RecipePlansModel", "isLess", "(JJJJ)Z"⟩ prog_9_method_26_code 25 (some .boolean) : Cond) ∈ wsAll := List.mem_of_getElem? (i := 598) rfl
set_option maxRecDepth 100000 in
theorem tw_599 : (.methodLink "RecipePlansModel" 179 ⟨"RecipePlansModel", "findClash", "()V"⟩ : Cond) ∈ wsAll := List.mem_of_getElem? (i := 599) rfl
set_option maxRecDepth 100000 in
theorem tw_600 : (.instanceMethod ⟨"RecipePlansModel", "findClash", "()V"⟩ : Cond) ∈ wsAll := List.mem_of_getElem? (i := 600) rfl
set_option maxRecDepth 100000 in
theorem tw_601 : (.code ⟨"RecipePlansModel", "findClash", "()V"⟩ prog_9_method_31_code 4 none : Cond) ∈ wsAll := List.mem_of_getElem? (i := 601) rfl
set_option maxRecDepth 100000 in
theorem tw_602 : (.methodLink "RecipePlansModel" 161 ⟨"RecipePlansModel", "sizeOf", "(I)I"⟩ : Cond) ∈ wsAll := List.mem_of_getElem? (i := 602) rfl
set_option maxRecDepth 100000 in
theorem tw_603 : (.static ⟨"RecipePlansModel", "sizeOf", "(I)I"⟩ : Cond) ∈ wsAll := List.mem_of_getElem? (i := 603) rfl
set_option maxRecDepth 100000 in
theorem tw_604 : (.code ⟨"RecipePlansModel", "sizeOf", "(I)I"⟩ prog_9_method_30_code 3 (some .int) : Cond) ∈ wsAll := List.mem_of_getElem? (i := 604) rfl
set_option maxRecDepth 100000 in
theorem tw_605 : (.methodLink "RecipePlansModel" 164 ⟨"RecipePlansModel", "canBeKept", "(I)Z"⟩ : Cond) ∈ wsAll := List.mem_of_getElem? (i := 605) rfl
set_option maxRecDepth 100000 in
theorem tw_606 : (.instanceMethod ⟨"RecipePlansModel", "canBeKept", "(I)Z"⟩ : Cond) ∈ wsAll := List.mem_of_getElem? (i := 606) rfl
set_option maxRecDepth 100000 in
theorem tw_607 : (.code ⟨"RecipePlansModel", "canBeKept", "(I)Z"⟩ prog_9_method_29_code 3 (some .boolean) : Cond) ∈ wsAll := List.mem_of_getElem? (i := 607) rfl
set_option maxRecDepth 100000 in
theorem tw_616 : (.constantLong "RecipePlansModel" 182 (-9223372036854775808) : Cond) ∈ wsAll := List.mem_of_getElem? (i := 616) rfl
end
section
def T_RP : u_T := fun k => match k with
  | 0 => ("RecipePlans", "lots", "LRecipePlans$Lots;", true)
  | 1 => ("RecipePlans", "rules", "LRecipePlans$Rules;", true)
  | 2 => ("RecipePlans", "sides", "LRecipePlans$Sides;", true)
  | 3 => ("RecipePlans", "cuts", "LRecipePlans$CutSearch;", true)
  | 4 => ("RecipePlans", "wholes", "LRecipePlans$WholeSearch;", true)
  | 5 => ("RecipePlans", "found", "LRecipePlans$Found;", true)
  | 6 => ("RecipePlans", "point", "[J", true)
  | _ => ("RecipePlans", "held", "[J", true)
def ty_RP : Nat → FieldType := fun k => match k with
  | 0 => .object "RecipePlans$Lots"
  | 1 => .object "RecipePlans$Rules"
  | 2 => .object "RecipePlans$Sides"
  | 3 => .object "RecipePlans$CutSearch"
  | 4 => .object "RecipePlans$WholeSearch"
  | 5 => .object "RecipePlans$Found"
  | 6 => .array .long
  | _ => .array .long
set_option maxRecDepth 100000 in
theorem nm_RP : ∀ a, a < 8 → ∀ b, b < 8 → a ≠ b → (T_RP a).2.1 ≠ (T_RP b).2.1 := by decide +kernel
set_option maxRecDepth 100000 in
theorem tyok_RP : ∀ k, k < 8 → parseFieldDescriptor (T_RP k).2.2.1 = some (ty_RP k) := by decide +kernel
set_option maxRecDepth 100000 in
theorem inT_RP : ∀ w ∈ u_ws "RecipePlans" T_RP 8, w ∈ wsAll := by decide +kernel
def T_Lo : u_T := fun k => match k with
  | 0 => ("RecipePlans$Lots", "count", "I", false)
  | 1 => ("RecipePlans$Lots", "stock", "[I", true)
  | 2 => ("RecipePlans$Lots", "cents", "[J", true)
  | _ => ("RecipePlans$Lots", "forms", "[[J", true)
def ty_Lo : Nat → FieldType := fun k => match k with
  | 0 => .int
  | 1 => .array .int
  | 2 => .array .long
  | _ => .array (.array .long)
set_option maxRecDepth 100000 in
theorem nm_Lo : ∀ a, a < 4 → ∀ b, b < 4 → a ≠ b → (T_Lo a).2.1 ≠ (T_Lo b).2.1 := by decide +kernel
set_option maxRecDepth 100000 in
theorem tyok_Lo : ∀ k, k < 4 → parseFieldDescriptor (T_Lo k).2.2.1 = some (ty_Lo k) := by decide +kernel
set_option maxRecDepth 100000 in
theorem inT_Lo : ∀ w ∈ u_ws "RecipePlans$Lots" T_Lo 4, w ∈ wsAll := by decide +kernel
def T_Ru : u_T := fun k => match k with
  | 0 => ("RecipePlans$Rules", "told", "I", false)
  | 1 => ("RecipePlans$Rules", "first", "[I", true)
  | 2 => ("RecipePlans$Rules", "second", "[I", true)
  | 3 => ("RecipePlans$Rules", "low", "[I", true)
  | 4 => ("RecipePlans$Rules", "high", "[I", true)
  | _ => ("RecipePlans$Rules", "over", "[I", true)
def ty_Ru : Nat → FieldType := fun k => match k with
  | 0 => .int
  | 1 => .array .int
  | 2 => .array .int
  | 3 => .array .int
  | 4 => .array .int
  | _ => .array .int
set_option maxRecDepth 100000 in
theorem nm_Ru : ∀ a, a < 6 → ∀ b, b < 6 → a ≠ b → (T_Ru a).2.1 ≠ (T_Ru b).2.1 := by decide +kernel
set_option maxRecDepth 100000 in
theorem tyok_Ru : ∀ k, k < 6 → parseFieldDescriptor (T_Ru k).2.2.1 = some (ty_Ru k) := by decide +kernel
set_option maxRecDepth 100000 in
theorem inT_Ru : ∀ w ∈ u_ws "RecipePlans$Rules" T_Ru 6, w ∈ wsAll := by decide +kernel
def T_Si : u_T := fun k => match k with
  | 0 => ("RecipePlans$Sides", "count", "I", false)
  | 1 => ("RecipePlans$Sides", "rule", "[I", true)
  | _ => ("RecipePlans$Sides", "row", "[[J", true)
def ty_Si : Nat → FieldType := fun k => match k with
  | 0 => .int
  | 1 => .array .int
  | _ => .array (.array .long)
set_option maxRecDepth 100000 in
theorem nm_Si : ∀ a, a < 3 → ∀ b, b < 3 → a ≠ b → (T_Si a).2.1 ≠ (T_Si b).2.1 := by decide +kernel
set_option maxRecDepth 100000 in
theorem tyok_Si : ∀ k, k < 3 → parseFieldDescriptor (T_Si k).2.2.1 = some (ty_Si k) := by decide +kernel
set_option maxRecDepth 100000 in
theorem inT_Si : ∀ w ∈ u_ws "RecipePlans$Sides" T_Si 3, w ∈ wsAll := by decide +kernel
def T_CS : u_T := fun k => match k with
  | 0 => ("RecipePlans$CutSearch", "lots", "LRecipePlans$Lots;", true)
  | 1 => ("RecipePlans$CutSearch", "rules", "LRecipePlans$Rules;", true)
  | 2 => ("RecipePlans$CutSearch", "sides", "LRecipePlans$Sides;", true)
  | 3 => ("RecipePlans$CutSearch", "minors", "[[J", true)
  | 4 => ("RecipePlans$CutSearch", "point", "[J", true)
  | 5 => ("RecipePlans$CutSearch", "held", "[J", true)
  | 6 => ("RecipePlans$CutSearch", "seen", "[Z", true)
  | 7 => ("RecipePlans$CutSearch", "breaks", "[I", true)
  | 8 => ("RecipePlans$CutSearch", "breakCount", "I", false)
  | 9 => ("RecipePlans$CutSearch", "open", "I", false)
  | 10 => ("RecipePlans$CutSearch", "suits", "Z", false)
  | 11 => ("RecipePlans$CutSearch", "above", "J", false)
  | _ => ("RecipePlans$CutSearch", "below", "J", false)
def ty_CS : Nat → FieldType := fun k => match k with
  | 0 => .object "RecipePlans$Lots"
  | 1 => .object "RecipePlans$Rules"
  | 2 => .object "RecipePlans$Sides"
  | 3 => .array (.array .long)
  | 4 => .array .long
  | 5 => .array .long
  | 6 => .array .boolean
  | 7 => .array .int
  | 8 => .int
  | 9 => .int
  | 10 => .boolean
  | 11 => .long
  | _ => .long
set_option maxRecDepth 100000 in
theorem nm_CS : ∀ a, a < 13 → ∀ b, b < 13 → a ≠ b → (T_CS a).2.1 ≠ (T_CS b).2.1 := by decide +kernel
set_option maxRecDepth 100000 in
theorem tyok_CS : ∀ k, k < 13 → parseFieldDescriptor (T_CS k).2.2.1 = some (ty_CS k) := by decide +kernel
set_option maxRecDepth 100000 in
theorem inT_CS : ∀ w ∈ u_ws "RecipePlans$CutSearch" T_CS 13, w ∈ wsAll := by decide +kernel
def T_WS : u_T := fun k => match k with
  | 0 => ("RecipePlans$WholeSearch", "lots", "LRecipePlans$Lots;", true)
  | 1 => ("RecipePlans$WholeSearch", "sides", "LRecipePlans$Sides;", true)
  | 2 => ("RecipePlans$WholeSearch", "value", "[[J", true)
  | 3 => ("RecipePlans$WholeSearch", "reach", "[[J", true)
  | 4 => ("RecipePlans$WholeSearch", "least", "[J", true)
  | 5 => ("RecipePlans$WholeSearch", "taken", "[I", true)
  | 6 => ("RecipePlans$WholeSearch", "suits", "Z", false)
  | 7 => ("RecipePlans$WholeSearch", "total", "J", false)
  | _ => ("RecipePlans$WholeSearch", "mix", "[I", true)
def ty_WS : Nat → FieldType := fun k => match k with
  | 0 => .object "RecipePlans$Lots"
  | 1 => .object "RecipePlans$Sides"
  | 2 => .array (.array .long)
  | 3 => .array (.array .long)
  | 4 => .array .long
  | 5 => .array .int
  | 6 => .boolean
  | 7 => .long
  | _ => .array .int
set_option maxRecDepth 100000 in
theorem nm_WS : ∀ a, a < 9 → ∀ b, b < 9 → a ≠ b → (T_WS a).2.1 ≠ (T_WS b).2.1 := by decide +kernel
set_option maxRecDepth 100000 in
theorem tyok_WS : ∀ k, k < 9 → parseFieldDescriptor (T_WS k).2.2.1 = some (ty_WS k) := by decide +kernel
set_option maxRecDepth 100000 in
theorem inT_WS : ∀ w ∈ u_ws "RecipePlans$WholeSearch" T_WS 9, w ∈ wsAll := by decide +kernel
def T_Fo : u_T := fun k => match k with
  | 0 => ("RecipePlans$Found", "whole", "Z", false)
  | 1 => ("RecipePlans$Found", "lots", "I", false)
  | 2 => ("RecipePlans$Found", "mix", "[I", true)
  | 3 => ("RecipePlans$Found", "total", "J", false)
  | 4 => ("RecipePlans$Found", "cuttable", "Z", false)
  | 5 => ("RecipePlans$Found", "above", "J", false)
  | 6 => ("RecipePlans$Found", "below", "J", false)
  | _ => ("RecipePlans$Found", "clashing", "I", false)
def ty_Fo : Nat → FieldType := fun k => match k with
  | 0 => .boolean
  | 1 => .int
  | 2 => .array .int
  | 3 => .long
  | 4 => .boolean
  | 5 => .long
  | 6 => .long
  | _ => .int
set_option maxRecDepth 100000 in
theorem nm_Fo : ∀ a, a < 8 → ∀ b, b < 8 → a ≠ b → (T_Fo a).2.1 ≠ (T_Fo b).2.1 := by decide +kernel
set_option maxRecDepth 100000 in
theorem tyok_Fo : ∀ k, k < 8 → parseFieldDescriptor (T_Fo k).2.2.1 = some (ty_Fo k) := by decide +kernel
set_option maxRecDepth 100000 in
theorem inT_Fo : ∀ w ∈ u_ws "RecipePlans$Found" T_Fo 8, w ∈ wsAll := by decide +kernel
def T_Mo : u_T := fun k => match k with
  | 0 => ("RecipePlansModel", "lots", "I", false)
  | 1 => ("RecipePlansModel", "stocks", "[I", true)
  | 2 => ("RecipePlansModel", "cents", "[I", true)
  | 3 => ("RecipePlansModel", "amounts", "[I", true)
  | 4 => ("RecipePlansModel", "told", "[Z", true)
  | 5 => ("RecipePlansModel", "lows", "[I", true)
  | 6 => ("RecipePlansModel", "highs", "[I", true)
  | 7 => ("RecipePlansModel", "overs", "[I", true)
  | 8 => ("RecipePlansModel", "firsts", "[I", true)
  | 9 => ("RecipePlansModel", "seconds", "[I", true)
  | 10 => ("RecipePlansModel", "found", "I", false)
  | 11 => ("RecipePlansModel", "foundLots", "I", false)
  | 12 => ("RecipePlansModel", "best", "[I", true)
  | 13 => ("RecipePlansModel", "bestCost", "J", false)
  | 14 => ("RecipePlansModel", "cutOver", "J", false)
  | 15 => ("RecipePlansModel", "cutUnder", "J", false)
  | 16 => ("RecipePlansModel", "clashSet", "I", false)
  | 17 => ("RecipePlansModel", "mix", "[I", true)
  | 18 => ("RecipePlansModel", "limits", "[I", true)
  | 19 => ("RecipePlansModel", "isLimit", "[Z", true)
  | 20 => ("RecipePlansModel", "corner", "[I", true)
  | 21 => ("RecipePlansModel", "over", "[J", true)
  | 22 => ("RecipePlansModel", "under", "J", false)
  | _ => ("RecipePlansModel", "kept", "[Z", true)
def ty_Mo : Nat → FieldType := fun k => match k with
  | 0 => .int
  | 1 => .array .int
  | 2 => .array .int
  | 3 => .array .int
  | 4 => .array .boolean
  | 5 => .array .int
  | 6 => .array .int
  | 7 => .array .int
  | 8 => .array .int
  | 9 => .array .int
  | 10 => .int
  | 11 => .int
  | 12 => .array .int
  | 13 => .long
  | 14 => .long
  | 15 => .long
  | 16 => .int
  | 17 => .array .int
  | 18 => .array .int
  | 19 => .array .boolean
  | 20 => .array .int
  | 21 => .array .long
  | 22 => .long
  | _ => .array .boolean
set_option maxRecDepth 100000 in
theorem nm_Mo : ∀ a, a < 24 → ∀ b, b < 24 → a ≠ b → (T_Mo a).2.1 ≠ (T_Mo b).2.1 := by decide +kernel
set_option maxRecDepth 100000 in
theorem tyok_Mo : ∀ k, k < 24 → parseFieldDescriptor (T_Mo k).2.2.1 = some (ty_Mo k) := by decide +kernel
set_option maxRecDepth 100000 in
theorem inT_Mo : ∀ w ∈ u_ws "RecipePlansModel" T_Mo 24, w ∈ wsAll := by decide +kernel
abbrev vwCl : List vw_C := [("RecipePlans", T_RP, 8), ("RecipePlans$Lots", T_Lo, 4), ("RecipePlans$Rules", T_Ru, 6), ("RecipePlans$Sides", T_Si, 3), ("RecipePlans$CutSearch", T_CS, 13), ("RecipePlans$WholeSearch", T_WS, 9), ("RecipePlans$Found", T_Fo, 8), ("RecipePlansModel", T_Mo, 24)]
theorem ws_good : ∀ w ∈ wsAll, goodWord w = true := by decide +kernel
theorem gd0 {c cg : Cond} (h : cg ∈ wsAll) : GoodIn (c :: wsAll) (cg :: wsAll) := fun w hw => by
  have hm : w ∈ wsAll := by
    rcases List.mem_cons.mp hw with rfl | h1
    · exact h
    · exact h1
  exact ⟨List.mem_cons_of_mem _ hm, good_of_word (ws_good w hm)⟩
theorem gd1 {c : Cond} {l : List Cond} (h : ∀ w ∈ l, w ∈ wsAll) : GoodIn (c :: wsAll) l := fun w hw => ⟨List.mem_cons_of_mem _ (h w hw), good_of_word (ws_good w (h w hw))⟩
theorem gdV {c cg : Cond} {own C : String} {idx : Nat} {y : MethodName} (h1 : Cond.methodLink own idx y ∈ wsAll) (h2 : Cond.instanceMethod y ∈ wsAll) (h3 : Cond.selects C y y ∈ wsAll) (h4 : Cond.initialized C ∈ wsAll) (h5 : cg ∈ wsAll) : GoodIn (c :: wsAll) (wsV own idx C y (cg :: wsAll)) := gd1 (fun w hw => by
  simp only [wsV, List.mem_append, List.mem_cons, List.not_mem_nil, or_false] at hw
  rcases hw with (rfl | rfl | rfl | rfl) | rfl | h
  · exact h1
  · exact h2
  · exact h3
  · exact h4
  · exact h5
  · exact h)
theorem gdS {c cg : Cond} {own : String} {idx : Nat} {y : MethodName} (h1 : Cond.methodLink own idx y ∈ wsAll) (h2 : Cond.static y ∈ wsAll) (h4 : Cond.initialized y.cls ∈ wsAll) (h5 : cg ∈ wsAll) : GoodIn (c :: wsAll) (va_wsS own idx y (cg :: wsAll)) := gd1 (fun w hw => by
  simp only [va_wsS, List.mem_append, List.mem_cons, List.not_mem_nil, or_false] at hw
  rcases hw with (rfl | rfl | rfl) | rfl | h
  · exact h1
  · exact h2
  · exact h4
  · exact h5
  · exact h)
abbrev y_RP_init : MethodName := ⟨"RecipePlans", "<init>", "()V"⟩
abbrev ws_RP_init : List Cond := .code y_RP_init prog_1_method_1_code 1 none :: wsAll
abbrev y_RP_lot : MethodName := ⟨"RecipePlans", "lot", "(IJ)I"⟩
abbrev ws_RP_lot : List Cond := .code y_RP_lot prog_1_method_2_code 5 (some .int) :: wsAll
abbrev y_RP_amount : MethodName := ⟨"RecipePlans", "amount", "(III)Z"⟩
abbrev ws_RP_amount : List Cond := .code y_RP_amount prog_1_method_3_code 4 (some .boolean) :: wsAll
abbrev y_RP_span : MethodName := ⟨"RecipePlans", "span", "(III)Z"⟩
abbrev ws_RP_span : List Cond := .code y_RP_span prog_1_method_4_code 4 (some .boolean) :: wsAll
abbrev y_RP_ratio : MethodName := ⟨"RecipePlans", "ratio", "(IIIIII)Z"⟩
abbrev ws_RP_ratio : List Cond := .code y_RP_ratio prog_1_method_5_code 7 (some .boolean) :: wsAll
abbrev y_RP_loads : MethodName := ⟨"RecipePlans", "loads", "(II)Z"⟩
abbrev ws_RP_loads : List Cond := .code y_RP_loads prog_1_method_6_code 3 (some .boolean) :: wsAll
abbrev y_RP_untell : MethodName := ⟨"RecipePlans", "untell", "(I)Z"⟩
abbrev ws_RP_untell : List Cond := .code y_RP_untell prog_1_method_7_code 2 (some .boolean) :: wsAll
abbrev y_RP_run : MethodName := ⟨"RecipePlans", "run", "()I"⟩
abbrev ws_RP_run : List Cond := .code y_RP_run prog_1_method_8_code 1 (some .int) :: wsAll
abbrev y_RP_best : MethodName := ⟨"RecipePlans", "best", "(I)I"⟩
abbrev ws_RP_best : List Cond := .code y_RP_best prog_1_method_9_code 2 (some .int) :: wsAll
abbrev y_RP_cost : MethodName := ⟨"RecipePlans", "cost", "()J"⟩
abbrev ws_RP_cost : List Cond := .code y_RP_cost prog_1_method_10_code 1 (some .long) :: wsAll
abbrev y_RP_cut : MethodName := ⟨"RecipePlans", "cut", "(I)J"⟩
abbrev ws_RP_cut : List Cond := .code y_RP_cut prog_1_method_11_code 2 (some .long) :: wsAll
abbrev y_RP_clashes : MethodName := ⟨"RecipePlans", "clashes", "()I"⟩
abbrev ws_RP_clashes : List Cond := .code y_RP_clashes prog_1_method_12_code 1 (some .int) :: wsAll
abbrev y_RP_clash : MethodName := ⟨"RecipePlans", "clash", "(I)Z"⟩
abbrev ws_RP_clash : List Cond := .code y_RP_clash prog_1_method_13_code 2 (some .boolean) :: wsAll
abbrev y_RP_broken : MethodName := ⟨"RecipePlans", "broken", "(IIII)I"⟩
abbrev ws_RP_broken : List Cond := .code y_RP_broken prog_1_method_14_code 6 (some .int) :: wsAll
abbrev y_RP_within : MethodName := ⟨"RecipePlans", "within", "(JJJ)Z"⟩
abbrev ws_RP_within : List Cond := .code y_RP_within prog_1_method_15_code 6 (some .boolean) :: wsAll
abbrev y_RP_isRange : MethodName := ⟨"RecipePlans", "isRange", "(IIII)Z"⟩
abbrev ws_RP_isRange : List Cond := .code y_RP_isRange prog_1_method_16_code 4 (some .boolean) :: wsAll
abbrev y_RP_isWhat : MethodName := ⟨"RecipePlans", "isWhat", "(I)Z"⟩
abbrev ws_RP_isWhat : List Cond := .code y_RP_isWhat prog_1_method_17_code 1 (some .boolean) :: wsAll
abbrev y_RP_hasBit : MethodName := ⟨"RecipePlans", "hasBit", "(II)Z"⟩
abbrev ws_RP_hasBit : List Cond := .code y_RP_hasBit prog_1_method_18_code 2 (some .boolean) :: wsAll
abbrev y_Mo_init : MethodName := ⟨"RecipePlansModel", "<init>", "()V"⟩
abbrev ws_Mo_init : List Cond := .code y_Mo_init prog_9_method_1_code 1 none :: wsAll
abbrev y_Mo_isIn : MethodName := ⟨"RecipePlansModel", "isIn", "(JJJ)Z"⟩
abbrev ws_Mo_isIn : List Cond := .code y_Mo_isIn prog_9_method_3_code 6 (some .boolean) :: wsAll
abbrev y_Mo_isWhat : MethodName := ⟨"RecipePlansModel", "isWhat", "(I)Z"⟩
abbrev ws_Mo_isWhat : List Cond := .code y_Mo_isWhat prog_9_method_4_code 1 (some .boolean) :: wsAll
abbrev y_Mo_lot : MethodName := ⟨"RecipePlansModel", "lot", "(IJ)I"⟩
abbrev ws_Mo_lot : List Cond := .code y_Mo_lot prog_9_method_5_code 4 (some .int) :: wsAll
abbrev y_Mo_amount : MethodName := ⟨"RecipePlansModel", "amount", "(III)Z"⟩
abbrev ws_Mo_amount : List Cond := .code y_Mo_amount prog_9_method_6_code 4 (some .boolean) :: wsAll
abbrev y_Mo_tell : MethodName := ⟨"RecipePlansModel", "tell", "(III)Z"⟩
abbrev ws_Mo_tell : List Cond := .code y_Mo_tell prog_9_method_7_code 4 (some .boolean) :: wsAll
abbrev y_Mo_span : MethodName := ⟨"RecipePlansModel", "span", "(III)Z"⟩
abbrev ws_Mo_span : List Cond := .code y_Mo_span prog_9_method_8_code 4 (some .boolean) :: wsAll
abbrev y_Mo_ratio : MethodName := ⟨"RecipePlansModel", "ratio", "(IIIIII)Z"⟩
abbrev ws_Mo_ratio : List Cond := .code y_Mo_ratio prog_9_method_9_code 7 (some .boolean) :: wsAll
abbrev y_Mo_loads : MethodName := ⟨"RecipePlansModel", "loads", "(II)Z"⟩
abbrev ws_Mo_loads : List Cond := .code y_Mo_loads prog_9_method_10_code 3 (some .boolean) :: wsAll
abbrev y_Mo_untell : MethodName := ⟨"RecipePlansModel", "untell", "(I)Z"⟩
abbrev ws_Mo_untell : List Cond := .code y_Mo_untell prog_9_method_11_code 2 (some .boolean) :: wsAll
abbrev y_Mo_holds : MethodName := ⟨"RecipePlansModel", "holds", "(I)I"⟩
abbrev ws_Mo_holds : List Cond := .code y_Mo_holds prog_9_method_12_code 4 (some .int) :: wsAll
abbrev y_Mo_keeps : MethodName := ⟨"RecipePlansModel", "keeps", "(I)Z"⟩
abbrev ws_Mo_keeps : List Cond := .code y_Mo_keeps prog_9_method_13_code 6 (some .boolean) :: wsAll
abbrev y_Mo_firstBroken : MethodName := ⟨"RecipePlansModel", "firstBroken", "()I"⟩
abbrev ws_Mo_firstBroken : List Cond := .code y_Mo_firstBroken prog_9_method_14_code 2 (some .int) :: wsAll
abbrev y_Mo_broken : MethodName := ⟨"RecipePlansModel", "broken", "(IIII)I"⟩
abbrev ws_Mo_broken : List Cond := .code y_Mo_broken prog_9_method_15_code 6 (some .int) :: wsAll
abbrev y_Mo_findWhole : MethodName := ⟨"RecipePlansModel", "findWhole", "()Z"⟩
abbrev ws_Mo_findWhole : List Cond := .code y_Mo_findWhole prog_9_method_16_code 8 (some .boolean) :: wsAll
abbrev y_Mo_setLimit : MethodName := ⟨"RecipePlansModel", "setLimit", "(IIZ)V"⟩
abbrev ws_Mo_setLimit : List Cond := .code y_Mo_setLimit prog_9_method_17_code 8 none :: wsAll
abbrev y_Mo_setLimits : MethodName := ⟨"RecipePlansModel", "setLimits", "()V"⟩
abbrev ws_Mo_setLimits : List Cond := .code y_Mo_setLimits prog_9_method_18_code 5 none :: wsAll
abbrev y_Mo_at : MethodName := ⟨"RecipePlansModel", "at", "(III)J"⟩
abbrev ws_Mo_at : List Cond := .code y_Mo_at prog_9_method_19_code 4 (some .long) :: wsAll
abbrev y_Mo_minor : MethodName := ⟨"RecipePlansModel", "minor", "(IIIII)J"⟩
abbrev ws_Mo_minor : List Cond := .code y_Mo_minor prog_9_method_20_code 6 (some .long) :: wsAll
abbrev y_Mo_determinant : MethodName := ⟨"RecipePlansModel", "determinant", "(I)J"⟩
abbrev ws_Mo_determinant : List Cond := .code y_Mo_determinant prog_9_method_21_code 2 (some .long) :: wsAll
abbrev y_Mo_common : MethodName := ⟨"RecipePlansModel", "common", "(JJ)J"⟩
abbrev ws_Mo_common : List Cond := .code y_Mo_common prog_9_method_22_code 10 (some .long) :: wsAll
abbrev y_Mo_meet : MethodName := ⟨"RecipePlansModel", "meet", "()Z"⟩
abbrev ws_Mo_meet : List Cond := .code y_Mo_meet prog_9_method_23_code 4 (some .boolean) :: wsAll
abbrev y_Mo_isKept : MethodName := ⟨"RecipePlansModel", "isKept", "(I)Z"⟩
abbrev ws_Mo_isKept : List Cond := .code y_Mo_isKept prog_9_method_24_code 13 (some .boolean) :: wsAll
abbrev y_Mo_keptRules : MethodName := ⟨"RecipePlansModel", "keptRules", "()I"⟩
abbrev ws_Mo_keptRules : List Cond := .code y_Mo_keptRules prog_9_method_25_code 3 (some .int) :: wsAll
abbrev y_Mo_isLess : MethodName := ⟨"RecipePlansModel", "isLess", "(JJJJ)Z"⟩
abbrev ws_Mo_isLess : List Cond := .code y_Mo_isLess prog_9_method_26_code 25 (some .boolean) :: wsAll
abbrev y_Mo_lookAtCorner : MethodName := ⟨"RecipePlansModel", "lookAtCorner", "()V"⟩
abbrev ws_Mo_lookAtCorner : List Cond := .code y_Mo_lookAtCorner prog_9_method_27_code 6 none :: wsAll
abbrev y_Mo_lookAtCorners : MethodName := ⟨"RecipePlansModel", "lookAtCorners", "()V"⟩
abbrev ws_Mo_lookAtCorners : List Cond := .code y_Mo_lookAtCorners prog_9_method_28_code 5 none :: wsAll
abbrev y_Mo_canBeKept : MethodName := ⟨"RecipePlansModel", "canBeKept", "(I)Z"⟩
abbrev ws_Mo_canBeKept : List Cond := .code y_Mo_canBeKept prog_9_method_29_code 3 (some .boolean) :: wsAll
abbrev y_Mo_sizeOf : MethodName := ⟨"RecipePlansModel", "sizeOf", "(I)I"⟩
abbrev ws_Mo_sizeOf : List Cond := .code y_Mo_sizeOf prog_9_method_30_code 3 (some .int) :: wsAll
abbrev y_Mo_findClash : MethodName := ⟨"RecipePlansModel", "findClash", "()V"⟩
abbrev ws_Mo_findClash : List Cond := .code y_Mo_findClash prog_9_method_31_code 4 none :: wsAll
abbrev y_Mo_run : MethodName := ⟨"RecipePlansModel", "run", "()I"⟩
abbrev ws_Mo_run : List Cond := .code y_Mo_run prog_9_method_32_code 2 (some .int) :: wsAll
abbrev y_Mo_best : MethodName := ⟨"RecipePlansModel", "best", "(I)I"⟩
abbrev ws_Mo_best : List Cond := .code y_Mo_best prog_9_method_33_code 2 (some .int) :: wsAll
abbrev y_Mo_cost : MethodName := ⟨"RecipePlansModel", "cost", "()J"⟩
abbrev ws_Mo_cost : List Cond := .code y_Mo_cost prog_9_method_34_code 1 (some .long) :: wsAll
abbrev y_Mo_cut : MethodName := ⟨"RecipePlansModel", "cut", "(I)J"⟩
abbrev ws_Mo_cut : List Cond := .code y_Mo_cut prog_9_method_35_code 2 (some .long) :: wsAll
abbrev y_Mo_clashes : MethodName := ⟨"RecipePlansModel", "clashes", "()I"⟩
abbrev ws_Mo_clashes : List Cond := .code y_Mo_clashes prog_9_method_36_code 1 (some .int) :: wsAll
abbrev y_Mo_clash : MethodName := ⟨"RecipePlansModel", "clash", "(I)Z"⟩
abbrev ws_Mo_clash : List Cond := .code y_Mo_clash prog_9_method_37_code 2 (some .boolean) :: wsAll
abbrev y_CS_init : MethodName := ⟨"RecipePlans$CutSearch", "<init>", "(LRecipePlans$Lots;LRecipePlans$Rules;LRecipePlans$Sides;)V"⟩
abbrev ws_CS_init : List Cond := .code y_CS_init prog_2_method_1_code 4 none :: wsAll
abbrev y_CS_search : MethodName := ⟨"RecipePlans$CutSearch", "search", "()V"⟩
abbrev ws_CS_search : List Cond := .code y_CS_search prog_2_method_2_code 1 none :: wsAll
abbrev y_CS_begin : MethodName := ⟨"RecipePlans$CutSearch", "begin", "()V"⟩
abbrev ws_CS_begin : List Cond := .code y_CS_begin prog_2_method_3_code 2 none :: wsAll
abbrev y_CS_tighten : MethodName := ⟨"RecipePlans$CutSearch", "tighten", "(II)V"⟩
abbrev ws_CS_tighten : List Cond := .code y_CS_tighten prog_2_method_4_code 5 none :: wsAll
abbrev y_CS_addBoth : MethodName := ⟨"RecipePlans$CutSearch", "addBoth", "(II)Z"⟩
abbrev ws_CS_addBoth : List Cond := .code y_CS_addBoth prog_2_method_5_code 3 (some .boolean) :: wsAll
abbrev y_CS_add : MethodName := ⟨"RecipePlans$CutSearch", "add", "(I[J)Z"⟩
abbrev ws_CS_add : List Cond := .code y_CS_add prog_2_method_6_code 8 (some .boolean) :: wsAll
abbrev y_CS_expand : MethodName := ⟨"RecipePlans$CutSearch", "expand", "([J[JI)J"⟩
abbrev ws_CS_expand : List Cond := .code y_CS_expand prog_2_method_7_code 8 (some .long) :: wsAll
abbrev y_CS_visitCorners : MethodName := ⟨"RecipePlans$CutSearch", "visitCorners", "(I)V"⟩
abbrev ws_CS_visitCorners : List Cond := .code y_CS_visitCorners prog_2_method_8_code 7 none :: wsAll
abbrev y_CS_meets : MethodName := ⟨"RecipePlans$CutSearch", "meets", "([JII)Z"⟩
abbrev ws_CS_meets : List Cond := .code y_CS_meets prog_2_method_9_code 13 (some .boolean) :: wsAll
abbrev y_CS_replaced : MethodName := ⟨"RecipePlans$CutSearch", "replaced", "([JIII)J"⟩
abbrev ws_CS_replaced : List Cond := .code y_CS_replaced prog_2_method_10_code 14 (some .long) :: wsAll
abbrev y_CS_weigh : MethodName := ⟨"RecipePlans$CutSearch", "weigh", "()V"⟩
abbrev ws_CS_weigh : List Cond := .code y_CS_weigh prog_2_method_11_code 5 none :: wsAll
abbrev y_CS_isLess : MethodName := ⟨"RecipePlans$CutSearch", "isLess", "(JJJJ)Z"⟩
abbrev ws_CS_isLess : List Cond := .code y_CS_isLess prog_2_method_12_code 17 (some .boolean) :: wsAll
abbrev y_CS_commonDivisor : MethodName := ⟨"RecipePlans$CutSearch", "commonDivisor", "()J"⟩
abbrev ws_CS_commonDivisor : List Cond := .code y_CS_commonDivisor prog_2_method_13_code 8 (some .long) :: wsAll
abbrev y_CS_fewestClashing : MethodName := ⟨"RecipePlans$CutSearch", "fewestClashing", "()I"⟩
abbrev ws_CS_fewestClashing : List Cond := .code y_CS_fewestClashing prog_2_method_14_code 4 (some .int) :: wsAll
abbrev y_CS_allBreak : MethodName := ⟨"RecipePlans$CutSearch", "allBreak", "(I)Z"⟩
abbrev ws_CS_allBreak : List Cond := .code y_CS_allBreak prog_2_method_15_code 3 (some .boolean) :: wsAll
abbrev y_Fo_init : MethodName := ⟨"RecipePlans$Found", "<init>", "()V"⟩
abbrev ws_Fo_init : List Cond := .code y_Fo_init prog_3_method_1_code 1 none :: wsAll
abbrev y_Fo_takeCut : MethodName := ⟨"RecipePlans$Found", "takeCut", "(LRecipePlans$CutSearch;)V"⟩
abbrev ws_Fo_takeCut : List Cond := .code y_Fo_takeCut prog_3_method_2_code 4 none :: wsAll
abbrev y_Fo_takeWhole : MethodName := ⟨"RecipePlans$Found", "takeWhole", "(LRecipePlans$WholeSearch;I)V"⟩
abbrev ws_Fo_takeWhole : List Cond := .code y_Fo_takeWhole prog_3_method_3_code 4 none :: wsAll
abbrev y_Lo_init : MethodName := ⟨"RecipePlans$Lots", "<init>", "()V"⟩
abbrev ws_Lo_init : List Cond := .code y_Lo_init prog_4_method_1_code 2 none :: wsAll
abbrev y_Lo_hold : MethodName := ⟨"RecipePlans$Lots", "hold", "([J[J)V"⟩
abbrev ws_Lo_hold : List Cond := .code y_Lo_hold prog_4_method_2_code 8 none :: wsAll
abbrev y_Lo_price : MethodName := ⟨"RecipePlans$Lots", "price", "([J)J"⟩
abbrev ws_Lo_price : List Cond := .code y_Lo_price prog_4_method_3_code 5 (some .long) :: wsAll
abbrev y_Lo_inStock : MethodName := ⟨"RecipePlans$Lots", "inStock", "()I"⟩
abbrev ws_Lo_inStock : List Cond := .code y_Lo_inStock prog_4_method_4_code 3 (some .int) :: wsAll
abbrev y_Ru_init : MethodName := ⟨"RecipePlans$Rules", "<init>", "()V"⟩
abbrev ws_Ru_init : List Cond := .code y_Ru_init prog_5_method_1_code 1 none :: wsAll
abbrev y_Ru_tell : MethodName := ⟨"RecipePlans$Rules", "tell", "(IIIIII)V"⟩
abbrev ws_Ru_tell : List Cond := .code y_Ru_tell prog_5_method_2_code 7 none :: wsAll
abbrev y_Ru_isTold : MethodName := ⟨"RecipePlans$Rules", "isTold", "(I)Z"⟩
abbrev ws_Ru_isTold : List Cond := .code y_Ru_isTold prog_5_method_3_code 2 (some .boolean) :: wsAll
abbrev y_Ru_keeps : MethodName := ⟨"RecipePlans$Rules", "keeps", "(I[J)Z"⟩
abbrev ws_Ru_keeps : List Cond := .code y_Ru_keeps prog_5_method_4_code 7 (some .boolean) :: wsAll
abbrev y_Ru_atLeast : MethodName := ⟨"RecipePlans$Rules", "atLeast", "(JJJJ)Z"⟩
abbrev ws_Ru_atLeast : List Cond := .code y_Ru_atLeast prog_5_method_5_code 12 (some .boolean) :: wsAll
abbrev y_Si_init : MethodName := ⟨"RecipePlans$Sides", "<init>", "()V"⟩
abbrev ws_Si_init : List Cond := .code y_Si_init prog_6_method_1_code 1 none :: wsAll
abbrev y_Si_build : MethodName := ⟨"RecipePlans$Sides", "build", "(LRecipePlans$Lots;LRecipePlans$Rules;)V"⟩
abbrev ws_Si_build : List Cond := .code y_Si_build prog_6_method_2_code 4 none :: wsAll
abbrev y_Si_fill : MethodName := ⟨"RecipePlans$Sides", "fill", "([J[JLRecipePlans$Rules;I)V"⟩
abbrev ws_Si_fill : List Cond := .code y_Si_fill prog_6_method_3_code 10 none :: wsAll
abbrev y_WS_init : MethodName := ⟨"RecipePlans$WholeSearch", "<init>", "(LRecipePlans$Lots;LRecipePlans$Sides;)V"⟩
abbrev ws_WS_init : List Cond := .code y_WS_init prog_7_method_1_code 3 none :: wsAll
abbrev y_WS_search : MethodName := ⟨"RecipePlans$WholeSearch", "search", "(Z)V"⟩
abbrev ws_WS_search : List Cond := .code y_WS_search prog_7_method_2_code 2 none :: wsAll
abbrev y_WS_begin : MethodName := ⟨"RecipePlans$WholeSearch", "begin", "()V"⟩
abbrev ws_WS_begin : List Cond := .code y_WS_begin prog_7_method_3_code 3 none :: wsAll
abbrev y_WS_place : MethodName := ⟨"RecipePlans$WholeSearch", "place", "(IJ)V"⟩
abbrev ws_WS_place : List Cond := .code y_WS_place prog_7_method_4_code 7 none :: wsAll
abbrev y_WS_take : MethodName := ⟨"RecipePlans$WholeSearch", "take", "(IIJ)V"⟩
abbrev ws_WS_take : List Cond := .code y_WS_take prog_7_method_5_code 6 none :: wsAll
abbrev y_WS_offer : MethodName := ⟨"RecipePlans$WholeSearch", "offer", "(J)V"⟩
abbrev ws_WS_offer : List Cond := .code y_WS_offer prog_7_method_6_code 4 none :: wsAll
abbrev y_WS_mostLoads : MethodName := ⟨"RecipePlans$WholeSearch", "mostLoads", "(I)I"⟩
abbrev ws_WS_mostLoads : List Cond := .code y_WS_mostLoads prog_7_method_7_code 9 (some .int) :: wsAll
abbrev y_WS_fewestLoads : MethodName := ⟨"RecipePlans$WholeSearch", "fewestLoads", "(I)I"⟩
abbrev ws_WS_fewestLoads : List Cond := .code y_WS_fewestLoads prog_7_method_8_code 9 (some .int) :: wsAll
abbrev y_In_bitCount : MethodName := ⟨"java/lang/Integer", "bitCount", "(I)I"⟩
abbrev ws_In_bitCount : List Cond := .code y_In_bitCount prog_10_method_49_code 1 (some .int) :: wsAll
abbrev y_Ma_abs : MethodName := ⟨"java/lang/Math", "abs", "(J)J"⟩
abbrev ws_Ma_abs : List Cond := .code y_Ma_abs prog_11_method_61_code 2 (some .long) :: wsAll
abbrev y_Ma_floorDiv : MethodName := ⟨"java/lang/Math", "floorDiv", "(JJ)J"⟩
abbrev ws_Ma_floorDiv : List Cond := .code y_Ma_floorDiv prog_11_method_49_code 6 (some .long) :: wsAll
abbrev y_Ma_max : MethodName := ⟨"java/lang/Math", "max", "(JJ)J"⟩
abbrev ws_Ma_max : List Cond := .code y_Ma_max prog_11_method_66_code 4 (some .long) :: wsAll
abbrev y_Ma_min : MethodName := ⟨"java/lang/Math", "min", "(JJ)J"⟩
abbrev ws_Ma_min : List Cond := .code y_Ma_min prog_11_method_70_code 4 (some .long) :: wsAll
end
section
theorem d_Ma_abs_0 : decode prog_11_method_61_code 0 = .ok (.lload_n 0, 1) := by decide +kernel
theorem d_Ma_abs_1 : decode prog_11_method_61_code 1 = .ok (.lconst 0, 1) := by decide +kernel
theorem d_Ma_abs_2 : decode prog_11_method_61_code 2 = .ok (.lcmp, 1) := by decide +kernel
theorem d_Ma_abs_3 : decode prog_11_method_61_code 3 = .ok (.ifCond .ge 8, 3) := by decide +kernel
theorem d_Ma_abs_6 : decode prog_11_method_61_code 6 = .ok (.lload_n 0, 1) := by decide +kernel
theorem d_Ma_abs_7 : decode prog_11_method_61_code 7 = .ok (.lneg, 1) := by decide +kernel
theorem d_Ma_abs_8 : decode prog_11_method_61_code 8 = .ok (.goto 4, 3) := by decide +kernel
theorem d_Ma_abs_11 : decode prog_11_method_61_code 11 = .ok (.lload_n 0, 1) := by decide +kernel
theorem d_Ma_abs_12 : decode prog_11_method_61_code 12 = .ok (.lreturn, 1) := by decide +kernel
theorem d_Ma_floorDiv_0 : decode prog_11_method_49_code 0 = .ok (.lload_n 0, 1) := by decide +kernel
theorem d_Ma_floorDiv_1 : decode prog_11_method_49_code 1 = .ok (.lload_n 2, 1) := by decide +kernel
theorem d_Ma_floorDiv_2 : decode prog_11_method_49_code 2 = .ok (.ldiv, 1) := by decide +kernel
theorem d_Ma_floorDiv_3 : decode prog_11_method_49_code 3 = .ok (.lstore 4, 2) := by decide +kernel
theorem d_Ma_floorDiv_5 : decode prog_11_method_49_code 5 = .ok (.lload_n 0, 1) := by decide +kernel
theorem d_Ma_floorDiv_6 : decode prog_11_method_49_code 6 = .ok (.lload_n 2, 1) := by decide +kernel
theorem d_Ma_floorDiv_7 : decode prog_11_method_49_code 7 = .ok (.lxor, 1) := by decide +kernel
theorem d_Ma_floorDiv_8 : decode prog_11_method_49_code 8 = .ok (.lconst 0, 1) := by decide +kernel
theorem d_Ma_floorDiv_9 : decode prog_11_method_49_code 9 = .ok (.lcmp, 1) := by decide +kernel
theorem d_Ma_floorDiv_10 : decode prog_11_method_49_code 10 = .ok (.ifCond .ge 17, 3) := by decide +kernel
theorem d_Ma_floorDiv_13 : decode prog_11_method_49_code 13 = .ok (.lload 4, 2) := by decide +kernel
theorem d_Ma_floorDiv_15 : decode prog_11_method_49_code 15 = .ok (.lload_n 2, 1) := by decide +kernel
theorem d_Ma_floorDiv_16 : decode prog_11_method_49_code 16 = .ok (.lmul, 1) := by decide +kernel
theorem d_Ma_floorDiv_17 : decode prog_11_method_49_code 17 = .ok (.lload_n 0, 1) := by decide +kernel
theorem d_Ma_floorDiv_18 : decode prog_11_method_49_code 18 = .ok (.lcmp, 1) := by decide +kernel
theorem d_Ma_floorDiv_19 : decode prog_11_method_49_code 19 = .ok (.ifCond .eq 8, 3) := by decide +kernel
theorem d_Ma_floorDiv_22 : decode prog_11_method_49_code 22 = .ok (.lload 4, 2) := by decide +kernel
theorem d_Ma_floorDiv_24 : decode prog_11_method_49_code 24 = .ok (.lconst 1, 1) := by decide +kernel
theorem d_Ma_floorDiv_25 : decode prog_11_method_49_code 25 = .ok (.lsub, 1) := by decide +kernel
theorem d_Ma_floorDiv_26 : decode prog_11_method_49_code 26 = .ok (.lreturn, 1) := by decide +kernel
theorem d_Ma_floorDiv_27 : decode prog_11_method_49_code 27 = .ok (.lload 4, 2) := by decide +kernel
theorem d_Ma_floorDiv_29 : decode prog_11_method_49_code 29 = .ok (.lreturn, 1) := by decide +kernel
theorem d_Ma_max_0 : decode prog_11_method_66_code 0 = .ok (.lload_n 0, 1) := by decide +kernel
theorem d_Ma_max_1 : decode prog_11_method_66_code 1 = .ok (.lload_n 2, 1) := by decide +kernel
theorem d_Ma_max_2 : decode prog_11_method_66_code 2 = .ok (.lcmp, 1) := by decide +kernel
theorem d_Ma_max_3 : decode prog_11_method_66_code 3 = .ok (.ifCond .lt 7, 3) := by decide +kernel
theorem d_Ma_max_6 : decode prog_11_method_66_code 6 = .ok (.lload_n 0, 1) := by decide +kernel
theorem d_Ma_max_7 : decode prog_11_method_66_code 7 = .ok (.goto 4, 3) := by decide +kernel
theorem d_Ma_max_10 : decode prog_11_method_66_code 10 = .ok (.lload_n 2, 1) := by decide +kernel
theorem d_Ma_max_11 : decode prog_11_method_66_code 11 = .ok (.lreturn, 1) := by decide +kernel
theorem d_Ma_min_0 : decode prog_11_method_70_code 0 = .ok (.lload_n 0, 1) := by decide +kernel
theorem d_Ma_min_1 : decode prog_11_method_70_code 1 = .ok (.lload_n 2, 1) := by decide +kernel
theorem d_Ma_min_2 : decode prog_11_method_70_code 2 = .ok (.lcmp, 1) := by decide +kernel
theorem d_Ma_min_3 : decode prog_11_method_70_code 3 = .ok (.ifCond .gt 7, 3) := by decide +kernel
theorem d_Ma_min_6 : decode prog_11_method_70_code 6 = .ok (.lload_n 0, 1) := by decide +kernel
theorem d_Ma_min_7 : decode prog_11_method_70_code 7 = .ok (.goto 4, 3) := by decide +kernel
theorem d_Ma_min_10 : decode prog_11_method_70_code 10 = .ok (.lload_n 2, 1) := by decide +kernel
theorem d_Ma_min_11 : decode prog_11_method_70_code 11 = .ok (.lreturn, 1) := by decide +kernel
theorem d_In_bitCount_0 : decode prog_10_method_49_code 0 = .ok (.iload_n 0, 1) := by decide +kernel
theorem d_In_bitCount_1 : decode prog_10_method_49_code 1 = .ok (.iload_n 0, 1) := by decide +kernel
theorem d_In_bitCount_2 : decode prog_10_method_49_code 2 = .ok (.iconst 1, 1) := by decide +kernel
theorem d_In_bitCount_3 : decode prog_10_method_49_code 3 = .ok (.iushr, 1) := by decide +kernel
theorem d_In_bitCount_4 : decode prog_10_method_49_code 4 = .ok (.ldc_w 265, 3) := by decide +kernel
theorem d_In_bitCount_7 : decode prog_10_method_49_code 7 = .ok (.iand, 1) := by decide +kernel
theorem d_In_bitCount_8 : decode prog_10_method_49_code 8 = .ok (.isub, 1) := by decide +kernel
theorem d_In_bitCount_9 : decode prog_10_method_49_code 9 = .ok (.istore_n 0, 1) := by decide +kernel
theorem d_In_bitCount_10 : decode prog_10_method_49_code 10 = .ok (.iload_n 0, 1) := by decide +kernel
theorem d_In_bitCount_11 : decode prog_10_method_49_code 11 = .ok (.ldc_w 266, 3) := by decide +kernel
theorem d_In_bitCount_14 : decode prog_10_method_49_code 14 = .ok (.iand, 1) := by decide +kernel
theorem d_In_bitCount_15 : decode prog_10_method_49_code 15 = .ok (.iload_n 0, 1) := by decide +kernel
theorem d_In_bitCount_16 : decode prog_10_method_49_code 16 = .ok (.iconst 2, 1) := by decide +kernel
theorem d_In_bitCount_17 : decode prog_10_method_49_code 17 = .ok (.iushr, 1) := by decide +kernel
theorem d_In_bitCount_18 : decode prog_10_method_49_code 18 = .ok (.ldc_w 266, 3) := by decide +kernel
theorem d_In_bitCount_21 : decode prog_10_method_49_code 21 = .ok (.iand, 1) := by decide +kernel
theorem d_In_bitCount_22 : decode prog_10_method_49_code 22 = .ok (.iadd, 1) := by decide +kernel
theorem d_In_bitCount_23 : decode prog_10_method_49_code 23 = .ok (.istore_n 0, 1) := by decide +kernel
theorem d_In_bitCount_24 : decode prog_10_method_49_code 24 = .ok (.iload_n 0, 1) := by decide +kernel
theorem d_In_bitCount_25 : decode prog_10_method_49_code 25 = .ok (.iload_n 0, 1) := by decide +kernel
theorem d_In_bitCount_26 : decode prog_10_method_49_code 26 = .ok (.iconst 4, 1) := by decide +kernel
theorem d_In_bitCount_27 : decode prog_10_method_49_code 27 = .ok (.iushr, 1) := by decide +kernel
theorem d_In_bitCount_28 : decode prog_10_method_49_code 28 = .ok (.iadd, 1) := by decide +kernel
theorem d_In_bitCount_29 : decode prog_10_method_49_code 29 = .ok (.ldc_w 267, 3) := by decide +kernel
theorem d_In_bitCount_32 : decode prog_10_method_49_code 32 = .ok (.iand, 1) := by decide +kernel
theorem d_In_bitCount_33 : decode prog_10_method_49_code 33 = .ok (.istore_n 0, 1) := by decide +kernel
theorem d_In_bitCount_34 : decode prog_10_method_49_code 34 = .ok (.iload_n 0, 1) := by decide +kernel
theorem d_In_bitCount_35 : decode prog_10_method_49_code 35 = .ok (.iload_n 0, 1) := by decide +kernel
theorem d_In_bitCount_36 : decode prog_10_method_49_code 36 = .ok (.bipush 8, 2) := by decide +kernel
theorem d_In_bitCount_38 : decode prog_10_method_49_code 38 = .ok (.iushr, 1) := by decide +kernel
theorem d_In_bitCount_39 : decode prog_10_method_49_code 39 = .ok (.iadd, 1) := by decide +kernel
theorem d_In_bitCount_40 : decode prog_10_method_49_code 40 = .ok (.istore_n 0, 1) := by decide +kernel
theorem d_In_bitCount_41 : decode prog_10_method_49_code 41 = .ok (.iload_n 0, 1) := by decide +kernel
theorem d_In_bitCount_42 : decode prog_10_method_49_code 42 = .ok (.iload_n 0, 1) := by decide +kernel
theorem d_In_bitCount_43 : decode prog_10_method_49_code 43 = .ok (.bipush 16, 2) := by decide +kernel
theorem d_In_bitCount_45 : decode prog_10_method_49_code 45 = .ok (.iushr, 1) := by decide +kernel
theorem d_In_bitCount_46 : decode prog_10_method_49_code 46 = .ok (.iadd, 1) := by decide +kernel
theorem d_In_bitCount_47 : decode prog_10_method_49_code 47 = .ok (.istore_n 0, 1) := by decide +kernel
theorem d_In_bitCount_48 : decode prog_10_method_49_code 48 = .ok (.iload_n 0, 1) := by decide +kernel
theorem d_In_bitCount_49 : decode prog_10_method_49_code 49 = .ok (.bipush 63, 2) := by decide +kernel
theorem d_In_bitCount_51 : decode prog_10_method_49_code 51 = .ok (.iand, 1) := by decide +kernel
theorem d_In_bitCount_52 : decode prog_10_method_49_code 52 = .ok (.ireturn, 1) := by decide +kernel
theorem d_RP_init_0 : decode prog_1_method_1_code 0 = .ok (.aload_n 0, 1) := by decide +kernel
theorem d_RP_init_1 : decode prog_1_method_1_code 1 = .ok (.invokespecial 3, 3) := by decide +kernel
theorem d_RP_init_4 : decode prog_1_method_1_code 4 = .ok (.aload_n 0, 1) := by decide +kernel
theorem d_RP_init_5 : decode prog_1_method_1_code 5 = .ok (.new 9, 3) := by decide +kernel
theorem d_RP_init_8 : decode prog_1_method_1_code 8 = .ok (.dup, 1) := by decide +kernel
theorem d_RP_init_9 : decode prog_1_method_1_code 9 = .ok (.invokespecial 11, 3) := by decide +kernel
theorem d_RP_init_12 : decode prog_1_method_1_code 12 = .ok (.putfield 12, 3) := by decide +kernel
theorem d_RP_init_15 : decode prog_1_method_1_code 15 = .ok (.aload_n 0, 1) := by decide +kernel
theorem d_RP_init_16 : decode prog_1_method_1_code 16 = .ok (.new 16, 3) := by decide +kernel
theorem d_RP_init_19 : decode prog_1_method_1_code 19 = .ok (.dup, 1) := by decide +kernel
theorem d_RP_init_20 : decode prog_1_method_1_code 20 = .ok (.invokespecial 18, 3) := by decide +kernel
theorem d_RP_init_23 : decode prog_1_method_1_code 23 = .ok (.putfield 19, 3) := by decide +kernel
theorem d_RP_init_26 : decode prog_1_method_1_code 26 = .ok (.aload_n 0, 1) := by decide +kernel
theorem d_RP_init_27 : decode prog_1_method_1_code 27 = .ok (.new 23, 3) := by decide +kernel
theorem d_RP_init_30 : decode prog_1_method_1_code 30 = .ok (.dup, 1) := by decide +kernel
theorem d_RP_init_31 : decode prog_1_method_1_code 31 = .ok (.invokespecial 25, 3) := by decide +kernel
theorem d_RP_init_34 : decode prog_1_method_1_code 34 = .ok (.putfield 26, 3) := by decide +kernel
theorem d_RP_init_37 : decode prog_1_method_1_code 37 = .ok (.aload_n 0, 1) := by decide +kernel
theorem d_RP_init_38 : decode prog_1_method_1_code 38 = .ok (.new 30, 3) := by decide +kernel
theorem d_RP_init_41 : decode prog_1_method_1_code 41 = .ok (.dup, 1) := by decide +kernel
theorem d_RP_init_42 : decode prog_1_method_1_code 42 = .ok (.aload_n 0, 1) := by decide +kernel
theorem d_RP_init_43 : decode prog_1_method_1_code 43 = .ok (.getfield 12, 3) := by decide +kernel
theorem d_RP_init_46 : decode prog_1_method_1_code 46 = .ok (.aload_n 0, 1) := by decide +kernel
theorem d_RP_init_47 : decode prog_1_method_1_code 47 = .ok (.getfield 19, 3) := by decide +kernel
theorem d_RP_init_50 : decode prog_1_method_1_code 50 = .ok (.aload_n 0, 1) := by decide +kernel
theorem d_RP_init_51 : decode prog_1_method_1_code 51 = .ok (.getfield 26, 3) := by decide +kernel
theorem d_RP_init_54 : decode prog_1_method_1_code 54 = .ok (.invokespecial 32, 3) := by decide +kernel
theorem d_RP_init_57 : decode prog_1_method_1_code 57 = .ok (.putfield 35, 3) := by decide +kernel
theorem d_RP_init_60 : decode prog_1_method_1_code 60 = .ok (.aload_n 0, 1) := by decide +kernel
theorem d_RP_init_61 : decode prog_1_method_1_code 61 = .ok (.new 39, 3) := by decide +kernel
theorem d_RP_init_64 : decode prog_1_method_1_code 64 = .ok (.dup, 1) := by decide +kernel
theorem d_RP_init_65 : decode prog_1_method_1_code 65 = .ok (.aload_n 0, 1) := by decide +kernel
theorem d_RP_init_66 : decode prog_1_method_1_code 66 = .ok (.getfield 12, 3) := by decide +kernel
theorem d_RP_init_69 : decode prog_1_method_1_code 69 = .ok (.aload_n 0, 1) := by decide +kernel
theorem d_RP_init_70 : decode prog_1_method_1_code 70 = .ok (.getfield 26, 3) := by decide +kernel
theorem d_RP_init_73 : decode prog_1_method_1_code 73 = .ok (.invokespecial 41, 3) := by decide +kernel
theorem d_RP_init_76 : decode prog_1_method_1_code 76 = .ok (.putfield 44, 3) := by decide +kernel
theorem d_RP_init_79 : decode prog_1_method_1_code 79 = .ok (.aload_n 0, 1) := by decide +kernel
theorem d_RP_init_80 : decode prog_1_method_1_code 80 = .ok (.new 48, 3) := by decide +kernel
theorem d_RP_init_83 : decode prog_1_method_1_code 83 = .ok (.dup, 1) := by decide +kernel
theorem d_RP_init_84 : decode prog_1_method_1_code 84 = .ok (.invokespecial 50, 3) := by decide +kernel
theorem d_RP_init_87 : decode prog_1_method_1_code 87 = .ok (.putfield 51, 3) := by decide +kernel
theorem d_RP_init_90 : decode prog_1_method_1_code 90 = .ok (.aload_n 0, 1) := by decide +kernel
theorem d_RP_init_91 : decode prog_1_method_1_code 91 = .ok (.iconst 5, 1) := by decide +kernel
theorem d_RP_init_92 : decode prog_1_method_1_code 92 = .ok (.newarray .long, 2) := by decide +kernel
theorem d_RP_init_94 : decode prog_1_method_1_code 94 = .ok (.putfield 55, 3) := by decide +kernel
theorem d_RP_init_97 : decode prog_1_method_1_code 97 = .ok (.aload_n 0, 1) := by decide +kernel
theorem d_RP_init_98 : decode prog_1_method_1_code 98 = .ok (.bipush 7, 2) := by decide +kernel
theorem d_RP_init_100 : decode prog_1_method_1_code 100 = .ok (.newarray .long, 2) := by decide +kernel
theorem d_RP_init_102 : decode prog_1_method_1_code 102 = .ok (.putfield 59, 3) := by decide +kernel
theorem d_RP_init_105 : decode prog_1_method_1_code 105 = .ok (.return_, 1) := by decide +kernel
theorem d_RP_lot_0 : decode prog_1_method_2_code 0 = .ok (.aload_n 0, 1) := by decide +kernel
theorem d_RP_lot_1 : decode prog_1_method_2_code 1 = .ok (.getfield 12, 3) := by decide +kernel
theorem d_RP_lot_4 : decode prog_1_method_2_code 4 = .ok (.getfield 62, 3) := by decide +kernel
theorem d_RP_lot_7 : decode prog_1_method_2_code 7 = .ok (.iconst 4, 1) := by decide +kernel
theorem d_RP_lot_8 : decode prog_1_method_2_code 8 = .ok (.if_icmp .ge 28, 3) := by decide +kernel
theorem d_RP_lot_11 : decode prog_1_method_2_code 11 = .ok (.iload_n 1, 1) := by decide +kernel
theorem d_RP_lot_12 : decode prog_1_method_2_code 12 = .ok (.i2l, 1) := by decide +kernel
theorem d_RP_lot_13 : decode prog_1_method_2_code 13 = .ok (.lconst 0, 1) := by decide +kernel
theorem d_RP_lot_14 : decode prog_1_method_2_code 14 = .ok (.ldc2_w 66, 3) := by decide +kernel
theorem d_RP_lot_17 : decode prog_1_method_2_code 17 = .ok (.invokestatic 68, 3) := by decide +kernel
theorem d_RP_lot_20 : decode prog_1_method_2_code 20 = .ok (.ifCond .eq 16, 3) := by decide +kernel
theorem d_RP_lot_23 : decode prog_1_method_2_code 23 = .ok (.lload_n 2, 1) := by decide +kernel
theorem d_RP_lot_24 : decode prog_1_method_2_code 24 = .ok (.ldc2_w 72, 3) := by decide +kernel
theorem d_RP_lot_27 : decode prog_1_method_2_code 27 = .ok (.ldc2_w 74, 3) := by decide +kernel
theorem d_RP_lot_30 : decode prog_1_method_2_code 30 = .ok (.invokestatic 68, 3) := by decide +kernel
theorem d_RP_lot_33 : decode prog_1_method_2_code 33 = .ok (.ifCond .ne 5, 3) := by decide +kernel
theorem d_RP_lot_36 : decode prog_1_method_2_code 36 = .ok (.iconst (-1), 1) := by decide +kernel
theorem d_RP_lot_37 : decode prog_1_method_2_code 37 = .ok (.ireturn, 1) := by decide +kernel
theorem d_RP_lot_38 : decode prog_1_method_2_code 38 = .ok (.aload_n 0, 1) := by decide +kernel
theorem d_RP_lot_39 : decode prog_1_method_2_code 39 = .ok (.getfield 12, 3) := by decide +kernel
theorem d_RP_lot_42 : decode prog_1_method_2_code 42 = .ok (.getfield 62, 3) := by decide +kernel
theorem d_RP_lot_45 : decode prog_1_method_2_code 45 = .ok (.istore 4, 2) := by decide +kernel
theorem d_RP_lot_47 : decode prog_1_method_2_code 47 = .ok (.aload_n 0, 1) := by decide +kernel
theorem d_RP_lot_48 : decode prog_1_method_2_code 48 = .ok (.getfield 12, 3) := by decide +kernel
theorem d_RP_lot_51 : decode prog_1_method_2_code 51 = .ok (.getfield 76, 3) := by decide +kernel
theorem d_RP_lot_54 : decode prog_1_method_2_code 54 = .ok (.iload 4, 2) := by decide +kernel
theorem d_RP_lot_56 : decode prog_1_method_2_code 56 = .ok (.iload_n 1, 1) := by decide +kernel
theorem d_RP_lot_57 : decode prog_1_method_2_code 57 = .ok (.iastore, 1) := by decide +kernel
theorem d_RP_lot_58 : decode prog_1_method_2_code 58 = .ok (.aload_n 0, 1) := by decide +kernel
theorem d_RP_lot_59 : decode prog_1_method_2_code 59 = .ok (.getfield 12, 3) := by decide +kernel
theorem d_RP_lot_62 : decode prog_1_method_2_code 62 = .ok (.getfield 80, 3) := by decide +kernel
theorem d_RP_lot_65 : decode prog_1_method_2_code 65 = .ok (.iload 4, 2) := by decide +kernel
theorem d_RP_lot_67 : decode prog_1_method_2_code 67 = .ok (.lload_n 2, 1) := by decide +kernel
theorem d_RP_lot_68 : decode prog_1_method_2_code 68 = .ok (.lastore, 1) := by decide +kernel
theorem d_RP_lot_69 : decode prog_1_method_2_code 69 = .ok (.aload_n 0, 1) := by decide +kernel
theorem d_RP_lot_70 : decode prog_1_method_2_code 70 = .ok (.getfield 12, 3) := by decide +kernel
theorem d_RP_lot_73 : decode prog_1_method_2_code 73 = .ok (.dup, 1) := by decide +kernel
theorem d_RP_lot_74 : decode prog_1_method_2_code 74 = .ok (.getfield 62, 3) := by decide +kernel
theorem d_RP_lot_77 : decode prog_1_method_2_code 77 = .ok (.iconst 1, 1) := by decide +kernel
theorem d_RP_lot_78 : decode prog_1_method_2_code 78 = .ok (.iadd, 1) := by decide +kernel
theorem d_RP_lot_79 : decode prog_1_method_2_code 79 = .ok (.putfield 62, 3) := by decide +kernel
theorem d_RP_lot_82 : decode prog_1_method_2_code 82 = .ok (.iload 4, 2) := by decide +kernel
theorem d_RP_lot_84 : decode prog_1_method_2_code 84 = .ok (.ireturn, 1) := by decide +kernel
theorem d_RP_amount_0 : decode prog_1_method_3_code 0 = .ok (.iload_n 1, 1) := by decide +kernel
theorem d_RP_amount_1 : decode prog_1_method_3_code 1 = .ok (.i2l, 1) := by decide +kernel
theorem d_RP_amount_2 : decode prog_1_method_3_code 2 = .ok (.lconst 0, 1) := by decide +kernel
theorem d_RP_amount_3 : decode prog_1_method_3_code 3 = .ok (.aload_n 0, 1) := by decide +kernel
theorem d_RP_amount_4 : decode prog_1_method_3_code 4 = .ok (.getfield 12, 3) := by decide +kernel
theorem d_RP_amount_7 : decode prog_1_method_3_code 7 = .ok (.getfield 62, 3) := by decide +kernel
theorem d_RP_amount_10 : decode prog_1_method_3_code 10 = .ok (.iconst 1, 1) := by decide +kernel
theorem d_RP_amount_11 : decode prog_1_method_3_code 11 = .ok (.isub, 1) := by decide +kernel
theorem d_RP_amount_12 : decode prog_1_method_3_code 12 = .ok (.i2l, 1) := by decide +kernel
theorem d_RP_amount_13 : decode prog_1_method_3_code 13 = .ok (.invokestatic 68, 3) := by decide +kernel
theorem d_RP_amount_16 : decode prog_1_method_3_code 16 = .ok (.ifCond .eq 24, 3) := by decide +kernel
theorem d_RP_amount_19 : decode prog_1_method_3_code 19 = .ok (.iload_n 2, 1) := by decide +kernel
theorem d_RP_amount_20 : decode prog_1_method_3_code 20 = .ok (.invokestatic 83, 3) := by decide +kernel
theorem d_RP_amount_23 : decode prog_1_method_3_code 23 = .ok (.ifCond .eq 17, 3) := by decide +kernel
theorem d_RP_amount_26 : decode prog_1_method_3_code 26 = .ok (.iload_n 3, 1) := by decide +kernel
theorem d_RP_amount_27 : decode prog_1_method_3_code 27 = .ok (.i2l, 1) := by decide +kernel
theorem d_RP_amount_28 : decode prog_1_method_3_code 28 = .ok (.ldc2_w 87, 3) := by decide +kernel
theorem d_RP_amount_31 : decode prog_1_method_3_code 31 = .ok (.ldc2_w 89, 3) := by decide +kernel
theorem d_RP_amount_34 : decode prog_1_method_3_code 34 = .ok (.invokestatic 68, 3) := by decide +kernel
theorem d_RP_amount_37 : decode prog_1_method_3_code 37 = .ok (.ifCond .ne 5, 3) := by decide +kernel
theorem d_RP_amount_40 : decode prog_1_method_3_code 40 = .ok (.iconst 0, 1) := by decide +kernel
theorem d_RP_amount_41 : decode prog_1_method_3_code 41 = .ok (.ireturn, 1) := by decide +kernel
theorem d_RP_amount_42 : decode prog_1_method_3_code 42 = .ok (.aload_n 0, 1) := by decide +kernel
theorem d_RP_amount_43 : decode prog_1_method_3_code 43 = .ok (.getfield 12, 3) := by decide +kernel
theorem d_RP_amount_46 : decode prog_1_method_3_code 46 = .ok (.getfield 91, 3) := by decide +kernel
theorem d_RP_amount_49 : decode prog_1_method_3_code 49 = .ok (.iload_n 2, 1) := by decide +kernel
theorem d_RP_amount_50 : decode prog_1_method_3_code 50 = .ok (.aaload, 1) := by decide +kernel
theorem d_RP_amount_51 : decode prog_1_method_3_code 51 = .ok (.iload_n 1, 1) := by decide +kernel
theorem d_RP_amount_52 : decode prog_1_method_3_code 52 = .ok (.iload_n 3, 1) := by decide +kernel
theorem d_RP_amount_53 : decode prog_1_method_3_code 53 = .ok (.i2l, 1) := by decide +kernel
theorem d_RP_amount_54 : decode prog_1_method_3_code 54 = .ok (.lastore, 1) := by decide +kernel
theorem d_RP_amount_55 : decode prog_1_method_3_code 55 = .ok (.iconst 1, 1) := by decide +kernel
theorem d_RP_amount_56 : decode prog_1_method_3_code 56 = .ok (.ireturn, 1) := by decide +kernel
theorem d_RP_span_0 : decode prog_1_method_4_code 0 = .ok (.iload_n 1, 1) := by decide +kernel
theorem d_RP_span_1 : decode prog_1_method_4_code 1 = .ok (.invokestatic 83, 3) := by decide +kernel
theorem d_RP_span_4 : decode prog_1_method_4_code 4 = .ok (.ifCond .eq 15, 3) := by decide +kernel
theorem d_RP_span_7 : decode prog_1_method_4_code 7 = .ok (.iload_n 2, 1) := by decide +kernel
theorem d_RP_span_8 : decode prog_1_method_4_code 8 = .ok (.iload_n 3, 1) := by decide +kernel
theorem d_RP_span_9 : decode prog_1_method_4_code 9 = .ok (.ldc 95, 2) := by decide +kernel
theorem d_RP_span_11 : decode prog_1_method_4_code 11 = .ok (.ldc 96, 2) := by decide +kernel
theorem d_RP_span_13 : decode prog_1_method_4_code 13 = .ok (.invokestatic 97, 3) := by decide +kernel
theorem d_RP_span_16 : decode prog_1_method_4_code 16 = .ok (.ifCond .ne 5, 3) := by decide +kernel
theorem d_RP_span_19 : decode prog_1_method_4_code 19 = .ok (.iconst 0, 1) := by decide +kernel
theorem d_RP_span_20 : decode prog_1_method_4_code 20 = .ok (.ireturn, 1) := by decide +kernel
theorem d_RP_span_21 : decode prog_1_method_4_code 21 = .ok (.aload_n 0, 1) := by decide +kernel
theorem d_RP_span_22 : decode prog_1_method_4_code 22 = .ok (.getfield 19, 3) := by decide +kernel
theorem d_RP_span_25 : decode prog_1_method_4_code 25 = .ok (.iload_n 1, 1) := by decide +kernel
theorem d_RP_span_26 : decode prog_1_method_4_code 26 = .ok (.iload_n 1, 1) := by decide +kernel
theorem d_RP_span_27 : decode prog_1_method_4_code 27 = .ok (.bipush 6, 2) := by decide +kernel
theorem d_RP_span_29 : decode prog_1_method_4_code 29 = .ok (.iload_n 2, 1) := by decide +kernel
theorem d_RP_span_30 : decode prog_1_method_4_code 30 = .ok (.iload_n 3, 1) := by decide +kernel
theorem d_RP_span_31 : decode prog_1_method_4_code 31 = .ok (.iconst 1, 1) := by decide +kernel
theorem d_RP_span_32 : decode prog_1_method_4_code 32 = .ok (.invokevirtual 101, 3) := by decide +kernel
theorem d_RP_span_35 : decode prog_1_method_4_code 35 = .ok (.iconst 1, 1) := by decide +kernel
theorem d_RP_span_36 : decode prog_1_method_4_code 36 = .ok (.ireturn, 1) := by decide +kernel
theorem d_RP_ratio_0 : decode prog_1_method_5_code 0 = .ok (.iload_n 1, 1) := by decide +kernel
theorem d_RP_ratio_1 : decode prog_1_method_5_code 1 = .ok (.i2l, 1) := by decide +kernel
theorem d_RP_ratio_2 : decode prog_1_method_5_code 2 = .ok (.lconst 0, 1) := by decide +kernel
theorem d_RP_ratio_3 : decode prog_1_method_5_code 3 = .ok (.lconst 1, 1) := by decide +kernel
theorem d_RP_ratio_4 : decode prog_1_method_5_code 4 = .ok (.invokestatic 68, 3) := by decide +kernel
theorem d_RP_ratio_7 : decode prog_1_method_5_code 7 = .ok (.ifCond .eq 17, 3) := by decide +kernel
theorem d_RP_ratio_10 : decode prog_1_method_5_code 10 = .ok (.iload_n 2, 1) := by decide +kernel
theorem d_RP_ratio_11 : decode prog_1_method_5_code 11 = .ok (.invokestatic 83, 3) := by decide +kernel
theorem d_RP_ratio_14 : decode prog_1_method_5_code 14 = .ok (.ifCond .eq 10, 3) := by decide +kernel
theorem d_RP_ratio_17 : decode prog_1_method_5_code 17 = .ok (.iload_n 3, 1) := by decide +kernel
theorem d_RP_ratio_18 : decode prog_1_method_5_code 18 = .ok (.invokestatic 83, 3) := by decide +kernel
theorem d_RP_ratio_21 : decode prog_1_method_5_code 21 = .ok (.ifCond .ne 5, 3) := by decide +kernel
theorem d_RP_ratio_24 : decode prog_1_method_5_code 24 = .ok (.iconst 0, 1) := by decide +kernel
theorem d_RP_ratio_25 : decode prog_1_method_5_code 25 = .ok (.ireturn, 1) := by decide +kernel
theorem d_RP_ratio_26 : decode prog_1_method_5_code 26 = .ok (.iload 4, 2) := by decide +kernel
theorem d_RP_ratio_28 : decode prog_1_method_5_code 28 = .ok (.iload 5, 2) := by decide +kernel
theorem d_RP_ratio_30 : decode prog_1_method_5_code 30 = .ok (.iconst 0, 1) := by decide +kernel
theorem d_RP_ratio_31 : decode prog_1_method_5_code 31 = .ok (.bipush 100, 2) := by decide +kernel
theorem d_RP_ratio_33 : decode prog_1_method_5_code 33 = .ok (.invokestatic 97, 3) := by decide +kernel
theorem d_RP_ratio_36 : decode prog_1_method_5_code 36 = .ok (.ifCond .eq 16, 3) := by decide +kernel
theorem d_RP_ratio_39 : decode prog_1_method_5_code 39 = .ok (.iload 6, 2) := by decide +kernel
theorem d_RP_ratio_41 : decode prog_1_method_5_code 41 = .ok (.i2l, 1) := by decide +kernel
theorem d_RP_ratio_42 : decode prog_1_method_5_code 42 = .ok (.lconst 1, 1) := by decide +kernel
theorem d_RP_ratio_43 : decode prog_1_method_5_code 43 = .ok (.ldc2_w 89, 3) := by decide +kernel
theorem d_RP_ratio_46 : decode prog_1_method_5_code 46 = .ok (.invokestatic 68, 3) := by decide +kernel
theorem d_RP_ratio_49 : decode prog_1_method_5_code 49 = .ok (.ifCond .ne 5, 3) := by decide +kernel
theorem d_RP_ratio_52 : decode prog_1_method_5_code 52 = .ok (.iconst 0, 1) := by decide +kernel
theorem d_RP_ratio_53 : decode prog_1_method_5_code 53 = .ok (.ireturn, 1) := by decide +kernel
theorem d_RP_ratio_54 : decode prog_1_method_5_code 54 = .ok (.aload_n 0, 1) := by decide +kernel
theorem d_RP_ratio_55 : decode prog_1_method_5_code 55 = .ok (.getfield 19, 3) := by decide +kernel
theorem d_RP_ratio_58 : decode prog_1_method_5_code 58 = .ok (.iconst 5, 1) := by decide +kernel
theorem d_RP_ratio_59 : decode prog_1_method_5_code 59 = .ok (.iload_n 1, 1) := by decide +kernel
theorem d_RP_ratio_60 : decode prog_1_method_5_code 60 = .ok (.iadd, 1) := by decide +kernel
theorem d_RP_ratio_61 : decode prog_1_method_5_code 61 = .ok (.iload_n 2, 1) := by decide +kernel
theorem d_RP_ratio_62 : decode prog_1_method_5_code 62 = .ok (.iload_n 3, 1) := by decide +kernel
theorem d_RP_ratio_63 : decode prog_1_method_5_code 63 = .ok (.iload 4, 2) := by decide +kernel
theorem d_RP_ratio_65 : decode prog_1_method_5_code 65 = .ok (.iload 5, 2) := by decide +kernel
theorem d_RP_ratio_67 : decode prog_1_method_5_code 67 = .ok (.iload 6, 2) := by decide +kernel
theorem d_RP_ratio_69 : decode prog_1_method_5_code 69 = .ok (.invokevirtual 101, 3) := by decide +kernel
theorem d_RP_ratio_72 : decode prog_1_method_5_code 72 = .ok (.iconst 1, 1) := by decide +kernel
theorem d_RP_ratio_73 : decode prog_1_method_5_code 73 = .ok (.ireturn, 1) := by decide +kernel
theorem d_RP_loads_0 : decode prog_1_method_6_code 0 = .ok (.iload_n 1, 1) := by decide +kernel
theorem d_RP_loads_1 : decode prog_1_method_6_code 1 = .ok (.iload_n 2, 1) := by decide +kernel
theorem d_RP_loads_2 : decode prog_1_method_6_code 2 = .ok (.iconst 0, 1) := by decide +kernel
theorem d_RP_loads_3 : decode prog_1_method_6_code 3 = .ok (.bipush 36, 2) := by decide +kernel
theorem d_RP_loads_5 : decode prog_1_method_6_code 5 = .ok (.invokestatic 97, 3) := by decide +kernel
theorem d_RP_loads_8 : decode prog_1_method_6_code 8 = .ok (.ifCond .ne 5, 3) := by decide +kernel
theorem d_RP_loads_11 : decode prog_1_method_6_code 11 = .ok (.iconst 0, 1) := by decide +kernel
theorem d_RP_loads_12 : decode prog_1_method_6_code 12 = .ok (.ireturn, 1) := by decide +kernel
theorem d_RP_loads_13 : decode prog_1_method_6_code 13 = .ok (.aload_n 0, 1) := by decide +kernel
theorem d_RP_loads_14 : decode prog_1_method_6_code 14 = .ok (.getfield 19, 3) := by decide +kernel
theorem d_RP_loads_17 : decode prog_1_method_6_code 17 = .ok (.bipush 7, 2) := by decide +kernel
theorem d_RP_loads_19 : decode prog_1_method_6_code 19 = .ok (.iconst 5, 1) := by decide +kernel
theorem d_RP_loads_20 : decode prog_1_method_6_code 20 = .ok (.bipush 6, 2) := by decide +kernel
theorem d_RP_loads_22 : decode prog_1_method_6_code 22 = .ok (.iload_n 1, 1) := by decide +kernel
theorem d_RP_loads_23 : decode prog_1_method_6_code 23 = .ok (.iload_n 2, 1) := by decide +kernel
theorem d_RP_loads_24 : decode prog_1_method_6_code 24 = .ok (.iconst 1, 1) := by decide +kernel
theorem d_RP_loads_25 : decode prog_1_method_6_code 25 = .ok (.invokevirtual 101, 3) := by decide +kernel
theorem d_RP_loads_28 : decode prog_1_method_6_code 28 = .ok (.iconst 1, 1) := by decide +kernel
theorem d_RP_loads_29 : decode prog_1_method_6_code 29 = .ok (.ireturn, 1) := by decide +kernel
theorem d_RP_untell_0 : decode prog_1_method_7_code 0 = .ok (.iload_n 1, 1) := by decide +kernel
theorem d_RP_untell_1 : decode prog_1_method_7_code 1 = .ok (.i2l, 1) := by decide +kernel
theorem d_RP_untell_2 : decode prog_1_method_7_code 2 = .ok (.lconst 0, 1) := by decide +kernel
theorem d_RP_untell_3 : decode prog_1_method_7_code 3 = .ok (.ldc2_w 105, 3) := by decide +kernel
theorem d_RP_untell_6 : decode prog_1_method_7_code 6 = .ok (.invokestatic 68, 3) := by decide +kernel
theorem d_RP_untell_9 : decode prog_1_method_7_code 9 = .ok (.ifCond .eq 14, 3) := by decide +kernel
theorem d_RP_untell_12 : decode prog_1_method_7_code 12 = .ok (.aload_n 0, 1) := by decide +kernel
theorem d_RP_untell_13 : decode prog_1_method_7_code 13 = .ok (.getfield 19, 3) := by decide +kernel
theorem d_RP_untell_16 : decode prog_1_method_7_code 16 = .ok (.iload_n 1, 1) := by decide +kernel
theorem d_RP_untell_17 : decode prog_1_method_7_code 17 = .ok (.invokevirtual 107, 3) := by decide +kernel
theorem d_RP_untell_20 : decode prog_1_method_7_code 20 = .ok (.ifCond .ne 5, 3) := by decide +kernel
theorem d_RP_untell_23 : decode prog_1_method_7_code 23 = .ok (.iconst 0, 1) := by decide +kernel
theorem d_RP_untell_24 : decode prog_1_method_7_code 24 = .ok (.ireturn, 1) := by decide +kernel
theorem d_RP_untell_25 : decode prog_1_method_7_code 25 = .ok (.aload_n 0, 1) := by decide +kernel
theorem d_RP_untell_26 : decode prog_1_method_7_code 26 = .ok (.getfield 19, 3) := by decide +kernel
theorem d_RP_untell_29 : decode prog_1_method_7_code 29 = .ok (.dup, 1) := by decide +kernel
theorem d_RP_untell_30 : decode prog_1_method_7_code 30 = .ok (.getfield 110, 3) := by decide +kernel
theorem d_RP_untell_33 : decode prog_1_method_7_code 33 = .ok (.iconst 1, 1) := by decide +kernel
theorem d_RP_untell_34 : decode prog_1_method_7_code 34 = .ok (.iload_n 1, 1) := by decide +kernel
theorem d_RP_untell_35 : decode prog_1_method_7_code 35 = .ok (.ishl, 1) := by decide +kernel
theorem d_RP_untell_36 : decode prog_1_method_7_code 36 = .ok (.ixor, 1) := by decide +kernel
theorem d_RP_untell_37 : decode prog_1_method_7_code 37 = .ok (.putfield 110, 3) := by decide +kernel
theorem d_RP_untell_40 : decode prog_1_method_7_code 40 = .ok (.iconst 1, 1) := by decide +kernel
theorem d_RP_untell_41 : decode prog_1_method_7_code 41 = .ok (.ireturn, 1) := by decide +kernel
theorem d_RP_run_0 : decode prog_1_method_8_code 0 = .ok (.aload_n 0, 1) := by decide +kernel
theorem d_RP_run_1 : decode prog_1_method_8_code 1 = .ok (.getfield 26, 3) := by decide +kernel
theorem d_RP_run_4 : decode prog_1_method_8_code 4 = .ok (.aload_n 0, 1) := by decide +kernel
theorem d_RP_run_5 : decode prog_1_method_8_code 5 = .ok (.getfield 12, 3) := by decide +kernel
theorem d_RP_run_8 : decode prog_1_method_8_code 8 = .ok (.aload_n 0, 1) := by decide +kernel
theorem d_RP_run_9 : decode prog_1_method_8_code 9 = .ok (.getfield 19, 3) := by decide +kernel
theorem d_RP_run_12 : decode prog_1_method_8_code 12 = .ok (.invokevirtual 113, 3) := by decide +kernel
theorem d_RP_run_15 : decode prog_1_method_8_code 15 = .ok (.aload_n 0, 1) := by decide +kernel
theorem d_RP_run_16 : decode prog_1_method_8_code 16 = .ok (.getfield 35, 3) := by decide +kernel
theorem d_RP_run_19 : decode prog_1_method_8_code 19 = .ok (.invokevirtual 117, 3) := by decide +kernel
theorem d_RP_run_22 : decode prog_1_method_8_code 22 = .ok (.aload_n 0, 1) := by decide +kernel
theorem d_RP_run_23 : decode prog_1_method_8_code 23 = .ok (.getfield 44, 3) := by decide +kernel
theorem d_RP_run_26 : decode prog_1_method_8_code 26 = .ok (.aload_n 0, 1) := by decide +kernel
theorem d_RP_run_27 : decode prog_1_method_8_code 27 = .ok (.getfield 35, 3) := by decide +kernel
theorem d_RP_run_30 : decode prog_1_method_8_code 30 = .ok (.getfield 120, 3) := by decide +kernel
theorem d_RP_run_33 : decode prog_1_method_8_code 33 = .ok (.invokevirtual 124, 3) := by decide +kernel
theorem d_RP_run_36 : decode prog_1_method_8_code 36 = .ok (.aload_n 0, 1) := by decide +kernel
theorem d_RP_run_37 : decode prog_1_method_8_code 37 = .ok (.getfield 51, 3) := by decide +kernel
theorem d_RP_run_40 : decode prog_1_method_8_code 40 = .ok (.aload_n 0, 1) := by decide +kernel
theorem d_RP_run_41 : decode prog_1_method_8_code 41 = .ok (.getfield 35, 3) := by decide +kernel
theorem d_RP_run_44 : decode prog_1_method_8_code 44 = .ok (.invokevirtual 127, 3) := by decide +kernel
theorem d_RP_run_47 : decode prog_1_method_8_code 47 = .ok (.aload_n 0, 1) := by decide +kernel
theorem d_RP_run_48 : decode prog_1_method_8_code 48 = .ok (.getfield 51, 3) := by decide +kernel
theorem d_RP_run_51 : decode prog_1_method_8_code 51 = .ok (.aload_n 0, 1) := by decide +kernel
theorem d_RP_run_52 : decode prog_1_method_8_code 52 = .ok (.getfield 44, 3) := by decide +kernel
theorem d_RP_run_55 : decode prog_1_method_8_code 55 = .ok (.aload_n 0, 1) := by decide +kernel
theorem d_RP_run_56 : decode prog_1_method_8_code 56 = .ok (.getfield 12, 3) := by decide +kernel
theorem d_RP_run_59 : decode prog_1_method_8_code 59 = .ok (.getfield 62, 3) := by decide +kernel
theorem d_RP_run_62 : decode prog_1_method_8_code 62 = .ok (.invokevirtual 131, 3) := by decide +kernel
theorem d_RP_run_65 : decode prog_1_method_8_code 65 = .ok (.aload_n 0, 1) := by decide +kernel
theorem d_RP_run_66 : decode prog_1_method_8_code 66 = .ok (.getfield 44, 3) := by decide +kernel
theorem d_RP_run_69 : decode prog_1_method_8_code 69 = .ok (.getfield 135, 3) := by decide +kernel
theorem d_RP_run_72 : decode prog_1_method_8_code 72 = .ok (.ifCond .eq 5, 3) := by decide +kernel
theorem d_RP_run_75 : decode prog_1_method_8_code 75 = .ok (.iconst 0, 1) := by decide +kernel
theorem d_RP_run_76 : decode prog_1_method_8_code 76 = .ok (.ireturn, 1) := by decide +kernel
theorem d_RP_run_77 : decode prog_1_method_8_code 77 = .ok (.aload_n 0, 1) := by decide +kernel
theorem d_RP_run_78 : decode prog_1_method_8_code 78 = .ok (.getfield 35, 3) := by decide +kernel
theorem d_RP_run_81 : decode prog_1_method_8_code 81 = .ok (.getfield 120, 3) := by decide +kernel
theorem d_RP_run_84 : decode prog_1_method_8_code 84 = .ok (.ifCond .eq 7, 3) := by decide +kernel
theorem d_RP_run_87 : decode prog_1_method_8_code 87 = .ok (.iconst 1, 1) := by decide +kernel
theorem d_RP_run_88 : decode prog_1_method_8_code 88 = .ok (.goto 4, 3) := by decide +kernel
theorem d_RP_run_91 : decode prog_1_method_8_code 91 = .ok (.iconst 2, 1) := by decide +kernel
theorem d_RP_run_92 : decode prog_1_method_8_code 92 = .ok (.ireturn, 1) := by decide +kernel
theorem d_RP_best_0 : decode prog_1_method_9_code 0 = .ok (.aload_n 0, 1) := by decide +kernel
theorem d_RP_best_1 : decode prog_1_method_9_code 1 = .ok (.getfield 51, 3) := by decide +kernel
theorem d_RP_best_4 : decode prog_1_method_9_code 4 = .ok (.getfield 136, 3) := by decide +kernel
theorem d_RP_best_7 : decode prog_1_method_9_code 7 = .ok (.ifCond .eq 34, 3) := by decide +kernel
theorem d_RP_best_10 : decode prog_1_method_9_code 10 = .ok (.iload_n 1, 1) := by decide +kernel
theorem d_RP_best_11 : decode prog_1_method_9_code 11 = .ok (.i2l, 1) := by decide +kernel
theorem d_RP_best_12 : decode prog_1_method_9_code 12 = .ok (.lconst 0, 1) := by decide +kernel
theorem d_RP_best_13 : decode prog_1_method_9_code 13 = .ok (.aload_n 0, 1) := by decide +kernel
theorem d_RP_best_14 : decode prog_1_method_9_code 14 = .ok (.getfield 51, 3) := by decide +kernel
theorem d_RP_best_17 : decode prog_1_method_9_code 17 = .ok (.getfield 139, 3) := by decide +kernel
theorem d_RP_best_20 : decode prog_1_method_9_code 20 = .ok (.iconst 1, 1) := by decide +kernel
theorem d_RP_best_21 : decode prog_1_method_9_code 21 = .ok (.isub, 1) := by decide +kernel
theorem d_RP_best_22 : decode prog_1_method_9_code 22 = .ok (.i2l, 1) := by decide +kernel
theorem d_RP_best_23 : decode prog_1_method_9_code 23 = .ok (.invokestatic 68, 3) := by decide +kernel
theorem d_RP_best_26 : decode prog_1_method_9_code 26 = .ok (.ifCond .eq 15, 3) := by decide +kernel
theorem d_RP_best_29 : decode prog_1_method_9_code 29 = .ok (.aload_n 0, 1) := by decide +kernel
theorem d_RP_best_30 : decode prog_1_method_9_code 30 = .ok (.getfield 51, 3) := by decide +kernel
theorem d_RP_best_33 : decode prog_1_method_9_code 33 = .ok (.getfield 141, 3) := by decide +kernel
theorem d_RP_best_36 : decode prog_1_method_9_code 36 = .ok (.iload_n 1, 1) := by decide +kernel
theorem d_RP_best_37 : decode prog_1_method_9_code 37 = .ok (.iaload, 1) := by decide +kernel
theorem d_RP_best_38 : decode prog_1_method_9_code 38 = .ok (.goto 4, 3) := by decide +kernel
theorem d_RP_best_41 : decode prog_1_method_9_code 41 = .ok (.iconst (-1), 1) := by decide +kernel
theorem d_RP_best_42 : decode prog_1_method_9_code 42 = .ok (.ireturn, 1) := by decide +kernel
theorem d_RP_cost_0 : decode prog_1_method_10_code 0 = .ok (.aload_n 0, 1) := by decide +kernel
theorem d_RP_cost_1 : decode prog_1_method_10_code 1 = .ok (.getfield 51, 3) := by decide +kernel
theorem d_RP_cost_4 : decode prog_1_method_10_code 4 = .ok (.getfield 136, 3) := by decide +kernel
theorem d_RP_cost_7 : decode prog_1_method_10_code 7 = .ok (.ifCond .eq 13, 3) := by decide +kernel
theorem d_RP_cost_10 : decode prog_1_method_10_code 10 = .ok (.aload_n 0, 1) := by decide +kernel
theorem d_RP_cost_11 : decode prog_1_method_10_code 11 = .ok (.getfield 51, 3) := by decide +kernel
theorem d_RP_cost_14 : decode prog_1_method_10_code 14 = .ok (.getfield 144, 3) := by decide +kernel
theorem d_RP_cost_17 : decode prog_1_method_10_code 17 = .ok (.goto 6, 3) := by decide +kernel
theorem d_RP_cost_20 : decode prog_1_method_10_code 20 = .ok (.ldc2_w 150, 3) := by decide +kernel
theorem d_RP_cost_23 : decode prog_1_method_10_code 23 = .ok (.lreturn, 1) := by decide +kernel
theorem d_RP_cut_0 : decode prog_1_method_11_code 0 = .ok (.aload_n 0, 1) := by decide +kernel
theorem d_RP_cut_1 : decode prog_1_method_11_code 1 = .ok (.getfield 51, 3) := by decide +kernel
theorem d_RP_cut_4 : decode prog_1_method_11_code 4 = .ok (.getfield 152, 3) := by decide +kernel
theorem d_RP_cut_7 : decode prog_1_method_11_code 7 = .ok (.ifCond .eq 13, 3) := by decide +kernel
theorem d_RP_cut_10 : decode prog_1_method_11_code 10 = .ok (.iload_n 1, 1) := by decide +kernel
theorem d_RP_cut_11 : decode prog_1_method_11_code 11 = .ok (.i2l, 1) := by decide +kernel
theorem d_RP_cut_12 : decode prog_1_method_11_code 12 = .ok (.lconst 0, 1) := by decide +kernel
theorem d_RP_cut_13 : decode prog_1_method_11_code 13 = .ok (.lconst 1, 1) := by decide +kernel
theorem d_RP_cut_14 : decode prog_1_method_11_code 14 = .ok (.invokestatic 68, 3) := by decide +kernel
theorem d_RP_cut_17 : decode prog_1_method_11_code 17 = .ok (.ifCond .ne 7, 3) := by decide +kernel
theorem d_RP_cut_20 : decode prog_1_method_11_code 20 = .ok (.ldc2_w 150, 3) := by decide +kernel
theorem d_RP_cut_23 : decode prog_1_method_11_code 23 = .ok (.lreturn, 1) := by decide +kernel
theorem d_RP_cut_24 : decode prog_1_method_11_code 24 = .ok (.iload_n 1, 1) := by decide +kernel
theorem d_RP_cut_25 : decode prog_1_method_11_code 25 = .ok (.ifCond .ne 13, 3) := by decide +kernel
theorem d_RP_cut_28 : decode prog_1_method_11_code 28 = .ok (.aload_n 0, 1) := by decide +kernel
theorem d_RP_cut_29 : decode prog_1_method_11_code 29 = .ok (.getfield 51, 3) := by decide +kernel
theorem d_RP_cut_32 : decode prog_1_method_11_code 32 = .ok (.getfield 155, 3) := by decide +kernel
theorem d_RP_cut_35 : decode prog_1_method_11_code 35 = .ok (.goto 10, 3) := by decide +kernel
theorem d_RP_cut_38 : decode prog_1_method_11_code 38 = .ok (.aload_n 0, 1) := by decide +kernel
theorem d_RP_cut_39 : decode prog_1_method_11_code 39 = .ok (.getfield 51, 3) := by decide +kernel
theorem d_RP_cut_42 : decode prog_1_method_11_code 42 = .ok (.getfield 158, 3) := by decide +kernel
theorem d_RP_cut_45 : decode prog_1_method_11_code 45 = .ok (.lreturn, 1) := by decide +kernel
theorem d_RP_clashes_0 : decode prog_1_method_12_code 0 = .ok (.aload_n 0, 1) := by decide +kernel
theorem d_RP_clashes_1 : decode prog_1_method_12_code 1 = .ok (.getfield 51, 3) := by decide +kernel
theorem d_RP_clashes_4 : decode prog_1_method_12_code 4 = .ok (.getfield 161, 3) := by decide +kernel
theorem d_RP_clashes_7 : decode prog_1_method_12_code 7 = .ok (.ifCond .ne 7, 3) := by decide +kernel
theorem d_RP_clashes_10 : decode prog_1_method_12_code 10 = .ok (.iconst (-1), 1) := by decide +kernel
theorem d_RP_clashes_11 : decode prog_1_method_12_code 11 = .ok (.goto 13, 3) := by decide +kernel
theorem d_RP_clashes_14 : decode prog_1_method_12_code 14 = .ok (.aload_n 0, 1) := by decide +kernel
theorem d_RP_clashes_15 : decode prog_1_method_12_code 15 = .ok (.getfield 51, 3) := by decide +kernel
theorem d_RP_clashes_18 : decode prog_1_method_12_code 18 = .ok (.getfield 161, 3) := by decide +kernel
theorem d_RP_clashes_21 : decode prog_1_method_12_code 21 = .ok (.invokestatic 164, 3) := by decide +kernel
theorem d_RP_clashes_24 : decode prog_1_method_12_code 24 = .ok (.ireturn, 1) := by decide +kernel
theorem d_RP_clash_0 : decode prog_1_method_13_code 0 = .ok (.iload_n 1, 1) := by decide +kernel
theorem d_RP_clash_1 : decode prog_1_method_13_code 1 = .ok (.i2l, 1) := by decide +kernel
theorem d_RP_clash_2 : decode prog_1_method_13_code 2 = .ok (.lconst 0, 1) := by decide +kernel
theorem d_RP_clash_3 : decode prog_1_method_13_code 3 = .ok (.ldc2_w 105, 3) := by decide +kernel
theorem d_RP_clash_6 : decode prog_1_method_13_code 6 = .ok (.invokestatic 68, 3) := by decide +kernel
theorem d_RP_clash_9 : decode prog_1_method_13_code 9 = .ok (.ifCond .eq 21, 3) := by decide +kernel
theorem d_RP_clash_12 : decode prog_1_method_13_code 12 = .ok (.aload_n 0, 1) := by decide +kernel
theorem d_RP_clash_13 : decode prog_1_method_13_code 13 = .ok (.getfield 51, 3) := by decide +kernel
theorem d_RP_clash_16 : decode prog_1_method_13_code 16 = .ok (.getfield 161, 3) := by decide +kernel
theorem d_RP_clash_19 : decode prog_1_method_13_code 19 = .ok (.iload_n 1, 1) := by decide +kernel
theorem d_RP_clash_20 : decode prog_1_method_13_code 20 = .ok (.invokestatic 170, 3) := by decide +kernel
theorem d_RP_clash_23 : decode prog_1_method_13_code 23 = .ok (.ifCond .eq 7, 3) := by decide +kernel
theorem d_RP_clash_26 : decode prog_1_method_13_code 26 = .ok (.iconst 1, 1) := by decide +kernel
theorem d_RP_clash_27 : decode prog_1_method_13_code 27 = .ok (.goto 4, 3) := by decide +kernel
theorem d_RP_clash_30 : decode prog_1_method_13_code 30 = .ok (.iconst 0, 1) := by decide +kernel
theorem d_RP_clash_31 : decode prog_1_method_13_code 31 = .ok (.ireturn, 1) := by decide +kernel
theorem d_RP_broken_0 : decode prog_1_method_14_code 0 = .ok (.aload_n 0, 1) := by decide +kernel
theorem d_RP_broken_1 : decode prog_1_method_14_code 1 = .ok (.getfield 55, 3) := by decide +kernel
theorem d_RP_broken_4 : decode prog_1_method_14_code 4 = .ok (.iconst 0, 1) := by decide +kernel
theorem d_RP_broken_5 : decode prog_1_method_14_code 5 = .ok (.iload_n 1, 1) := by decide +kernel
theorem d_RP_broken_6 : decode prog_1_method_14_code 6 = .ok (.i2l, 1) := by decide +kernel
theorem d_RP_broken_7 : decode prog_1_method_14_code 7 = .ok (.lastore, 1) := by decide +kernel
theorem d_RP_broken_8 : decode prog_1_method_14_code 8 = .ok (.aload_n 0, 1) := by decide +kernel
theorem d_RP_broken_9 : decode prog_1_method_14_code 9 = .ok (.getfield 55, 3) := by decide +kernel
theorem d_RP_broken_12 : decode prog_1_method_14_code 12 = .ok (.iconst 1, 1) := by decide +kernel
theorem d_RP_broken_13 : decode prog_1_method_14_code 13 = .ok (.iload_n 2, 1) := by decide +kernel
theorem d_RP_broken_14 : decode prog_1_method_14_code 14 = .ok (.i2l, 1) := by decide +kernel
theorem d_RP_broken_15 : decode prog_1_method_14_code 15 = .ok (.lastore, 1) := by decide +kernel
theorem d_RP_broken_16 : decode prog_1_method_14_code 16 = .ok (.aload_n 0, 1) := by decide +kernel
theorem d_RP_broken_17 : decode prog_1_method_14_code 17 = .ok (.getfield 55, 3) := by decide +kernel
theorem d_RP_broken_20 : decode prog_1_method_14_code 20 = .ok (.iconst 2, 1) := by decide +kernel
theorem d_RP_broken_21 : decode prog_1_method_14_code 21 = .ok (.iload_n 3, 1) := by decide +kernel
theorem d_RP_broken_22 : decode prog_1_method_14_code 22 = .ok (.i2l, 1) := by decide +kernel
theorem d_RP_broken_23 : decode prog_1_method_14_code 23 = .ok (.lastore, 1) := by decide +kernel
theorem d_RP_broken_24 : decode prog_1_method_14_code 24 = .ok (.aload_n 0, 1) := by decide +kernel
theorem d_RP_broken_25 : decode prog_1_method_14_code 25 = .ok (.getfield 55, 3) := by decide +kernel
theorem d_RP_broken_28 : decode prog_1_method_14_code 28 = .ok (.iconst 3, 1) := by decide +kernel
theorem d_RP_broken_29 : decode prog_1_method_14_code 29 = .ok (.iload 4, 2) := by decide +kernel
theorem d_RP_broken_31 : decode prog_1_method_14_code 31 = .ok (.i2l, 1) := by decide +kernel
theorem d_RP_broken_32 : decode prog_1_method_14_code 32 = .ok (.lastore, 1) := by decide +kernel
theorem d_RP_broken_33 : decode prog_1_method_14_code 33 = .ok (.aload_n 0, 1) := by decide +kernel
theorem d_RP_broken_34 : decode prog_1_method_14_code 34 = .ok (.getfield 55, 3) := by decide +kernel
theorem d_RP_broken_37 : decode prog_1_method_14_code 37 = .ok (.iconst 4, 1) := by decide +kernel
theorem d_RP_broken_38 : decode prog_1_method_14_code 38 = .ok (.lconst 1, 1) := by decide +kernel
theorem d_RP_broken_39 : decode prog_1_method_14_code 39 = .ok (.lastore, 1) := by decide +kernel
theorem d_RP_broken_40 : decode prog_1_method_14_code 40 = .ok (.iconst 0, 1) := by decide +kernel
theorem d_RP_broken_41 : decode prog_1_method_14_code 41 = .ok (.istore 5, 2) := by decide +kernel
theorem d_RP_broken_43 : decode prog_1_method_14_code 43 = .ok (.iload 5, 2) := by decide +kernel
theorem d_RP_broken_45 : decode prog_1_method_14_code 45 = .ok (.iconst 4, 1) := by decide +kernel
theorem d_RP_broken_46 : decode prog_1_method_14_code 46 = .ok (.if_icmp .ge 36, 3) := by decide +kernel
theorem d_RP_broken_49 : decode prog_1_method_14_code 49 = .ok (.aload_n 0, 1) := by decide +kernel
theorem d_RP_broken_50 : decode prog_1_method_14_code 50 = .ok (.getfield 55, 3) := by decide +kernel
theorem d_RP_broken_53 : decode prog_1_method_14_code 53 = .ok (.iload 5, 2) := by decide +kernel
theorem d_RP_broken_55 : decode prog_1_method_14_code 55 = .ok (.laload, 1) := by decide +kernel
theorem d_RP_broken_56 : decode prog_1_method_14_code 56 = .ok (.lconst 0, 1) := by decide +kernel
theorem d_RP_broken_57 : decode prog_1_method_14_code 57 = .ok (.aload_n 0, 1) := by decide +kernel
theorem d_RP_broken_58 : decode prog_1_method_14_code 58 = .ok (.getfield 12, 3) := by decide +kernel
theorem d_RP_broken_61 : decode prog_1_method_14_code 61 = .ok (.getfield 76, 3) := by decide +kernel
theorem d_RP_broken_64 : decode prog_1_method_14_code 64 = .ok (.iload 5, 2) := by decide +kernel
theorem d_RP_broken_66 : decode prog_1_method_14_code 66 = .ok (.iaload, 1) := by decide +kernel
theorem d_RP_broken_67 : decode prog_1_method_14_code 67 = .ok (.i2l, 1) := by decide +kernel
theorem d_RP_broken_68 : decode prog_1_method_14_code 68 = .ok (.invokestatic 68, 3) := by decide +kernel
theorem d_RP_broken_71 : decode prog_1_method_14_code 71 = .ok (.ifCond .ne 5, 3) := by decide +kernel
theorem d_RP_broken_74 : decode prog_1_method_14_code 74 = .ok (.iconst (-1), 1) := by decide +kernel
theorem d_RP_broken_75 : decode prog_1_method_14_code 75 = .ok (.ireturn, 1) := by decide +kernel
theorem d_RP_broken_76 : decode prog_1_method_14_code 76 = .ok (.iinc 5 1, 3) := by decide +kernel
theorem d_RP_broken_79 : decode prog_1_method_14_code 79 = .ok (.goto (-36), 3) := by decide +kernel
theorem d_RP_broken_82 : decode prog_1_method_14_code 82 = .ok (.aload_n 0, 1) := by decide +kernel
theorem d_RP_broken_83 : decode prog_1_method_14_code 83 = .ok (.getfield 12, 3) := by decide +kernel
theorem d_RP_broken_86 : decode prog_1_method_14_code 86 = .ok (.aload_n 0, 1) := by decide +kernel
theorem d_RP_broken_87 : decode prog_1_method_14_code 87 = .ok (.getfield 55, 3) := by decide +kernel
theorem d_RP_broken_90 : decode prog_1_method_14_code 90 = .ok (.aload_n 0, 1) := by decide +kernel
theorem d_RP_broken_91 : decode prog_1_method_14_code 91 = .ok (.getfield 59, 3) := by decide +kernel
theorem d_RP_broken_94 : decode prog_1_method_14_code 94 = .ok (.invokevirtual 174, 3) := by decide +kernel
theorem d_RP_broken_97 : decode prog_1_method_14_code 97 = .ok (.iconst 0, 1) := by decide +kernel
theorem d_RP_broken_98 : decode prog_1_method_14_code 98 = .ok (.istore 5, 2) := by decide +kernel
theorem d_RP_broken_100 : decode prog_1_method_14_code 100 = .ok (.iload 5, 2) := by decide +kernel
theorem d_RP_broken_102 : decode prog_1_method_14_code 102 = .ok (.bipush 8, 2) := by decide +kernel
theorem d_RP_broken_104 : decode prog_1_method_14_code 104 = .ok (.if_icmp .ge 40, 3) := by decide +kernel
theorem d_RP_broken_107 : decode prog_1_method_14_code 107 = .ok (.aload_n 0, 1) := by decide +kernel
theorem d_RP_broken_108 : decode prog_1_method_14_code 108 = .ok (.getfield 19, 3) := by decide +kernel
theorem d_RP_broken_111 : decode prog_1_method_14_code 111 = .ok (.iload 5, 2) := by decide +kernel
theorem d_RP_broken_113 : decode prog_1_method_14_code 113 = .ok (.invokevirtual 107, 3) := by decide +kernel
theorem d_RP_broken_116 : decode prog_1_method_14_code 116 = .ok (.ifCond .eq 22, 3) := by decide +kernel
theorem d_RP_broken_119 : decode prog_1_method_14_code 119 = .ok (.aload_n 0, 1) := by decide +kernel
theorem d_RP_broken_120 : decode prog_1_method_14_code 120 = .ok (.getfield 19, 3) := by decide +kernel
theorem d_RP_broken_123 : decode prog_1_method_14_code 123 = .ok (.iload 5, 2) := by decide +kernel
theorem d_RP_broken_125 : decode prog_1_method_14_code 125 = .ok (.aload_n 0, 1) := by decide +kernel
theorem d_RP_broken_126 : decode prog_1_method_14_code 126 = .ok (.getfield 59, 3) := by decide +kernel
theorem d_RP_broken_129 : decode prog_1_method_14_code 129 = .ok (.invokevirtual 178, 3) := by decide +kernel
theorem d_RP_broken_132 : decode prog_1_method_14_code 132 = .ok (.ifCond .ne 6, 3) := by decide +kernel
theorem d_RP_broken_135 : decode prog_1_method_14_code 135 = .ok (.iload 5, 2) := by decide +kernel
theorem d_RP_broken_137 : decode prog_1_method_14_code 137 = .ok (.ireturn, 1) := by decide +kernel
theorem d_RP_broken_138 : decode prog_1_method_14_code 138 = .ok (.iinc 5 1, 3) := by decide +kernel
theorem d_RP_broken_141 : decode prog_1_method_14_code 141 = .ok (.goto (-41), 3) := by decide +kernel
theorem d_RP_broken_144 : decode prog_1_method_14_code 144 = .ok (.bipush 8, 2) := by decide +kernel
theorem d_RP_broken_146 : decode prog_1_method_14_code 146 = .ok (.ireturn, 1) := by decide +kernel
theorem d_RP_within_0 : decode prog_1_method_15_code 0 = .ok (.lload_n 2, 1) := by decide +kernel
theorem d_RP_within_1 : decode prog_1_method_15_code 1 = .ok (.lload_n 0, 1) := by decide +kernel
theorem d_RP_within_2 : decode prog_1_method_15_code 2 = .ok (.lcmp, 1) := by decide +kernel
theorem d_RP_within_3 : decode prog_1_method_15_code 3 = .ok (.ifCond .gt 14, 3) := by decide +kernel
theorem d_RP_within_6 : decode prog_1_method_15_code 6 = .ok (.lload_n 0, 1) := by decide +kernel
theorem d_RP_within_7 : decode prog_1_method_15_code 7 = .ok (.lload 4, 2) := by decide +kernel
theorem d_RP_within_9 : decode prog_1_method_15_code 9 = .ok (.lcmp, 1) := by decide +kernel
theorem d_RP_within_10 : decode prog_1_method_15_code 10 = .ok (.ifCond .gt 7, 3) := by decide +kernel
theorem d_RP_within_13 : decode prog_1_method_15_code 13 = .ok (.iconst 1, 1) := by decide +kernel
theorem d_RP_within_14 : decode prog_1_method_15_code 14 = .ok (.goto 4, 3) := by decide +kernel
theorem d_RP_within_17 : decode prog_1_method_15_code 17 = .ok (.iconst 0, 1) := by decide +kernel
theorem d_RP_within_18 : decode prog_1_method_15_code 18 = .ok (.ireturn, 1) := by decide +kernel
theorem d_RP_isRange_0 : decode prog_1_method_16_code 0 = .ok (.iload_n 2, 1) := by decide +kernel
theorem d_RP_isRange_1 : decode prog_1_method_16_code 1 = .ok (.iload_n 0, 1) := by decide +kernel
theorem d_RP_isRange_2 : decode prog_1_method_16_code 2 = .ok (.if_icmp .gt 17, 3) := by decide +kernel
theorem d_RP_isRange_5 : decode prog_1_method_16_code 5 = .ok (.iload_n 0, 1) := by decide +kernel
theorem d_RP_isRange_6 : decode prog_1_method_16_code 6 = .ok (.iload_n 1, 1) := by decide +kernel
theorem d_RP_isRange_7 : decode prog_1_method_16_code 7 = .ok (.if_icmp .gt 12, 3) := by decide +kernel
theorem d_RP_isRange_10 : decode prog_1_method_16_code 10 = .ok (.iload_n 1, 1) := by decide +kernel
theorem d_RP_isRange_11 : decode prog_1_method_16_code 11 = .ok (.iload_n 3, 1) := by decide +kernel
theorem d_RP_isRange_12 : decode prog_1_method_16_code 12 = .ok (.if_icmp .gt 7, 3) := by decide +kernel
theorem d_RP_isRange_15 : decode prog_1_method_16_code 15 = .ok (.iconst 1, 1) := by decide +kernel
theorem d_RP_isRange_16 : decode prog_1_method_16_code 16 = .ok (.goto 4, 3) := by decide +kernel
theorem d_RP_isRange_19 : decode prog_1_method_16_code 19 = .ok (.iconst 0, 1) := by decide +kernel
theorem d_RP_isRange_20 : decode prog_1_method_16_code 20 = .ok (.ireturn, 1) := by decide +kernel
theorem d_RP_isWhat_0 : decode prog_1_method_17_code 0 = .ok (.iload_n 0, 1) := by decide +kernel
theorem d_RP_isWhat_1 : decode prog_1_method_17_code 1 = .ok (.i2l, 1) := by decide +kernel
theorem d_RP_isWhat_2 : decode prog_1_method_17_code 2 = .ok (.lconst 0, 1) := by decide +kernel
theorem d_RP_isWhat_3 : decode prog_1_method_17_code 3 = .ok (.ldc2_w 182, 3) := by decide +kernel
theorem d_RP_isWhat_6 : decode prog_1_method_17_code 6 = .ok (.invokestatic 68, 3) := by decide +kernel
theorem d_RP_isWhat_9 : decode prog_1_method_17_code 9 = .ok (.ireturn, 1) := by decide +kernel
theorem d_RP_hasBit_0 : decode prog_1_method_18_code 0 = .ok (.iload_n 0, 1) := by decide +kernel
theorem d_RP_hasBit_1 : decode prog_1_method_18_code 1 = .ok (.iload_n 1, 1) := by decide +kernel
theorem d_RP_hasBit_2 : decode prog_1_method_18_code 2 = .ok (.ishr, 1) := by decide +kernel
theorem d_RP_hasBit_3 : decode prog_1_method_18_code 3 = .ok (.iconst 1, 1) := by decide +kernel
theorem d_RP_hasBit_4 : decode prog_1_method_18_code 4 = .ok (.iand, 1) := by decide +kernel
theorem d_RP_hasBit_5 : decode prog_1_method_18_code 5 = .ok (.ifCond .eq 7, 3) := by decide +kernel
theorem d_RP_hasBit_8 : decode prog_1_method_18_code 8 = .ok (.iconst 1, 1) := by decide +kernel
theorem d_RP_hasBit_9 : decode prog_1_method_18_code 9 = .ok (.goto 4, 3) := by decide +kernel
theorem d_RP_hasBit_12 : decode prog_1_method_18_code 12 = .ok (.iconst 0, 1) := by decide +kernel
theorem d_RP_hasBit_13 : decode prog_1_method_18_code 13 = .ok (.ireturn, 1) := by decide +kernel
theorem d_Lo_init_0 : decode prog_4_method_1_code 0 = .ok (.aload_n 0, 1) := by decide +kernel
theorem d_Lo_init_1 : decode prog_4_method_1_code 1 = .ok (.invokespecial 3, 3) := by decide +kernel
theorem d_Lo_init_4 : decode prog_4_method_1_code 4 = .ok (.aload_n 0, 1) := by decide +kernel
theorem d_Lo_init_5 : decode prog_4_method_1_code 5 = .ok (.iconst 4, 1) := by decide +kernel
theorem d_Lo_init_6 : decode prog_4_method_1_code 6 = .ok (.newarray .int, 2) := by decide +kernel
theorem d_Lo_init_8 : decode prog_4_method_1_code 8 = .ok (.putfield 9, 3) := by decide +kernel
theorem d_Lo_init_11 : decode prog_4_method_1_code 11 = .ok (.aload_n 0, 1) := by decide +kernel
theorem d_Lo_init_12 : decode prog_4_method_1_code 12 = .ok (.iconst 4, 1) := by decide +kernel
theorem d_Lo_init_13 : decode prog_4_method_1_code 13 = .ok (.newarray .long, 2) := by decide +kernel
theorem d_Lo_init_15 : decode prog_4_method_1_code 15 = .ok (.putfield 15, 3) := by decide +kernel
theorem d_Lo_init_18 : decode prog_4_method_1_code 18 = .ok (.aload_n 0, 1) := by decide +kernel
theorem d_Lo_init_19 : decode prog_4_method_1_code 19 = .ok (.bipush 7, 2) := by decide +kernel
theorem d_Lo_init_21 : decode prog_4_method_1_code 21 = .ok (.iconst 5, 1) := by decide +kernel
theorem d_Lo_init_22 : decode prog_4_method_1_code 22 = .ok (.multianewarray 19 2, 4) := by decide +kernel
theorem d_Lo_init_26 : decode prog_4_method_1_code 26 = .ok (.putfield 21, 3) := by decide +kernel
theorem d_Lo_init_29 : decode prog_4_method_1_code 29 = .ok (.iconst 0, 1) := by decide +kernel
theorem d_Lo_init_30 : decode prog_4_method_1_code 30 = .ok (.istore_n 1, 1) := by decide +kernel
theorem d_Lo_init_31 : decode prog_4_method_1_code 31 = .ok (.iload_n 1, 1) := by decide +kernel
theorem d_Lo_init_32 : decode prog_4_method_1_code 32 = .ok (.iconst 4, 1) := by decide +kernel
theorem d_Lo_init_33 : decode prog_4_method_1_code 33 = .ok (.if_icmp .ge 18, 3) := by decide +kernel
theorem d_Lo_init_36 : decode prog_4_method_1_code 36 = .ok (.aload_n 0, 1) := by decide +kernel
theorem d_Lo_init_37 : decode prog_4_method_1_code 37 = .ok (.getfield 21, 3) := by decide +kernel
theorem d_Lo_init_40 : decode prog_4_method_1_code 40 = .ok (.iconst 5, 1) := by decide +kernel
theorem d_Lo_init_41 : decode prog_4_method_1_code 41 = .ok (.aaload, 1) := by decide +kernel
theorem d_Lo_init_42 : decode prog_4_method_1_code 42 = .ok (.iload_n 1, 1) := by decide +kernel
theorem d_Lo_init_43 : decode prog_4_method_1_code 43 = .ok (.lconst 1, 1) := by decide +kernel
theorem d_Lo_init_44 : decode prog_4_method_1_code 44 = .ok (.lastore, 1) := by decide +kernel
theorem d_Lo_init_45 : decode prog_4_method_1_code 45 = .ok (.iinc 1 1, 3) := by decide +kernel
theorem d_Lo_init_48 : decode prog_4_method_1_code 48 = .ok (.goto (-17), 3) := by decide +kernel
theorem d_Lo_init_51 : decode prog_4_method_1_code 51 = .ok (.aload_n 0, 1) := by decide +kernel
theorem d_Lo_init_52 : decode prog_4_method_1_code 52 = .ok (.getfield 21, 3) := by decide +kernel
theorem d_Lo_init_55 : decode prog_4_method_1_code 55 = .ok (.bipush 6, 2) := by decide +kernel
theorem d_Lo_init_57 : decode prog_4_method_1_code 57 = .ok (.aaload, 1) := by decide +kernel
theorem d_Lo_init_58 : decode prog_4_method_1_code 58 = .ok (.iconst 4, 1) := by decide +kernel
theorem d_Lo_init_59 : decode prog_4_method_1_code 59 = .ok (.lconst 1, 1) := by decide +kernel
theorem d_Lo_init_60 : decode prog_4_method_1_code 60 = .ok (.lastore, 1) := by decide +kernel
theorem d_Lo_init_61 : decode prog_4_method_1_code 61 = .ok (.return_, 1) := by decide +kernel
theorem d_Lo_hold_0 : decode prog_4_method_2_code 0 = .ok (.iconst 0, 1) := by decide +kernel
theorem d_Lo_hold_1 : decode prog_4_method_2_code 1 = .ok (.istore_n 3, 1) := by decide +kernel
theorem d_Lo_hold_2 : decode prog_4_method_2_code 2 = .ok (.iload_n 3, 1) := by decide +kernel
theorem d_Lo_hold_3 : decode prog_4_method_2_code 3 = .ok (.bipush 7, 2) := by decide +kernel
theorem d_Lo_hold_5 : decode prog_4_method_2_code 5 = .ok (.if_icmp .ge 55, 3) := by decide +kernel
theorem d_Lo_hold_8 : decode prog_4_method_2_code 8 = .ok (.aload_n 0, 1) := by decide +kernel
theorem d_Lo_hold_9 : decode prog_4_method_2_code 9 = .ok (.getfield 21, 3) := by decide +kernel
theorem d_Lo_hold_12 : decode prog_4_method_2_code 12 = .ok (.iload_n 3, 1) := by decide +kernel
theorem d_Lo_hold_13 : decode prog_4_method_2_code 13 = .ok (.aaload, 1) := by decide +kernel
theorem d_Lo_hold_14 : decode prog_4_method_2_code 14 = .ok (.astore 4, 2) := by decide +kernel
theorem d_Lo_hold_16 : decode prog_4_method_2_code 16 = .ok (.lconst 0, 1) := by decide +kernel
theorem d_Lo_hold_17 : decode prog_4_method_2_code 17 = .ok (.lstore 5, 2) := by decide +kernel
theorem d_Lo_hold_19 : decode prog_4_method_2_code 19 = .ok (.iconst 0, 1) := by decide +kernel
theorem d_Lo_hold_20 : decode prog_4_method_2_code 20 = .ok (.istore 7, 2) := by decide +kernel
theorem d_Lo_hold_22 : decode prog_4_method_2_code 22 = .ok (.iload 7, 2) := by decide +kernel
theorem d_Lo_hold_24 : decode prog_4_method_2_code 24 = .ok (.iconst 5, 1) := by decide +kernel
theorem d_Lo_hold_25 : decode prog_4_method_2_code 25 = .ok (.if_icmp .ge 24, 3) := by decide +kernel
theorem d_Lo_hold_28 : decode prog_4_method_2_code 28 = .ok (.lload 5, 2) := by decide +kernel
theorem d_Lo_hold_30 : decode prog_4_method_2_code 30 = .ok (.aload 4, 2) := by decide +kernel
theorem d_Lo_hold_32 : decode prog_4_method_2_code 32 = .ok (.iload 7, 2) := by decide +kernel
theorem d_Lo_hold_34 : decode prog_4_method_2_code 34 = .ok (.laload, 1) := by decide +kernel
theorem d_Lo_hold_35 : decode prog_4_method_2_code 35 = .ok (.aload_n 1, 1) := by decide +kernel
theorem d_Lo_hold_36 : decode prog_4_method_2_code 36 = .ok (.iload 7, 2) := by decide +kernel
theorem d_Lo_hold_38 : decode prog_4_method_2_code 38 = .ok (.laload, 1) := by decide +kernel
theorem d_Lo_hold_39 : decode prog_4_method_2_code 39 = .ok (.lmul, 1) := by decide +kernel
theorem d_Lo_hold_40 : decode prog_4_method_2_code 40 = .ok (.ladd, 1) := by decide +kernel
theorem d_Lo_hold_41 : decode prog_4_method_2_code 41 = .ok (.lstore 5, 2) := by decide +kernel
theorem d_Lo_hold_43 : decode prog_4_method_2_code 43 = .ok (.iinc 7 1, 3) := by decide +kernel
theorem d_Lo_hold_46 : decode prog_4_method_2_code 46 = .ok (.goto (-24), 3) := by decide +kernel
theorem d_Lo_hold_49 : decode prog_4_method_2_code 49 = .ok (.aload_n 2, 1) := by decide +kernel
theorem d_Lo_hold_50 : decode prog_4_method_2_code 50 = .ok (.iload_n 3, 1) := by decide +kernel
theorem d_Lo_hold_51 : decode prog_4_method_2_code 51 = .ok (.lload 5, 2) := by decide +kernel
theorem d_Lo_hold_53 : decode prog_4_method_2_code 53 = .ok (.lastore, 1) := by decide +kernel
theorem d_Lo_hold_54 : decode prog_4_method_2_code 54 = .ok (.iinc 3 1, 3) := by decide +kernel
theorem d_Lo_hold_57 : decode prog_4_method_2_code 57 = .ok (.goto (-55), 3) := by decide +kernel
theorem d_Lo_hold_60 : decode prog_4_method_2_code 60 = .ok (.return_, 1) := by decide +kernel
theorem d_Lo_price_0 : decode prog_4_method_3_code 0 = .ok (.lconst 0, 1) := by decide +kernel
theorem d_Lo_price_1 : decode prog_4_method_3_code 1 = .ok (.lstore_n 2, 1) := by decide +kernel
theorem d_Lo_price_2 : decode prog_4_method_3_code 2 = .ok (.iconst 0, 1) := by decide +kernel
theorem d_Lo_price_3 : decode prog_4_method_3_code 3 = .ok (.istore 4, 2) := by decide +kernel
theorem d_Lo_price_5 : decode prog_4_method_3_code 5 = .ok (.iload 4, 2) := by decide +kernel
theorem d_Lo_price_7 : decode prog_4_method_3_code 7 = .ok (.iconst 4, 1) := by decide +kernel
theorem d_Lo_price_8 : decode prog_4_method_3_code 8 = .ok (.if_icmp .ge 24, 3) := by decide +kernel
theorem d_Lo_price_11 : decode prog_4_method_3_code 11 = .ok (.lload_n 2, 1) := by decide +kernel
theorem d_Lo_price_12 : decode prog_4_method_3_code 12 = .ok (.aload_n 0, 1) := by decide +kernel
theorem d_Lo_price_13 : decode prog_4_method_3_code 13 = .ok (.getfield 15, 3) := by decide +kernel
theorem d_Lo_price_16 : decode prog_4_method_3_code 16 = .ok (.iload 4, 2) := by decide +kernel
theorem d_Lo_price_18 : decode prog_4_method_3_code 18 = .ok (.laload, 1) := by decide +kernel
theorem d_Lo_price_19 : decode prog_4_method_3_code 19 = .ok (.aload_n 1, 1) := by decide +kernel
theorem d_Lo_price_20 : decode prog_4_method_3_code 20 = .ok (.iload 4, 2) := by decide +kernel
theorem d_Lo_price_22 : decode prog_4_method_3_code 22 = .ok (.laload, 1) := by decide +kernel
theorem d_Lo_price_23 : decode prog_4_method_3_code 23 = .ok (.lmul, 1) := by decide +kernel
theorem d_Lo_price_24 : decode prog_4_method_3_code 24 = .ok (.ladd, 1) := by decide +kernel
theorem d_Lo_price_25 : decode prog_4_method_3_code 25 = .ok (.lstore_n 2, 1) := by decide +kernel
theorem d_Lo_price_26 : decode prog_4_method_3_code 26 = .ok (.iinc 4 1, 3) := by decide +kernel
theorem d_Lo_price_29 : decode prog_4_method_3_code 29 = .ok (.goto (-24), 3) := by decide +kernel
theorem d_Lo_price_32 : decode prog_4_method_3_code 32 = .ok (.lload_n 2, 1) := by decide +kernel
theorem d_Lo_price_33 : decode prog_4_method_3_code 33 = .ok (.lreturn, 1) := by decide +kernel
theorem d_Lo_inStock_0 : decode prog_4_method_4_code 0 = .ok (.iconst 0, 1) := by decide +kernel
theorem d_Lo_inStock_1 : decode prog_4_method_4_code 1 = .ok (.istore_n 1, 1) := by decide +kernel
theorem d_Lo_inStock_2 : decode prog_4_method_4_code 2 = .ok (.iconst 0, 1) := by decide +kernel
theorem d_Lo_inStock_3 : decode prog_4_method_4_code 3 = .ok (.istore_n 2, 1) := by decide +kernel
theorem d_Lo_inStock_4 : decode prog_4_method_4_code 4 = .ok (.iload_n 2, 1) := by decide +kernel
theorem d_Lo_inStock_5 : decode prog_4_method_4_code 5 = .ok (.iconst 4, 1) := by decide +kernel
theorem d_Lo_inStock_6 : decode prog_4_method_4_code 6 = .ok (.if_icmp .ge 24, 3) := by decide +kernel
theorem d_Lo_inStock_9 : decode prog_4_method_4_code 9 = .ok (.aload_n 0, 1) := by decide +kernel
theorem d_Lo_inStock_10 : decode prog_4_method_4_code 10 = .ok (.getfield 9, 3) := by decide +kernel
theorem d_Lo_inStock_13 : decode prog_4_method_4_code 13 = .ok (.iload_n 2, 1) := by decide +kernel
theorem d_Lo_inStock_14 : decode prog_4_method_4_code 14 = .ok (.iaload, 1) := by decide +kernel
theorem d_Lo_inStock_15 : decode prog_4_method_4_code 15 = .ok (.ifCond .le 9, 3) := by decide +kernel
theorem d_Lo_inStock_18 : decode prog_4_method_4_code 18 = .ok (.iload_n 1, 1) := by decide +kernel
theorem d_Lo_inStock_19 : decode prog_4_method_4_code 19 = .ok (.iconst 1, 1) := by decide +kernel
theorem d_Lo_inStock_20 : decode prog_4_method_4_code 20 = .ok (.iload_n 2, 1) := by decide +kernel
theorem d_Lo_inStock_21 : decode prog_4_method_4_code 21 = .ok (.ishl, 1) := by decide +kernel
theorem d_Lo_inStock_22 : decode prog_4_method_4_code 22 = .ok (.ior, 1) := by decide +kernel
theorem d_Lo_inStock_23 : decode prog_4_method_4_code 23 = .ok (.istore_n 1, 1) := by decide +kernel
theorem d_Lo_inStock_24 : decode prog_4_method_4_code 24 = .ok (.iinc 2 1, 3) := by decide +kernel
theorem d_Lo_inStock_27 : decode prog_4_method_4_code 27 = .ok (.goto (-23), 3) := by decide +kernel
theorem d_Lo_inStock_30 : decode prog_4_method_4_code 30 = .ok (.iload_n 1, 1) := by decide +kernel
theorem d_Lo_inStock_31 : decode prog_4_method_4_code 31 = .ok (.ireturn, 1) := by decide +kernel
theorem d_Ru_init_0 : decode prog_5_method_1_code 0 = .ok (.aload_n 0, 1) := by decide +kernel
theorem d_Ru_init_1 : decode prog_5_method_1_code 1 = .ok (.invokespecial 5, 3) := by decide +kernel
theorem d_Ru_init_4 : decode prog_5_method_1_code 4 = .ok (.aload_n 0, 1) := by decide +kernel
theorem d_Ru_init_5 : decode prog_5_method_1_code 5 = .ok (.bipush 8, 2) := by decide +kernel
theorem d_Ru_init_7 : decode prog_5_method_1_code 7 = .ok (.newarray .int, 2) := by decide +kernel
theorem d_Ru_init_9 : decode prog_5_method_1_code 9 = .ok (.putfield 11, 3) := by decide +kernel
theorem d_Ru_init_12 : decode prog_5_method_1_code 12 = .ok (.aload_n 0, 1) := by decide +kernel
theorem d_Ru_init_13 : decode prog_5_method_1_code 13 = .ok (.bipush 8, 2) := by decide +kernel
theorem d_Ru_init_15 : decode prog_5_method_1_code 15 = .ok (.newarray .int, 2) := by decide +kernel
theorem d_Ru_init_17 : decode prog_5_method_1_code 17 = .ok (.putfield 15, 3) := by decide +kernel
theorem d_Ru_init_20 : decode prog_5_method_1_code 20 = .ok (.aload_n 0, 1) := by decide +kernel
theorem d_Ru_init_21 : decode prog_5_method_1_code 21 = .ok (.bipush 8, 2) := by decide +kernel
theorem d_Ru_init_23 : decode prog_5_method_1_code 23 = .ok (.newarray .int, 2) := by decide +kernel
theorem d_Ru_init_25 : decode prog_5_method_1_code 25 = .ok (.putfield 18, 3) := by decide +kernel
theorem d_Ru_init_28 : decode prog_5_method_1_code 28 = .ok (.aload_n 0, 1) := by decide +kernel
theorem d_Ru_init_29 : decode prog_5_method_1_code 29 = .ok (.bipush 8, 2) := by decide +kernel
theorem d_Ru_init_31 : decode prog_5_method_1_code 31 = .ok (.newarray .int, 2) := by decide +kernel
theorem d_Ru_init_33 : decode prog_5_method_1_code 33 = .ok (.putfield 21, 3) := by decide +kernel
theorem d_Ru_init_36 : decode prog_5_method_1_code 36 = .ok (.aload_n 0, 1) := by decide +kernel
theorem d_Ru_init_37 : decode prog_5_method_1_code 37 = .ok (.bipush 8, 2) := by decide +kernel
theorem d_Ru_init_39 : decode prog_5_method_1_code 39 = .ok (.newarray .int, 2) := by decide +kernel
theorem d_Ru_init_41 : decode prog_5_method_1_code 41 = .ok (.putfield 24, 3) := by decide +kernel
theorem d_Ru_init_44 : decode prog_5_method_1_code 44 = .ok (.return_, 1) := by decide +kernel
theorem d_Ru_tell_0 : decode prog_5_method_2_code 0 = .ok (.aload_n 0, 1) := by decide +kernel
theorem d_Ru_tell_1 : decode prog_5_method_2_code 1 = .ok (.getfield 11, 3) := by decide +kernel
theorem d_Ru_tell_4 : decode prog_5_method_2_code 4 = .ok (.iload_n 1, 1) := by decide +kernel
theorem d_Ru_tell_5 : decode prog_5_method_2_code 5 = .ok (.iload_n 2, 1) := by decide +kernel
theorem d_Ru_tell_6 : decode prog_5_method_2_code 6 = .ok (.iastore, 1) := by decide +kernel
theorem d_Ru_tell_7 : decode prog_5_method_2_code 7 = .ok (.aload_n 0, 1) := by decide +kernel
theorem d_Ru_tell_8 : decode prog_5_method_2_code 8 = .ok (.getfield 15, 3) := by decide +kernel
theorem d_Ru_tell_11 : decode prog_5_method_2_code 11 = .ok (.iload_n 1, 1) := by decide +kernel
theorem d_Ru_tell_12 : decode prog_5_method_2_code 12 = .ok (.iload_n 3, 1) := by decide +kernel
theorem d_Ru_tell_13 : decode prog_5_method_2_code 13 = .ok (.iastore, 1) := by decide +kernel
theorem d_Ru_tell_14 : decode prog_5_method_2_code 14 = .ok (.aload_n 0, 1) := by decide +kernel
theorem d_Ru_tell_15 : decode prog_5_method_2_code 15 = .ok (.getfield 18, 3) := by decide +kernel
theorem d_Ru_tell_18 : decode prog_5_method_2_code 18 = .ok (.iload_n 1, 1) := by decide +kernel
theorem d_Ru_tell_19 : decode prog_5_method_2_code 19 = .ok (.iload 4, 2) := by decide +kernel
theorem d_Ru_tell_21 : decode prog_5_method_2_code 21 = .ok (.iastore, 1) := by decide +kernel
theorem d_Ru_tell_22 : decode prog_5_method_2_code 22 = .ok (.aload_n 0, 1) := by decide +kernel
theorem d_Ru_tell_23 : decode prog_5_method_2_code 23 = .ok (.getfield 21, 3) := by decide +kernel
theorem d_Ru_tell_26 : decode prog_5_method_2_code 26 = .ok (.iload_n 1, 1) := by decide +kernel
theorem d_Ru_tell_27 : decode prog_5_method_2_code 27 = .ok (.iload 5, 2) := by decide +kernel
theorem d_Ru_tell_29 : decode prog_5_method_2_code 29 = .ok (.iastore, 1) := by decide +kernel
theorem d_Ru_tell_30 : decode prog_5_method_2_code 30 = .ok (.aload_n 0, 1) := by decide +kernel
theorem d_Ru_tell_31 : decode prog_5_method_2_code 31 = .ok (.getfield 24, 3) := by decide +kernel
theorem d_Ru_tell_34 : decode prog_5_method_2_code 34 = .ok (.iload_n 1, 1) := by decide +kernel
theorem d_Ru_tell_35 : decode prog_5_method_2_code 35 = .ok (.iload 6, 2) := by decide +kernel
theorem d_Ru_tell_37 : decode prog_5_method_2_code 37 = .ok (.iastore, 1) := by decide +kernel
theorem d_Ru_tell_38 : decode prog_5_method_2_code 38 = .ok (.aload_n 0, 1) := by decide +kernel
theorem d_Ru_tell_39 : decode prog_5_method_2_code 39 = .ok (.dup, 1) := by decide +kernel
theorem d_Ru_tell_40 : decode prog_5_method_2_code 40 = .ok (.getfield 27, 3) := by decide +kernel
theorem d_Ru_tell_43 : decode prog_5_method_2_code 43 = .ok (.iconst 1, 1) := by decide +kernel
theorem d_Ru_tell_44 : decode prog_5_method_2_code 44 = .ok (.iload_n 1, 1) := by decide +kernel
theorem d_Ru_tell_45 : decode prog_5_method_2_code 45 = .ok (.ishl, 1) := by decide +kernel
theorem d_Ru_tell_46 : decode prog_5_method_2_code 46 = .ok (.ior, 1) := by decide +kernel
theorem d_Ru_tell_47 : decode prog_5_method_2_code 47 = .ok (.putfield 27, 3) := by decide +kernel
theorem d_Ru_tell_50 : decode prog_5_method_2_code 50 = .ok (.return_, 1) := by decide +kernel
theorem d_Ru_isTold_0 : decode prog_5_method_3_code 0 = .ok (.aload_n 0, 1) := by decide +kernel
theorem d_Ru_isTold_1 : decode prog_5_method_3_code 1 = .ok (.getfield 27, 3) := by decide +kernel
theorem d_Ru_isTold_4 : decode prog_5_method_3_code 4 = .ok (.iload_n 1, 1) := by decide +kernel
theorem d_Ru_isTold_5 : decode prog_5_method_3_code 5 = .ok (.invokestatic 31, 3) := by decide +kernel
theorem d_Ru_isTold_8 : decode prog_5_method_3_code 8 = .ok (.ireturn, 1) := by decide +kernel
theorem d_Ru_keeps_0 : decode prog_5_method_4_code 0 = .ok (.aload_n 2, 1) := by decide +kernel
theorem d_Ru_keeps_1 : decode prog_5_method_4_code 1 = .ok (.aload_n 0, 1) := by decide +kernel
theorem d_Ru_keeps_2 : decode prog_5_method_4_code 2 = .ok (.getfield 11, 3) := by decide +kernel
theorem d_Ru_keeps_5 : decode prog_5_method_4_code 5 = .ok (.iload_n 1, 1) := by decide +kernel
theorem d_Ru_keeps_6 : decode prog_5_method_4_code 6 = .ok (.iaload, 1) := by decide +kernel
theorem d_Ru_keeps_7 : decode prog_5_method_4_code 7 = .ok (.laload, 1) := by decide +kernel
theorem d_Ru_keeps_8 : decode prog_5_method_4_code 8 = .ok (.lstore_n 3, 1) := by decide +kernel
theorem d_Ru_keeps_9 : decode prog_5_method_4_code 9 = .ok (.aload_n 2, 1) := by decide +kernel
theorem d_Ru_keeps_10 : decode prog_5_method_4_code 10 = .ok (.aload_n 0, 1) := by decide +kernel
theorem d_Ru_keeps_11 : decode prog_5_method_4_code 11 = .ok (.getfield 15, 3) := by decide +kernel
theorem d_Ru_keeps_14 : decode prog_5_method_4_code 14 = .ok (.iload_n 1, 1) := by decide +kernel
theorem d_Ru_keeps_15 : decode prog_5_method_4_code 15 = .ok (.iaload, 1) := by decide +kernel
theorem d_Ru_keeps_16 : decode prog_5_method_4_code 16 = .ok (.laload, 1) := by decide +kernel
theorem d_Ru_keeps_17 : decode prog_5_method_4_code 17 = .ok (.lstore 5, 2) := by decide +kernel
theorem d_Ru_keeps_19 : decode prog_5_method_4_code 19 = .ok (.aload_n 0, 1) := by decide +kernel
theorem d_Ru_keeps_20 : decode prog_5_method_4_code 20 = .ok (.getfield 24, 3) := by decide +kernel
theorem d_Ru_keeps_23 : decode prog_5_method_4_code 23 = .ok (.iload_n 1, 1) := by decide +kernel
theorem d_Ru_keeps_24 : decode prog_5_method_4_code 24 = .ok (.iaload, 1) := by decide +kernel
theorem d_Ru_keeps_25 : decode prog_5_method_4_code 25 = .ok (.i2l, 1) := by decide +kernel
theorem d_Ru_keeps_26 : decode prog_5_method_4_code 26 = .ok (.lload_n 3, 1) := by decide +kernel
theorem d_Ru_keeps_27 : decode prog_5_method_4_code 27 = .ok (.aload_n 0, 1) := by decide +kernel
theorem d_Ru_keeps_28 : decode prog_5_method_4_code 28 = .ok (.getfield 18, 3) := by decide +kernel
theorem d_Ru_keeps_31 : decode prog_5_method_4_code 31 = .ok (.iload_n 1, 1) := by decide +kernel
theorem d_Ru_keeps_32 : decode prog_5_method_4_code 32 = .ok (.iaload, 1) := by decide +kernel
theorem d_Ru_keeps_33 : decode prog_5_method_4_code 33 = .ok (.i2l, 1) := by decide +kernel
theorem d_Ru_keeps_34 : decode prog_5_method_4_code 34 = .ok (.lload 5, 2) := by decide +kernel
theorem d_Ru_keeps_36 : decode prog_5_method_4_code 36 = .ok (.invokestatic 35, 3) := by decide +kernel
theorem d_Ru_keeps_39 : decode prog_5_method_4_code 39 = .ok (.ifCond .eq 30, 3) := by decide +kernel
theorem d_Ru_keeps_42 : decode prog_5_method_4_code 42 = .ok (.aload_n 0, 1) := by decide +kernel
theorem d_Ru_keeps_43 : decode prog_5_method_4_code 43 = .ok (.getfield 21, 3) := by decide +kernel
theorem d_Ru_keeps_46 : decode prog_5_method_4_code 46 = .ok (.iload_n 1, 1) := by decide +kernel
theorem d_Ru_keeps_47 : decode prog_5_method_4_code 47 = .ok (.iaload, 1) := by decide +kernel
theorem d_Ru_keeps_48 : decode prog_5_method_4_code 48 = .ok (.i2l, 1) := by decide +kernel
theorem d_Ru_keeps_49 : decode prog_5_method_4_code 49 = .ok (.lload 5, 2) := by decide +kernel
theorem d_Ru_keeps_51 : decode prog_5_method_4_code 51 = .ok (.aload_n 0, 1) := by decide +kernel
theorem d_Ru_keeps_52 : decode prog_5_method_4_code 52 = .ok (.getfield 24, 3) := by decide +kernel
theorem d_Ru_keeps_55 : decode prog_5_method_4_code 55 = .ok (.iload_n 1, 1) := by decide +kernel
theorem d_Ru_keeps_56 : decode prog_5_method_4_code 56 = .ok (.iaload, 1) := by decide +kernel
theorem d_Ru_keeps_57 : decode prog_5_method_4_code 57 = .ok (.i2l, 1) := by decide +kernel
theorem d_Ru_keeps_58 : decode prog_5_method_4_code 58 = .ok (.lload_n 3, 1) := by decide +kernel
theorem d_Ru_keeps_59 : decode prog_5_method_4_code 59 = .ok (.invokestatic 35, 3) := by decide +kernel
theorem d_Ru_keeps_62 : decode prog_5_method_4_code 62 = .ok (.ifCond .eq 7, 3) := by decide +kernel
theorem d_Ru_keeps_65 : decode prog_5_method_4_code 65 = .ok (.iconst 1, 1) := by decide +kernel
theorem d_Ru_keeps_66 : decode prog_5_method_4_code 66 = .ok (.goto 4, 3) := by decide +kernel
theorem d_Ru_keeps_69 : decode prog_5_method_4_code 69 = .ok (.iconst 0, 1) := by decide +kernel
theorem d_Ru_keeps_70 : decode prog_5_method_4_code 70 = .ok (.ireturn, 1) := by decide +kernel
theorem d_Ru_atLeast_0 : decode prog_5_method_5_code 0 = .ok (.lload_n 0, 1) := by decide +kernel
theorem d_Ru_atLeast_1 : decode prog_5_method_5_code 1 = .ok (.lload_n 2, 1) := by decide +kernel
theorem d_Ru_atLeast_2 : decode prog_5_method_5_code 2 = .ok (.bipush 20, 2) := by decide +kernel
theorem d_Ru_atLeast_4 : decode prog_5_method_5_code 4 = .ok (.lshr, 1) := by decide +kernel
theorem d_Ru_atLeast_5 : decode prog_5_method_5_code 5 = .ok (.lmul, 1) := by decide +kernel
theorem d_Ru_atLeast_6 : decode prog_5_method_5_code 6 = .ok (.lload 4, 2) := by decide +kernel
theorem d_Ru_atLeast_8 : decode prog_5_method_5_code 8 = .ok (.lload 6, 2) := by decide +kernel
theorem d_Ru_atLeast_10 : decode prog_5_method_5_code 10 = .ok (.bipush 20, 2) := by decide +kernel
theorem d_Ru_atLeast_12 : decode prog_5_method_5_code 12 = .ok (.lshr, 1) := by decide +kernel
theorem d_Ru_atLeast_13 : decode prog_5_method_5_code 13 = .ok (.lmul, 1) := by decide +kernel
theorem d_Ru_atLeast_14 : decode prog_5_method_5_code 14 = .ok (.lsub, 1) := by decide +kernel
theorem d_Ru_atLeast_15 : decode prog_5_method_5_code 15 = .ok (.lstore 8, 2) := by decide +kernel
theorem d_Ru_atLeast_17 : decode prog_5_method_5_code 17 = .ok (.lload_n 0, 1) := by decide +kernel
theorem d_Ru_atLeast_18 : decode prog_5_method_5_code 18 = .ok (.lload_n 2, 1) := by decide +kernel
theorem d_Ru_atLeast_19 : decode prog_5_method_5_code 19 = .ok (.ldc2_w 39, 3) := by decide +kernel
theorem d_Ru_atLeast_22 : decode prog_5_method_5_code 22 = .ok (.land, 1) := by decide +kernel
theorem d_Ru_atLeast_23 : decode prog_5_method_5_code 23 = .ok (.lmul, 1) := by decide +kernel
theorem d_Ru_atLeast_24 : decode prog_5_method_5_code 24 = .ok (.lload 4, 2) := by decide +kernel
theorem d_Ru_atLeast_26 : decode prog_5_method_5_code 26 = .ok (.lload 6, 2) := by decide +kernel
theorem d_Ru_atLeast_28 : decode prog_5_method_5_code 28 = .ok (.ldc2_w 39, 3) := by decide +kernel
theorem d_Ru_atLeast_31 : decode prog_5_method_5_code 31 = .ok (.land, 1) := by decide +kernel
theorem d_Ru_atLeast_32 : decode prog_5_method_5_code 32 = .ok (.lmul, 1) := by decide +kernel
theorem d_Ru_atLeast_33 : decode prog_5_method_5_code 33 = .ok (.lsub, 1) := by decide +kernel
theorem d_Ru_atLeast_34 : decode prog_5_method_5_code 34 = .ok (.lstore 10, 2) := by decide +kernel
theorem d_Ru_atLeast_36 : decode prog_5_method_5_code 36 = .ok (.lload 8, 2) := by decide +kernel
theorem d_Ru_atLeast_38 : decode prog_5_method_5_code 38 = .ok (.lload 10, 2) := by decide +kernel
theorem d_Ru_atLeast_40 : decode prog_5_method_5_code 40 = .ok (.bipush 20, 2) := by decide +kernel
theorem d_Ru_atLeast_42 : decode prog_5_method_5_code 42 = .ok (.lshr, 1) := by decide +kernel
theorem d_Ru_atLeast_43 : decode prog_5_method_5_code 43 = .ok (.ladd, 1) := by decide +kernel
theorem d_Ru_atLeast_44 : decode prog_5_method_5_code 44 = .ok (.lconst 0, 1) := by decide +kernel
theorem d_Ru_atLeast_45 : decode prog_5_method_5_code 45 = .ok (.lcmp, 1) := by decide +kernel
theorem d_Ru_atLeast_46 : decode prog_5_method_5_code 46 = .ok (.ifCond .lt 7, 3) := by decide +kernel
theorem d_Ru_atLeast_49 : decode prog_5_method_5_code 49 = .ok (.iconst 1, 1) := by decide +kernel
theorem d_Ru_atLeast_50 : decode prog_5_method_5_code 50 = .ok (.goto 4, 3) := by decide +kernel
theorem d_Ru_atLeast_53 : decode prog_5_method_5_code 53 = .ok (.iconst 0, 1) := by decide +kernel
theorem d_Ru_atLeast_54 : decode prog_5_method_5_code 54 = .ok (.ireturn, 1) := by decide +kernel
theorem d_Si_init_0 : decode prog_6_method_1_code 0 = .ok (.aload_n 0, 1) := by decide +kernel
theorem d_Si_init_1 : decode prog_6_method_1_code 1 = .ok (.invokespecial 3, 3) := by decide +kernel
theorem d_Si_init_4 : decode prog_6_method_1_code 4 = .ok (.aload_n 0, 1) := by decide +kernel
theorem d_Si_init_5 : decode prog_6_method_1_code 5 = .ok (.bipush 8, 2) := by decide +kernel
theorem d_Si_init_7 : decode prog_6_method_1_code 7 = .ok (.newarray .int, 2) := by decide +kernel
theorem d_Si_init_9 : decode prog_6_method_1_code 9 = .ok (.putfield 9, 3) := by decide +kernel
theorem d_Si_init_12 : decode prog_6_method_1_code 12 = .ok (.aload_n 0, 1) := by decide +kernel
theorem d_Si_init_13 : decode prog_6_method_1_code 13 = .ok (.bipush 16, 2) := by decide +kernel
theorem d_Si_init_15 : decode prog_6_method_1_code 15 = .ok (.iconst 5, 1) := by decide +kernel
theorem d_Si_init_16 : decode prog_6_method_1_code 16 = .ok (.multianewarray 15 2, 4) := by decide +kernel
theorem d_Si_init_20 : decode prog_6_method_1_code 20 = .ok (.putfield 17, 3) := by decide +kernel
theorem d_Si_init_23 : decode prog_6_method_1_code 23 = .ok (.return_, 1) := by decide +kernel
theorem d_Si_build_0 : decode prog_6_method_2_code 0 = .ok (.aload_n 0, 1) := by decide +kernel
theorem d_Si_build_1 : decode prog_6_method_2_code 1 = .ok (.iconst 0, 1) := by decide +kernel
theorem d_Si_build_2 : decode prog_6_method_2_code 2 = .ok (.putfield 20, 3) := by decide +kernel
theorem d_Si_build_5 : decode prog_6_method_2_code 5 = .ok (.iconst 0, 1) := by decide +kernel
theorem d_Si_build_6 : decode prog_6_method_2_code 6 = .ok (.istore_n 3, 1) := by decide +kernel
theorem d_Si_build_7 : decode prog_6_method_2_code 7 = .ok (.iload_n 3, 1) := by decide +kernel
theorem d_Si_build_8 : decode prog_6_method_2_code 8 = .ok (.bipush 8, 2) := by decide +kernel
theorem d_Si_build_10 : decode prog_6_method_2_code 10 = .ok (.if_icmp .ge 65, 3) := by decide +kernel
theorem d_Si_build_13 : decode prog_6_method_2_code 13 = .ok (.aload_n 2, 1) := by decide +kernel
theorem d_Si_build_14 : decode prog_6_method_2_code 14 = .ok (.iload_n 3, 1) := by decide +kernel
theorem d_Si_build_15 : decode prog_6_method_2_code 15 = .ok (.invokevirtual 24, 3) := by decide +kernel
theorem d_Si_build_18 : decode prog_6_method_2_code 18 = .ok (.ifCond .eq 51, 3) := by decide +kernel
theorem d_Si_build_21 : decode prog_6_method_2_code 21 = .ok (.aload_n 0, 1) := by decide +kernel
theorem d_Si_build_22 : decode prog_6_method_2_code 22 = .ok (.getfield 9, 3) := by decide +kernel
theorem d_Si_build_25 : decode prog_6_method_2_code 25 = .ok (.aload_n 0, 1) := by decide +kernel
theorem d_Si_build_26 : decode prog_6_method_2_code 26 = .ok (.getfield 20, 3) := by decide +kernel
theorem d_Si_build_29 : decode prog_6_method_2_code 29 = .ok (.iload_n 3, 1) := by decide +kernel
theorem d_Si_build_30 : decode prog_6_method_2_code 30 = .ok (.iastore, 1) := by decide +kernel
theorem d_Si_build_31 : decode prog_6_method_2_code 31 = .ok (.aload_n 0, 1) := by decide +kernel
theorem d_Si_build_32 : decode prog_6_method_2_code 32 = .ok (.aload_n 1, 1) := by decide +kernel
theorem d_Si_build_33 : decode prog_6_method_2_code 33 = .ok (.getfield 30, 3) := by decide +kernel
theorem d_Si_build_36 : decode prog_6_method_2_code 36 = .ok (.aload_n 2, 1) := by decide +kernel
theorem d_Si_build_37 : decode prog_6_method_2_code 37 = .ok (.getfield 35, 3) := by decide +kernel
theorem d_Si_build_40 : decode prog_6_method_2_code 40 = .ok (.iload_n 3, 1) := by decide +kernel
theorem d_Si_build_41 : decode prog_6_method_2_code 41 = .ok (.iaload, 1) := by decide +kernel
theorem d_Si_build_42 : decode prog_6_method_2_code 42 = .ok (.aaload, 1) := by decide +kernel
theorem d_Si_build_43 : decode prog_6_method_2_code 43 = .ok (.aload_n 1, 1) := by decide +kernel
theorem d_Si_build_44 : decode prog_6_method_2_code 44 = .ok (.getfield 30, 3) := by decide +kernel
theorem d_Si_build_47 : decode prog_6_method_2_code 47 = .ok (.aload_n 2, 1) := by decide +kernel
theorem d_Si_build_48 : decode prog_6_method_2_code 48 = .ok (.getfield 38, 3) := by decide +kernel
theorem d_Si_build_51 : decode prog_6_method_2_code 51 = .ok (.iload_n 3, 1) := by decide +kernel
theorem d_Si_build_52 : decode prog_6_method_2_code 52 = .ok (.iaload, 1) := by decide +kernel
theorem d_Si_build_53 : decode prog_6_method_2_code 53 = .ok (.aaload, 1) := by decide +kernel
theorem d_Si_build_54 : decode prog_6_method_2_code 54 = .ok (.aload_n 2, 1) := by decide +kernel
theorem d_Si_build_55 : decode prog_6_method_2_code 55 = .ok (.iload_n 3, 1) := by decide +kernel
theorem d_Si_build_56 : decode prog_6_method_2_code 56 = .ok (.invokevirtual 41, 3) := by decide +kernel
theorem d_Si_build_59 : decode prog_6_method_2_code 59 = .ok (.aload_n 0, 1) := by decide +kernel
theorem d_Si_build_60 : decode prog_6_method_2_code 60 = .ok (.dup, 1) := by decide +kernel
theorem d_Si_build_61 : decode prog_6_method_2_code 61 = .ok (.getfield 20, 3) := by decide +kernel
theorem d_Si_build_64 : decode prog_6_method_2_code 64 = .ok (.iconst 1, 1) := by decide +kernel
theorem d_Si_build_65 : decode prog_6_method_2_code 65 = .ok (.iadd, 1) := by decide +kernel
theorem d_Si_build_66 : decode prog_6_method_2_code 66 = .ok (.putfield 20, 3) := by decide +kernel
theorem d_Si_build_69 : decode prog_6_method_2_code 69 = .ok (.iinc 3 1, 3) := by decide +kernel
theorem d_Si_build_72 : decode prog_6_method_2_code 72 = .ok (.goto (-65), 3) := by decide +kernel
theorem d_Si_build_75 : decode prog_6_method_2_code 75 = .ok (.return_, 1) := by decide +kernel
theorem d_Si_fill_0 : decode prog_6_method_3_code 0 = .ok (.aload_n 0, 1) := by decide +kernel
theorem d_Si_fill_1 : decode prog_6_method_3_code 1 = .ok (.getfield 17, 3) := by decide +kernel
theorem d_Si_fill_4 : decode prog_6_method_3_code 4 = .ok (.iconst 2, 1) := by decide +kernel
theorem d_Si_fill_5 : decode prog_6_method_3_code 5 = .ok (.aload_n 0, 1) := by decide +kernel
theorem d_Si_fill_6 : decode prog_6_method_3_code 6 = .ok (.getfield 20, 3) := by decide +kernel
theorem d_Si_fill_9 : decode prog_6_method_3_code 9 = .ok (.imul, 1) := by decide +kernel
theorem d_Si_fill_10 : decode prog_6_method_3_code 10 = .ok (.aaload, 1) := by decide +kernel
theorem d_Si_fill_11 : decode prog_6_method_3_code 11 = .ok (.astore 5, 2) := by decide +kernel
theorem d_Si_fill_13 : decode prog_6_method_3_code 13 = .ok (.aload_n 0, 1) := by decide +kernel
theorem d_Si_fill_14 : decode prog_6_method_3_code 14 = .ok (.getfield 17, 3) := by decide +kernel
theorem d_Si_fill_17 : decode prog_6_method_3_code 17 = .ok (.iconst 2, 1) := by decide +kernel
theorem d_Si_fill_18 : decode prog_6_method_3_code 18 = .ok (.aload_n 0, 1) := by decide +kernel
theorem d_Si_fill_19 : decode prog_6_method_3_code 19 = .ok (.getfield 20, 3) := by decide +kernel
theorem d_Si_fill_22 : decode prog_6_method_3_code 22 = .ok (.imul, 1) := by decide +kernel
theorem d_Si_fill_23 : decode prog_6_method_3_code 23 = .ok (.iconst 1, 1) := by decide +kernel
theorem d_Si_fill_24 : decode prog_6_method_3_code 24 = .ok (.iadd, 1) := by decide +kernel
theorem d_Si_fill_25 : decode prog_6_method_3_code 25 = .ok (.aaload, 1) := by decide +kernel
theorem d_Si_fill_26 : decode prog_6_method_3_code 26 = .ok (.astore 6, 2) := by decide +kernel
theorem d_Si_fill_28 : decode prog_6_method_3_code 28 = .ok (.iconst 0, 1) := by decide +kernel
theorem d_Si_fill_29 : decode prog_6_method_3_code 29 = .ok (.istore 7, 2) := by decide +kernel
theorem d_Si_fill_31 : decode prog_6_method_3_code 31 = .ok (.iload 7, 2) := by decide +kernel
theorem d_Si_fill_33 : decode prog_6_method_3_code 33 = .ok (.iconst 5, 1) := by decide +kernel
theorem d_Si_fill_34 : decode prog_6_method_3_code 34 = .ok (.if_icmp .ge 66, 3) := by decide +kernel
theorem d_Si_fill_37 : decode prog_6_method_3_code 37 = .ok (.aload_n 3, 1) := by decide +kernel
theorem d_Si_fill_38 : decode prog_6_method_3_code 38 = .ok (.getfield 45, 3) := by decide +kernel
theorem d_Si_fill_41 : decode prog_6_method_3_code 41 = .ok (.iload 4, 2) := by decide +kernel
theorem d_Si_fill_43 : decode prog_6_method_3_code 43 = .ok (.iaload, 1) := by decide +kernel
theorem d_Si_fill_44 : decode prog_6_method_3_code 44 = .ok (.i2l, 1) := by decide +kernel
theorem d_Si_fill_45 : decode prog_6_method_3_code 45 = .ok (.aload_n 1, 1) := by decide +kernel
theorem d_Si_fill_46 : decode prog_6_method_3_code 46 = .ok (.iload 7, 2) := by decide +kernel
theorem d_Si_fill_48 : decode prog_6_method_3_code 48 = .ok (.laload, 1) := by decide +kernel
theorem d_Si_fill_49 : decode prog_6_method_3_code 49 = .ok (.lmul, 1) := by decide +kernel
theorem d_Si_fill_50 : decode prog_6_method_3_code 50 = .ok (.lstore 8, 2) := by decide +kernel
theorem d_Si_fill_52 : decode prog_6_method_3_code 52 = .ok (.aload 5, 2) := by decide +kernel
theorem d_Si_fill_54 : decode prog_6_method_3_code 54 = .ok (.iload 7, 2) := by decide +kernel
theorem d_Si_fill_56 : decode prog_6_method_3_code 56 = .ok (.lload 8, 2) := by decide +kernel
theorem d_Si_fill_58 : decode prog_6_method_3_code 58 = .ok (.aload_n 3, 1) := by decide +kernel
theorem d_Si_fill_59 : decode prog_6_method_3_code 59 = .ok (.getfield 48, 3) := by decide +kernel
theorem d_Si_fill_62 : decode prog_6_method_3_code 62 = .ok (.iload 4, 2) := by decide +kernel
theorem d_Si_fill_64 : decode prog_6_method_3_code 64 = .ok (.iaload, 1) := by decide +kernel
theorem d_Si_fill_65 : decode prog_6_method_3_code 65 = .ok (.i2l, 1) := by decide +kernel
theorem d_Si_fill_66 : decode prog_6_method_3_code 66 = .ok (.aload_n 2, 1) := by decide +kernel
theorem d_Si_fill_67 : decode prog_6_method_3_code 67 = .ok (.iload 7, 2) := by decide +kernel
theorem d_Si_fill_69 : decode prog_6_method_3_code 69 = .ok (.laload, 1) := by decide +kernel
theorem d_Si_fill_70 : decode prog_6_method_3_code 70 = .ok (.lmul, 1) := by decide +kernel
theorem d_Si_fill_71 : decode prog_6_method_3_code 71 = .ok (.lsub, 1) := by decide +kernel
theorem d_Si_fill_72 : decode prog_6_method_3_code 72 = .ok (.lastore, 1) := by decide +kernel
theorem d_Si_fill_73 : decode prog_6_method_3_code 73 = .ok (.aload 6, 2) := by decide +kernel
theorem d_Si_fill_75 : decode prog_6_method_3_code 75 = .ok (.iload 7, 2) := by decide +kernel
theorem d_Si_fill_77 : decode prog_6_method_3_code 77 = .ok (.aload_n 3, 1) := by decide +kernel
theorem d_Si_fill_78 : decode prog_6_method_3_code 78 = .ok (.getfield 51, 3) := by decide +kernel
theorem d_Si_fill_81 : decode prog_6_method_3_code 81 = .ok (.iload 4, 2) := by decide +kernel
theorem d_Si_fill_83 : decode prog_6_method_3_code 83 = .ok (.iaload, 1) := by decide +kernel
theorem d_Si_fill_84 : decode prog_6_method_3_code 84 = .ok (.i2l, 1) := by decide +kernel
theorem d_Si_fill_85 : decode prog_6_method_3_code 85 = .ok (.aload_n 2, 1) := by decide +kernel
theorem d_Si_fill_86 : decode prog_6_method_3_code 86 = .ok (.iload 7, 2) := by decide +kernel
theorem d_Si_fill_88 : decode prog_6_method_3_code 88 = .ok (.laload, 1) := by decide +kernel
theorem d_Si_fill_89 : decode prog_6_method_3_code 89 = .ok (.lmul, 1) := by decide +kernel
theorem d_Si_fill_90 : decode prog_6_method_3_code 90 = .ok (.lload 8, 2) := by decide +kernel
theorem d_Si_fill_92 : decode prog_6_method_3_code 92 = .ok (.lsub, 1) := by decide +kernel
theorem d_Si_fill_93 : decode prog_6_method_3_code 93 = .ok (.lastore, 1) := by decide +kernel
theorem d_Si_fill_94 : decode prog_6_method_3_code 94 = .ok (.iinc 7 1, 3) := by decide +kernel
theorem d_Si_fill_97 : decode prog_6_method_3_code 97 = .ok (.goto (-66), 3) := by decide +kernel
theorem d_Si_fill_100 : decode prog_6_method_3_code 100 = .ok (.return_, 1) := by decide +kernel
theorem d_Fo_init_0 : decode prog_3_method_1_code 0 = .ok (.aload_n 0, 1) := by decide +kernel
theorem d_Fo_init_1 : decode prog_3_method_1_code 1 = .ok (.invokespecial 3, 3) := by decide +kernel
theorem d_Fo_init_4 : decode prog_3_method_1_code 4 = .ok (.aload_n 0, 1) := by decide +kernel
theorem d_Fo_init_5 : decode prog_3_method_1_code 5 = .ok (.iconst 4, 1) := by decide +kernel
theorem d_Fo_init_6 : decode prog_3_method_1_code 6 = .ok (.newarray .int, 2) := by decide +kernel
theorem d_Fo_init_8 : decode prog_3_method_1_code 8 = .ok (.putfield 9, 3) := by decide +kernel
theorem d_Fo_init_11 : decode prog_3_method_1_code 11 = .ok (.return_, 1) := by decide +kernel
theorem d_Fo_takeCut_0 : decode prog_3_method_2_code 0 = .ok (.aload_n 1, 1) := by decide +kernel
theorem d_Fo_takeCut_1 : decode prog_3_method_2_code 1 = .ok (.invokevirtual 15, 3) := by decide +kernel
theorem d_Fo_takeCut_4 : decode prog_3_method_2_code 4 = .ok (.lstore_n 2, 1) := by decide +kernel
theorem d_Fo_takeCut_5 : decode prog_3_method_2_code 5 = .ok (.aload_n 0, 1) := by decide +kernel
theorem d_Fo_takeCut_6 : decode prog_3_method_2_code 6 = .ok (.aload_n 1, 1) := by decide +kernel
theorem d_Fo_takeCut_7 : decode prog_3_method_2_code 7 = .ok (.getfield 21, 3) := by decide +kernel
theorem d_Fo_takeCut_10 : decode prog_3_method_2_code 10 = .ok (.putfield 25, 3) := by decide +kernel
theorem d_Fo_takeCut_13 : decode prog_3_method_2_code 13 = .ok (.lload_n 2, 1) := by decide +kernel
theorem d_Fo_takeCut_14 : decode prog_3_method_2_code 14 = .ok (.lconst 0, 1) := by decide +kernel
theorem d_Fo_takeCut_15 : decode prog_3_method_2_code 15 = .ok (.lcmp, 1) := by decide +kernel
theorem d_Fo_takeCut_16 : decode prog_3_method_2_code 16 = .ok (.ifCond .le 23, 3) := by decide +kernel
theorem d_Fo_takeCut_19 : decode prog_3_method_2_code 19 = .ok (.aload_n 0, 1) := by decide +kernel
theorem d_Fo_takeCut_20 : decode prog_3_method_2_code 20 = .ok (.aload_n 1, 1) := by decide +kernel
theorem d_Fo_takeCut_21 : decode prog_3_method_2_code 21 = .ok (.getfield 28, 3) := by decide +kernel
theorem d_Fo_takeCut_24 : decode prog_3_method_2_code 24 = .ok (.lload_n 2, 1) := by decide +kernel
theorem d_Fo_takeCut_25 : decode prog_3_method_2_code 25 = .ok (.ldiv, 1) := by decide +kernel
theorem d_Fo_takeCut_26 : decode prog_3_method_2_code 26 = .ok (.putfield 32, 3) := by decide +kernel
theorem d_Fo_takeCut_29 : decode prog_3_method_2_code 29 = .ok (.aload_n 0, 1) := by decide +kernel
theorem d_Fo_takeCut_30 : decode prog_3_method_2_code 30 = .ok (.aload_n 1, 1) := by decide +kernel
theorem d_Fo_takeCut_31 : decode prog_3_method_2_code 31 = .ok (.getfield 33, 3) := by decide +kernel
theorem d_Fo_takeCut_34 : decode prog_3_method_2_code 34 = .ok (.lload_n 2, 1) := by decide +kernel
theorem d_Fo_takeCut_35 : decode prog_3_method_2_code 35 = .ok (.ldiv, 1) := by decide +kernel
theorem d_Fo_takeCut_36 : decode prog_3_method_2_code 36 = .ok (.putfield 36, 3) := by decide +kernel
theorem d_Fo_takeCut_39 : decode prog_3_method_2_code 39 = .ok (.aload_n 0, 1) := by decide +kernel
theorem d_Fo_takeCut_40 : decode prog_3_method_2_code 40 = .ok (.aload_n 1, 1) := by decide +kernel
theorem d_Fo_takeCut_41 : decode prog_3_method_2_code 41 = .ok (.getfield 21, 3) := by decide +kernel
theorem d_Fo_takeCut_44 : decode prog_3_method_2_code 44 = .ok (.ifCond .eq 7, 3) := by decide +kernel
theorem d_Fo_takeCut_47 : decode prog_3_method_2_code 47 = .ok (.iconst 0, 1) := by decide +kernel
theorem d_Fo_takeCut_48 : decode prog_3_method_2_code 48 = .ok (.goto 7, 3) := by decide +kernel
theorem d_Fo_takeCut_51 : decode prog_3_method_2_code 51 = .ok (.aload_n 1, 1) := by decide +kernel
theorem d_Fo_takeCut_52 : decode prog_3_method_2_code 52 = .ok (.invokevirtual 37, 3) := by decide +kernel
theorem d_Fo_takeCut_55 : decode prog_3_method_2_code 55 = .ok (.putfield 41, 3) := by decide +kernel
theorem d_Fo_takeCut_58 : decode prog_3_method_2_code 58 = .ok (.return_, 1) := by decide +kernel
theorem d_Fo_takeWhole_0 : decode prog_3_method_3_code 0 = .ok (.aload_n 0, 1) := by decide +kernel
theorem d_Fo_takeWhole_1 : decode prog_3_method_3_code 1 = .ok (.aload_n 1, 1) := by decide +kernel
theorem d_Fo_takeWhole_2 : decode prog_3_method_3_code 2 = .ok (.getfield 45, 3) := by decide +kernel
theorem d_Fo_takeWhole_5 : decode prog_3_method_3_code 5 = .ok (.putfield 48, 3) := by decide +kernel
theorem d_Fo_takeWhole_8 : decode prog_3_method_3_code 8 = .ok (.aload_n 0, 1) := by decide +kernel
theorem d_Fo_takeWhole_9 : decode prog_3_method_3_code 9 = .ok (.iload_n 2, 1) := by decide +kernel
theorem d_Fo_takeWhole_10 : decode prog_3_method_3_code 10 = .ok (.putfield 51, 3) := by decide +kernel
theorem d_Fo_takeWhole_13 : decode prog_3_method_3_code 13 = .ok (.aload_n 0, 1) := by decide +kernel
theorem d_Fo_takeWhole_14 : decode prog_3_method_3_code 14 = .ok (.aload_n 1, 1) := by decide +kernel
theorem d_Fo_takeWhole_15 : decode prog_3_method_3_code 15 = .ok (.getfield 54, 3) := by decide +kernel
theorem d_Fo_takeWhole_18 : decode prog_3_method_3_code 18 = .ok (.putfield 57, 3) := by decide +kernel
theorem d_Fo_takeWhole_21 : decode prog_3_method_3_code 21 = .ok (.iconst 0, 1) := by decide +kernel
theorem d_Fo_takeWhole_22 : decode prog_3_method_3_code 22 = .ok (.istore_n 3, 1) := by decide +kernel
theorem d_Fo_takeWhole_23 : decode prog_3_method_3_code 23 = .ok (.iload_n 3, 1) := by decide +kernel
theorem d_Fo_takeWhole_24 : decode prog_3_method_3_code 24 = .ok (.iconst 4, 1) := by decide +kernel
theorem d_Fo_takeWhole_25 : decode prog_3_method_3_code 25 = .ok (.if_icmp .ge 21, 3) := by decide +kernel
theorem d_Fo_takeWhole_28 : decode prog_3_method_3_code 28 = .ok (.aload_n 0, 1) := by decide +kernel
theorem d_Fo_takeWhole_29 : decode prog_3_method_3_code 29 = .ok (.getfield 9, 3) := by decide +kernel
theorem d_Fo_takeWhole_32 : decode prog_3_method_3_code 32 = .ok (.iload_n 3, 1) := by decide +kernel
theorem d_Fo_takeWhole_33 : decode prog_3_method_3_code 33 = .ok (.aload_n 1, 1) := by decide +kernel
theorem d_Fo_takeWhole_34 : decode prog_3_method_3_code 34 = .ok (.getfield 58, 3) := by decide +kernel
theorem d_Fo_takeWhole_37 : decode prog_3_method_3_code 37 = .ok (.iload_n 3, 1) := by decide +kernel
theorem d_Fo_takeWhole_38 : decode prog_3_method_3_code 38 = .ok (.iaload, 1) := by decide +kernel
theorem d_Fo_takeWhole_39 : decode prog_3_method_3_code 39 = .ok (.iastore, 1) := by decide +kernel
theorem d_Fo_takeWhole_40 : decode prog_3_method_3_code 40 = .ok (.iinc 3 1, 3) := by decide +kernel
theorem d_Fo_takeWhole_43 : decode prog_3_method_3_code 43 = .ok (.goto (-20), 3) := by decide +kernel
theorem d_Fo_takeWhole_46 : decode prog_3_method_3_code 46 = .ok (.return_, 1) := by decide +kernel
end
section
theorem d_CS_init_0 : decode prog_2_method_1_code 0 = .ok (.aload_n 0, 1) := by decide +kernel
theorem d_CS_init_1 : decode prog_2_method_1_code 1 = .ok (.invokespecial 3, 3) := by decide +kernel
theorem d_CS_init_4 : decode prog_2_method_1_code 4 = .ok (.aload_n 0, 1) := by decide +kernel
theorem d_CS_init_5 : decode prog_2_method_1_code 5 = .ok (.aload_n 1, 1) := by decide +kernel
theorem d_CS_init_6 : decode prog_2_method_1_code 6 = .ok (.putfield 9, 3) := by decide +kernel
theorem d_CS_init_9 : decode prog_2_method_1_code 9 = .ok (.aload_n 0, 1) := by decide +kernel
theorem d_CS_init_10 : decode prog_2_method_1_code 10 = .ok (.aload_n 2, 1) := by decide +kernel
theorem d_CS_init_11 : decode prog_2_method_1_code 11 = .ok (.putfield 15, 3) := by decide +kernel
theorem d_CS_init_14 : decode prog_2_method_1_code 14 = .ok (.aload_n 0, 1) := by decide +kernel
theorem d_CS_init_15 : decode prog_2_method_1_code 15 = .ok (.aload_n 3, 1) := by decide +kernel
theorem d_CS_init_16 : decode prog_2_method_1_code 16 = .ok (.putfield 19, 3) := by decide +kernel
theorem d_CS_init_19 : decode prog_2_method_1_code 19 = .ok (.aload_n 0, 1) := by decide +kernel
theorem d_CS_init_20 : decode prog_2_method_1_code 20 = .ok (.iconst 5, 1) := by decide +kernel
theorem d_CS_init_21 : decode prog_2_method_1_code 21 = .ok (.bipush 32, 2) := by decide +kernel
theorem d_CS_init_23 : decode prog_2_method_1_code 23 = .ok (.multianewarray 23 2, 4) := by decide +kernel
theorem d_CS_init_27 : decode prog_2_method_1_code 27 = .ok (.putfield 25, 3) := by decide +kernel
theorem d_CS_init_30 : decode prog_2_method_1_code 30 = .ok (.aload_n 0, 1) := by decide +kernel
theorem d_CS_init_31 : decode prog_2_method_1_code 31 = .ok (.iconst 5, 1) := by decide +kernel
theorem d_CS_init_32 : decode prog_2_method_1_code 32 = .ok (.newarray .long, 2) := by decide +kernel
theorem d_CS_init_34 : decode prog_2_method_1_code 34 = .ok (.putfield 28, 3) := by decide +kernel
theorem d_CS_init_37 : decode prog_2_method_1_code 37 = .ok (.aload_n 0, 1) := by decide +kernel
theorem d_CS_init_38 : decode prog_2_method_1_code 38 = .ok (.bipush 7, 2) := by decide +kernel
theorem d_CS_init_40 : decode prog_2_method_1_code 40 = .ok (.newarray .long, 2) := by decide +kernel
theorem d_CS_init_42 : decode prog_2_method_1_code 42 = .ok (.putfield 32, 3) := by decide +kernel
theorem d_CS_init_45 : decode prog_2_method_1_code 45 = .ok (.aload_n 0, 1) := by decide +kernel
theorem d_CS_init_46 : decode prog_2_method_1_code 46 = .ok (.sipush 256, 3) := by decide +kernel
theorem d_CS_init_49 : decode prog_2_method_1_code 49 = .ok (.newarray .boolean, 2) := by decide +kernel
theorem d_CS_init_51 : decode prog_2_method_1_code 51 = .ok (.putfield 35, 3) := by decide +kernel
theorem d_CS_init_54 : decode prog_2_method_1_code 54 = .ok (.aload_n 0, 1) := by decide +kernel
theorem d_CS_init_55 : decode prog_2_method_1_code 55 = .ok (.sipush 256, 3) := by decide +kernel
theorem d_CS_init_58 : decode prog_2_method_1_code 58 = .ok (.newarray .int, 2) := by decide +kernel
theorem d_CS_init_60 : decode prog_2_method_1_code 60 = .ok (.putfield 39, 3) := by decide +kernel
theorem d_CS_init_63 : decode prog_2_method_1_code 63 = .ok (.return_, 1) := by decide +kernel
theorem d_CS_search_0 : decode prog_2_method_2_code 0 = .ok (.aload_n 0, 1) := by decide +kernel
theorem d_CS_search_1 : decode prog_2_method_2_code 1 = .ok (.invokevirtual 43, 3) := by decide +kernel
theorem d_CS_search_4 : decode prog_2_method_2_code 4 = .ok (.aload_n 0, 1) := by decide +kernel
theorem d_CS_search_5 : decode prog_2_method_2_code 5 = .ok (.iconst 0, 1) := by decide +kernel
theorem d_CS_search_6 : decode prog_2_method_2_code 6 = .ok (.iconst 0, 1) := by decide +kernel
theorem d_CS_search_7 : decode prog_2_method_2_code 7 = .ok (.invokevirtual 46, 3) := by decide +kernel
theorem d_CS_search_10 : decode prog_2_method_2_code 10 = .ok (.return_, 1) := by decide +kernel
theorem d_CS_begin_0 : decode prog_2_method_3_code 0 = .ok (.iconst 0, 1) := by decide +kernel
theorem d_CS_begin_1 : decode prog_2_method_3_code 1 = .ok (.istore_n 1, 1) := by decide +kernel
theorem d_CS_begin_2 : decode prog_2_method_3_code 2 = .ok (.iload_n 1, 1) := by decide +kernel
theorem d_CS_begin_3 : decode prog_2_method_3_code 3 = .ok (.aload_n 0, 1) := by decide +kernel
theorem d_CS_begin_4 : decode prog_2_method_3_code 4 = .ok (.getfield 50, 3) := by decide +kernel
theorem d_CS_begin_7 : decode prog_2_method_3_code 7 = .ok (.if_icmp .ge 21, 3) := by decide +kernel
theorem d_CS_begin_10 : decode prog_2_method_3_code 10 = .ok (.aload_n 0, 1) := by decide +kernel
theorem d_CS_begin_11 : decode prog_2_method_3_code 11 = .ok (.getfield 35, 3) := by decide +kernel
theorem d_CS_begin_14 : decode prog_2_method_3_code 14 = .ok (.aload_n 0, 1) := by decide +kernel
theorem d_CS_begin_15 : decode prog_2_method_3_code 15 = .ok (.getfield 39, 3) := by decide +kernel
theorem d_CS_begin_18 : decode prog_2_method_3_code 18 = .ok (.iload_n 1, 1) := by decide +kernel
theorem d_CS_begin_19 : decode prog_2_method_3_code 19 = .ok (.iaload, 1) := by decide +kernel
theorem d_CS_begin_20 : decode prog_2_method_3_code 20 = .ok (.iconst 0, 1) := by decide +kernel
theorem d_CS_begin_21 : decode prog_2_method_3_code 21 = .ok (.bastore, 1) := by decide +kernel
theorem d_CS_begin_22 : decode prog_2_method_3_code 22 = .ok (.iinc 1 1, 3) := by decide +kernel
theorem d_CS_begin_25 : decode prog_2_method_3_code 25 = .ok (.goto (-23), 3) := by decide +kernel
theorem d_CS_begin_28 : decode prog_2_method_3_code 28 = .ok (.aload_n 0, 1) := by decide +kernel
theorem d_CS_begin_29 : decode prog_2_method_3_code 29 = .ok (.iconst 0, 1) := by decide +kernel
theorem d_CS_begin_30 : decode prog_2_method_3_code 30 = .ok (.putfield 50, 3) := by decide +kernel
theorem d_CS_begin_33 : decode prog_2_method_3_code 33 = .ok (.aload_n 0, 1) := by decide +kernel
theorem d_CS_begin_34 : decode prog_2_method_3_code 34 = .ok (.iconst 0, 1) := by decide +kernel
theorem d_CS_begin_35 : decode prog_2_method_3_code 35 = .ok (.putfield 54, 3) := by decide +kernel
theorem d_CS_begin_38 : decode prog_2_method_3_code 38 = .ok (.aload_n 0, 1) := by decide +kernel
theorem d_CS_begin_39 : decode prog_2_method_3_code 39 = .ok (.lconst 0, 1) := by decide +kernel
theorem d_CS_begin_40 : decode prog_2_method_3_code 40 = .ok (.putfield 58, 3) := by decide +kernel
theorem d_CS_begin_43 : decode prog_2_method_3_code 43 = .ok (.aload_n 0, 1) := by decide +kernel
theorem d_CS_begin_44 : decode prog_2_method_3_code 44 = .ok (.lconst 1, 1) := by decide +kernel
theorem d_CS_begin_45 : decode prog_2_method_3_code 45 = .ok (.putfield 62, 3) := by decide +kernel
theorem d_CS_begin_48 : decode prog_2_method_3_code 48 = .ok (.aload_n 0, 1) := by decide +kernel
theorem d_CS_begin_49 : decode prog_2_method_3_code 49 = .ok (.aload_n 0, 1) := by decide +kernel
theorem d_CS_begin_50 : decode prog_2_method_3_code 50 = .ok (.getfield 9, 3) := by decide +kernel
theorem d_CS_begin_53 : decode prog_2_method_3_code 53 = .ok (.invokevirtual 65, 3) := by decide +kernel
theorem d_CS_begin_56 : decode prog_2_method_3_code 56 = .ok (.putfield 71, 3) := by decide +kernel
theorem d_CS_begin_59 : decode prog_2_method_3_code 59 = .ok (.aload_n 0, 1) := by decide +kernel
theorem d_CS_begin_60 : decode prog_2_method_3_code 60 = .ok (.getfield 25, 3) := by decide +kernel
theorem d_CS_begin_63 : decode prog_2_method_3_code 63 = .ok (.iconst 0, 1) := by decide +kernel
theorem d_CS_begin_64 : decode prog_2_method_3_code 64 = .ok (.aaload, 1) := by decide +kernel
theorem d_CS_begin_65 : decode prog_2_method_3_code 65 = .ok (.iconst 0, 1) := by decide +kernel
theorem d_CS_begin_66 : decode prog_2_method_3_code 66 = .ok (.lconst 1, 1) := by decide +kernel
theorem d_CS_begin_67 : decode prog_2_method_3_code 67 = .ok (.lastore, 1) := by decide +kernel
theorem d_CS_begin_68 : decode prog_2_method_3_code 68 = .ok (.return_, 1) := by decide +kernel
theorem d_CS_tighten_0 : decode prog_2_method_4_code 0 = .ok (.iload_n 1, 1) := by decide +kernel
theorem d_CS_tighten_1 : decode prog_2_method_4_code 1 = .ok (.ifCond .lt 12, 3) := by decide +kernel
theorem d_CS_tighten_4 : decode prog_2_method_4_code 4 = .ok (.iload_n 2, 1) := by decide +kernel
theorem d_CS_tighten_5 : decode prog_2_method_4_code 5 = .ok (.ifCond .lt 8, 3) := by decide +kernel
theorem d_CS_tighten_8 : decode prog_2_method_4_code 8 = .ok (.iload_n 2, 1) := by decide +kernel
theorem d_CS_tighten_9 : decode prog_2_method_4_code 9 = .ok (.iconst 4, 1) := by decide +kernel
theorem d_CS_tighten_10 : decode prog_2_method_4_code 10 = .ok (.if_icmp .le 4, 3) := by decide +kernel
theorem d_CS_tighten_13 : decode prog_2_method_4_code 13 = .ok (.return_, 1) := by decide +kernel
theorem d_CS_tighten_14 : decode prog_2_method_4_code 14 = .ok (.aload_n 0, 1) := by decide +kernel
theorem d_CS_tighten_15 : decode prog_2_method_4_code 15 = .ok (.iload_n 2, 1) := by decide +kernel
theorem d_CS_tighten_16 : decode prog_2_method_4_code 16 = .ok (.invokevirtual 74, 3) := by decide +kernel
theorem d_CS_tighten_19 : decode prog_2_method_4_code 19 = .ok (.iload_n 1, 1) := by decide +kernel
theorem d_CS_tighten_20 : decode prog_2_method_4_code 20 = .ok (.istore_n 3, 1) := by decide +kernel
theorem d_CS_tighten_21 : decode prog_2_method_4_code 21 = .ok (.iload_n 3, 1) := by decide +kernel
theorem d_CS_tighten_22 : decode prog_2_method_4_code 22 = .ok (.aload_n 0, 1) := by decide +kernel
theorem d_CS_tighten_23 : decode prog_2_method_4_code 23 = .ok (.getfield 19, 3) := by decide +kernel
theorem d_CS_tighten_26 : decode prog_2_method_4_code 26 = .ok (.getfield 78, 3) := by decide +kernel
theorem d_CS_tighten_29 : decode prog_2_method_4_code 29 = .ok (.if_icmp .ge 131, 3) := by decide +kernel
theorem d_CS_tighten_32 : decode prog_2_method_4_code 32 = .ok (.iload_n 2, 1) := by decide +kernel
theorem d_CS_tighten_33 : decode prog_2_method_4_code 33 = .ok (.iconst 4, 1) := by decide +kernel
theorem d_CS_tighten_34 : decode prog_2_method_4_code 34 = .ok (.if_icmp .ge 126, 3) := by decide +kernel
theorem d_CS_tighten_37 : decode prog_2_method_4_code 37 = .ok (.aload_n 0, 1) := by decide +kernel
theorem d_CS_tighten_38 : decode prog_2_method_4_code 38 = .ok (.getfield 19, 3) := by decide +kernel
theorem d_CS_tighten_41 : decode prog_2_method_4_code 41 = .ok (.getfield 83, 3) := by decide +kernel
theorem d_CS_tighten_44 : decode prog_2_method_4_code 44 = .ok (.iload_n 3, 1) := by decide +kernel
theorem d_CS_tighten_45 : decode prog_2_method_4_code 45 = .ok (.iaload, 1) := by decide +kernel
theorem d_CS_tighten_46 : decode prog_2_method_4_code 46 = .ok (.istore 4, 2) := by decide +kernel
theorem d_CS_tighten_48 : decode prog_2_method_4_code 48 = .ok (.aload_n 0, 1) := by decide +kernel
theorem d_CS_tighten_49 : decode prog_2_method_4_code 49 = .ok (.iload_n 2, 1) := by decide +kernel
theorem d_CS_tighten_50 : decode prog_2_method_4_code 50 = .ok (.aload_n 0, 1) := by decide +kernel
theorem d_CS_tighten_51 : decode prog_2_method_4_code 51 = .ok (.getfield 19, 3) := by decide +kernel
theorem d_CS_tighten_54 : decode prog_2_method_4_code 54 = .ok (.getfield 86, 3) := by decide +kernel
theorem d_CS_tighten_57 : decode prog_2_method_4_code 57 = .ok (.iconst 2, 1) := by decide +kernel
theorem d_CS_tighten_58 : decode prog_2_method_4_code 58 = .ok (.iload_n 3, 1) := by decide +kernel
theorem d_CS_tighten_59 : decode prog_2_method_4_code 59 = .ok (.imul, 1) := by decide +kernel
theorem d_CS_tighten_60 : decode prog_2_method_4_code 60 = .ok (.aaload, 1) := by decide +kernel
theorem d_CS_tighten_61 : decode prog_2_method_4_code 61 = .ok (.invokevirtual 89, 3) := by decide +kernel
theorem d_CS_tighten_64 : decode prog_2_method_4_code 64 = .ok (.ifCond .eq 13, 3) := by decide +kernel
theorem d_CS_tighten_67 : decode prog_2_method_4_code 67 = .ok (.aload_n 0, 1) := by decide +kernel
theorem d_CS_tighten_68 : decode prog_2_method_4_code 68 = .ok (.iload_n 3, 1) := by decide +kernel
theorem d_CS_tighten_69 : decode prog_2_method_4_code 69 = .ok (.iconst 1, 1) := by decide +kernel
theorem d_CS_tighten_70 : decode prog_2_method_4_code 70 = .ok (.iadd, 1) := by decide +kernel
theorem d_CS_tighten_71 : decode prog_2_method_4_code 71 = .ok (.iload_n 2, 1) := by decide +kernel
theorem d_CS_tighten_72 : decode prog_2_method_4_code 72 = .ok (.iconst 1, 1) := by decide +kernel
theorem d_CS_tighten_73 : decode prog_2_method_4_code 73 = .ok (.iadd, 1) := by decide +kernel
theorem d_CS_tighten_74 : decode prog_2_method_4_code 74 = .ok (.invokevirtual 46, 3) := by decide +kernel
theorem d_CS_tighten_77 : decode prog_2_method_4_code 77 = .ok (.aload_n 0, 1) := by decide +kernel
theorem d_CS_tighten_78 : decode prog_2_method_4_code 78 = .ok (.getfield 15, 3) := by decide +kernel
theorem d_CS_tighten_81 : decode prog_2_method_4_code 81 = .ok (.getfield 93, 3) := by decide +kernel
theorem d_CS_tighten_84 : decode prog_2_method_4_code 84 = .ok (.iload 4, 2) := by decide +kernel
theorem d_CS_tighten_86 : decode prog_2_method_4_code 86 = .ok (.iaload, 1) := by decide +kernel
theorem d_CS_tighten_87 : decode prog_2_method_4_code 87 = .ok (.aload_n 0, 1) := by decide +kernel
theorem d_CS_tighten_88 : decode prog_2_method_4_code 88 = .ok (.getfield 15, 3) := by decide +kernel
theorem d_CS_tighten_91 : decode prog_2_method_4_code 91 = .ok (.getfield 98, 3) := by decide +kernel
theorem d_CS_tighten_94 : decode prog_2_method_4_code 94 = .ok (.iload 4, 2) := by decide +kernel
theorem d_CS_tighten_96 : decode prog_2_method_4_code 96 = .ok (.iaload, 1) := by decide +kernel
theorem d_CS_tighten_97 : decode prog_2_method_4_code 97 = .ok (.if_icmp .ne 6, 3) := by decide +kernel
theorem d_CS_tighten_100 : decode prog_2_method_4_code 100 = .ok (.goto 54, 3) := by decide +kernel
theorem d_CS_tighten_103 : decode prog_2_method_4_code 103 = .ok (.aload_n 0, 1) := by decide +kernel
theorem d_CS_tighten_104 : decode prog_2_method_4_code 104 = .ok (.iload_n 2, 1) := by decide +kernel
theorem d_CS_tighten_105 : decode prog_2_method_4_code 105 = .ok (.aload_n 0, 1) := by decide +kernel
theorem d_CS_tighten_106 : decode prog_2_method_4_code 106 = .ok (.getfield 19, 3) := by decide +kernel
theorem d_CS_tighten_109 : decode prog_2_method_4_code 109 = .ok (.getfield 86, 3) := by decide +kernel
theorem d_CS_tighten_112 : decode prog_2_method_4_code 112 = .ok (.iconst 2, 1) := by decide +kernel
theorem d_CS_tighten_113 : decode prog_2_method_4_code 113 = .ok (.iload_n 3, 1) := by decide +kernel
theorem d_CS_tighten_114 : decode prog_2_method_4_code 114 = .ok (.imul, 1) := by decide +kernel
theorem d_CS_tighten_115 : decode prog_2_method_4_code 115 = .ok (.iconst 1, 1) := by decide +kernel
theorem d_CS_tighten_116 : decode prog_2_method_4_code 116 = .ok (.iadd, 1) := by decide +kernel
theorem d_CS_tighten_117 : decode prog_2_method_4_code 117 = .ok (.aaload, 1) := by decide +kernel
theorem d_CS_tighten_118 : decode prog_2_method_4_code 118 = .ok (.invokevirtual 89, 3) := by decide +kernel
theorem d_CS_tighten_121 : decode prog_2_method_4_code 121 = .ok (.ifCond .eq 13, 3) := by decide +kernel
theorem d_CS_tighten_124 : decode prog_2_method_4_code 124 = .ok (.aload_n 0, 1) := by decide +kernel
theorem d_CS_tighten_125 : decode prog_2_method_4_code 125 = .ok (.iload_n 3, 1) := by decide +kernel
theorem d_CS_tighten_126 : decode prog_2_method_4_code 126 = .ok (.iconst 1, 1) := by decide +kernel
theorem d_CS_tighten_127 : decode prog_2_method_4_code 127 = .ok (.iadd, 1) := by decide +kernel
theorem d_CS_tighten_128 : decode prog_2_method_4_code 128 = .ok (.iload_n 2, 1) := by decide +kernel
theorem d_CS_tighten_129 : decode prog_2_method_4_code 129 = .ok (.iconst 1, 1) := by decide +kernel
theorem d_CS_tighten_130 : decode prog_2_method_4_code 130 = .ok (.iadd, 1) := by decide +kernel
theorem d_CS_tighten_131 : decode prog_2_method_4_code 131 = .ok (.invokevirtual 46, 3) := by decide +kernel
theorem d_CS_tighten_134 : decode prog_2_method_4_code 134 = .ok (.aload_n 0, 1) := by decide +kernel
theorem d_CS_tighten_135 : decode prog_2_method_4_code 135 = .ok (.iload_n 2, 1) := by decide +kernel
theorem d_CS_tighten_136 : decode prog_2_method_4_code 136 = .ok (.iload 4, 2) := by decide +kernel
theorem d_CS_tighten_138 : decode prog_2_method_4_code 138 = .ok (.invokevirtual 101, 3) := by decide +kernel
theorem d_CS_tighten_141 : decode prog_2_method_4_code 141 = .ok (.ifCond .eq 13, 3) := by decide +kernel
theorem d_CS_tighten_144 : decode prog_2_method_4_code 144 = .ok (.aload_n 0, 1) := by decide +kernel
theorem d_CS_tighten_145 : decode prog_2_method_4_code 145 = .ok (.iload_n 3, 1) := by decide +kernel
theorem d_CS_tighten_146 : decode prog_2_method_4_code 146 = .ok (.iconst 1, 1) := by decide +kernel
theorem d_CS_tighten_147 : decode prog_2_method_4_code 147 = .ok (.iadd, 1) := by decide +kernel
theorem d_CS_tighten_148 : decode prog_2_method_4_code 148 = .ok (.iload_n 2, 1) := by decide +kernel
theorem d_CS_tighten_149 : decode prog_2_method_4_code 149 = .ok (.iconst 2, 1) := by decide +kernel
theorem d_CS_tighten_150 : decode prog_2_method_4_code 150 = .ok (.iadd, 1) := by decide +kernel
theorem d_CS_tighten_151 : decode prog_2_method_4_code 151 = .ok (.invokevirtual 46, 3) := by decide +kernel
theorem d_CS_tighten_154 : decode prog_2_method_4_code 154 = .ok (.iinc 3 1, 3) := by decide +kernel
theorem d_CS_tighten_157 : decode prog_2_method_4_code 157 = .ok (.goto (-136), 3) := by decide +kernel
theorem d_CS_tighten_160 : decode prog_2_method_4_code 160 = .ok (.return_, 1) := by decide +kernel
theorem d_CS_addBoth_0 : decode prog_2_method_5_code 0 = .ok (.aload_n 0, 1) := by decide +kernel
theorem d_CS_addBoth_1 : decode prog_2_method_5_code 1 = .ok (.getfield 15, 3) := by decide +kernel
theorem d_CS_addBoth_4 : decode prog_2_method_5_code 4 = .ok (.getfield 105, 3) := by decide +kernel
theorem d_CS_addBoth_7 : decode prog_2_method_5_code 7 = .ok (.iload_n 2, 1) := by decide +kernel
theorem d_CS_addBoth_8 : decode prog_2_method_5_code 8 = .ok (.iaload, 1) := by decide +kernel
theorem d_CS_addBoth_9 : decode prog_2_method_5_code 9 = .ok (.bipush 6, 2) := by decide +kernel
theorem d_CS_addBoth_11 : decode prog_2_method_5_code 11 = .ok (.if_icmp .eq 66, 3) := by decide +kernel
theorem d_CS_addBoth_14 : decode prog_2_method_5_code 14 = .ok (.iload_n 1, 1) := by decide +kernel
theorem d_CS_addBoth_15 : decode prog_2_method_5_code 15 = .ok (.iconst 2, 1) := by decide +kernel
theorem d_CS_addBoth_16 : decode prog_2_method_5_code 16 = .ok (.iadd, 1) := by decide +kernel
theorem d_CS_addBoth_17 : decode prog_2_method_5_code 17 = .ok (.iconst 4, 1) := by decide +kernel
theorem d_CS_addBoth_18 : decode prog_2_method_5_code 18 = .ok (.if_icmp .gt 59, 3) := by decide +kernel
theorem d_CS_addBoth_21 : decode prog_2_method_5_code 21 = .ok (.aload_n 0, 1) := by decide +kernel
theorem d_CS_addBoth_22 : decode prog_2_method_5_code 22 = .ok (.iload_n 1, 1) := by decide +kernel
theorem d_CS_addBoth_23 : decode prog_2_method_5_code 23 = .ok (.aload_n 0, 1) := by decide +kernel
theorem d_CS_addBoth_24 : decode prog_2_method_5_code 24 = .ok (.getfield 9, 3) := by decide +kernel
theorem d_CS_addBoth_27 : decode prog_2_method_5_code 27 = .ok (.getfield 108, 3) := by decide +kernel
theorem d_CS_addBoth_30 : decode prog_2_method_5_code 30 = .ok (.aload_n 0, 1) := by decide +kernel
theorem d_CS_addBoth_31 : decode prog_2_method_5_code 31 = .ok (.getfield 15, 3) := by decide +kernel
theorem d_CS_addBoth_34 : decode prog_2_method_5_code 34 = .ok (.getfield 111, 3) := by decide +kernel
theorem d_CS_addBoth_37 : decode prog_2_method_5_code 37 = .ok (.iload_n 2, 1) := by decide +kernel
theorem d_CS_addBoth_38 : decode prog_2_method_5_code 38 = .ok (.iaload, 1) := by decide +kernel
theorem d_CS_addBoth_39 : decode prog_2_method_5_code 39 = .ok (.aaload, 1) := by decide +kernel
theorem d_CS_addBoth_40 : decode prog_2_method_5_code 40 = .ok (.invokevirtual 89, 3) := by decide +kernel
theorem d_CS_addBoth_43 : decode prog_2_method_5_code 43 = .ok (.ifCond .eq 34, 3) := by decide +kernel
theorem d_CS_addBoth_46 : decode prog_2_method_5_code 46 = .ok (.aload_n 0, 1) := by decide +kernel
theorem d_CS_addBoth_47 : decode prog_2_method_5_code 47 = .ok (.iload_n 1, 1) := by decide +kernel
theorem d_CS_addBoth_48 : decode prog_2_method_5_code 48 = .ok (.iconst 1, 1) := by decide +kernel
theorem d_CS_addBoth_49 : decode prog_2_method_5_code 49 = .ok (.iadd, 1) := by decide +kernel
theorem d_CS_addBoth_50 : decode prog_2_method_5_code 50 = .ok (.aload_n 0, 1) := by decide +kernel
theorem d_CS_addBoth_51 : decode prog_2_method_5_code 51 = .ok (.getfield 9, 3) := by decide +kernel
theorem d_CS_addBoth_54 : decode prog_2_method_5_code 54 = .ok (.getfield 108, 3) := by decide +kernel
theorem d_CS_addBoth_57 : decode prog_2_method_5_code 57 = .ok (.aload_n 0, 1) := by decide +kernel
theorem d_CS_addBoth_58 : decode prog_2_method_5_code 58 = .ok (.getfield 15, 3) := by decide +kernel
theorem d_CS_addBoth_61 : decode prog_2_method_5_code 61 = .ok (.getfield 105, 3) := by decide +kernel
theorem d_CS_addBoth_64 : decode prog_2_method_5_code 64 = .ok (.iload_n 2, 1) := by decide +kernel
theorem d_CS_addBoth_65 : decode prog_2_method_5_code 65 = .ok (.iaload, 1) := by decide +kernel
theorem d_CS_addBoth_66 : decode prog_2_method_5_code 66 = .ok (.aaload, 1) := by decide +kernel
theorem d_CS_addBoth_67 : decode prog_2_method_5_code 67 = .ok (.invokevirtual 89, 3) := by decide +kernel
theorem d_CS_addBoth_70 : decode prog_2_method_5_code 70 = .ok (.ifCond .eq 7, 3) := by decide +kernel
theorem d_CS_addBoth_73 : decode prog_2_method_5_code 73 = .ok (.iconst 1, 1) := by decide +kernel
theorem d_CS_addBoth_74 : decode prog_2_method_5_code 74 = .ok (.goto 4, 3) := by decide +kernel
theorem d_CS_addBoth_77 : decode prog_2_method_5_code 77 = .ok (.iconst 0, 1) := by decide +kernel
theorem d_CS_addBoth_78 : decode prog_2_method_5_code 78 = .ok (.ireturn, 1) := by decide +kernel
theorem d_CS_add_0 : decode prog_2_method_6_code 0 = .ok (.aload_n 0, 1) := by decide +kernel
theorem d_CS_add_1 : decode prog_2_method_6_code 1 = .ok (.getfield 25, 3) := by decide +kernel
theorem d_CS_add_4 : decode prog_2_method_6_code 4 = .ok (.iload_n 1, 1) := by decide +kernel
theorem d_CS_add_5 : decode prog_2_method_6_code 5 = .ok (.aaload, 1) := by decide +kernel
theorem d_CS_add_6 : decode prog_2_method_6_code 6 = .ok (.astore_n 3, 1) := by decide +kernel
theorem d_CS_add_7 : decode prog_2_method_6_code 7 = .ok (.aload_n 0, 1) := by decide +kernel
theorem d_CS_add_8 : decode prog_2_method_6_code 8 = .ok (.getfield 25, 3) := by decide +kernel
theorem d_CS_add_11 : decode prog_2_method_6_code 11 = .ok (.iload_n 1, 1) := by decide +kernel
theorem d_CS_add_12 : decode prog_2_method_6_code 12 = .ok (.iconst 1, 1) := by decide +kernel
theorem d_CS_add_13 : decode prog_2_method_6_code 13 = .ok (.iadd, 1) := by decide +kernel
theorem d_CS_add_14 : decode prog_2_method_6_code 14 = .ok (.aaload, 1) := by decide +kernel
theorem d_CS_add_15 : decode prog_2_method_6_code 15 = .ok (.astore 4, 2) := by decide +kernel
theorem d_CS_add_17 : decode prog_2_method_6_code 17 = .ok (.iconst 0, 1) := by decide +kernel
theorem d_CS_add_18 : decode prog_2_method_6_code 18 = .ok (.istore 5, 2) := by decide +kernel
theorem d_CS_add_20 : decode prog_2_method_6_code 20 = .ok (.getstatic 114, 3) := by decide +kernel
theorem d_CS_add_23 : decode prog_2_method_6_code 23 = .ok (.iload_n 1, 1) := by decide +kernel
theorem d_CS_add_24 : decode prog_2_method_6_code 24 = .ok (.iconst 1, 1) := by decide +kernel
theorem d_CS_add_25 : decode prog_2_method_6_code 25 = .ok (.iadd, 1) := by decide +kernel
theorem d_CS_add_26 : decode prog_2_method_6_code 26 = .ok (.iaload, 1) := by decide +kernel
theorem d_CS_add_27 : decode prog_2_method_6_code 27 = .ok (.istore 6, 2) := by decide +kernel
theorem d_CS_add_29 : decode prog_2_method_6_code 29 = .ok (.iload 6, 2) := by decide +kernel
theorem d_CS_add_31 : decode prog_2_method_6_code 31 = .ok (.getstatic 114, 3) := by decide +kernel
theorem d_CS_add_34 : decode prog_2_method_6_code 34 = .ok (.iload_n 1, 1) := by decide +kernel
theorem d_CS_add_35 : decode prog_2_method_6_code 35 = .ok (.iconst 2, 1) := by decide +kernel
theorem d_CS_add_36 : decode prog_2_method_6_code 36 = .ok (.iadd, 1) := by decide +kernel
theorem d_CS_add_37 : decode prog_2_method_6_code 37 = .ok (.iaload, 1) := by decide +kernel
theorem d_CS_add_38 : decode prog_2_method_6_code 38 = .ok (.if_icmp .ge 54, 3) := by decide +kernel
theorem d_CS_add_41 : decode prog_2_method_6_code 41 = .ok (.getstatic 117, 3) := by decide +kernel
theorem d_CS_add_44 : decode prog_2_method_6_code 44 = .ok (.iload 6, 2) := by decide +kernel
theorem d_CS_add_46 : decode prog_2_method_6_code 46 = .ok (.iaload, 1) := by decide +kernel
theorem d_CS_add_47 : decode prog_2_method_6_code 47 = .ok (.istore 7, 2) := by decide +kernel
theorem d_CS_add_49 : decode prog_2_method_6_code 49 = .ok (.aload 4, 2) := by decide +kernel
theorem d_CS_add_51 : decode prog_2_method_6_code 51 = .ok (.iload 7, 2) := by decide +kernel
theorem d_CS_add_53 : decode prog_2_method_6_code 53 = .ok (.aload_n 3, 1) := by decide +kernel
theorem d_CS_add_54 : decode prog_2_method_6_code 54 = .ok (.aload_n 2, 1) := by decide +kernel
theorem d_CS_add_55 : decode prog_2_method_6_code 55 = .ok (.iload 7, 2) := by decide +kernel
theorem d_CS_add_57 : decode prog_2_method_6_code 57 = .ok (.invokestatic 120, 3) := by decide +kernel
theorem d_CS_add_60 : decode prog_2_method_6_code 60 = .ok (.lastore, 1) := by decide +kernel
theorem d_CS_add_61 : decode prog_2_method_6_code 61 = .ok (.aload 4, 2) := by decide +kernel
theorem d_CS_add_63 : decode prog_2_method_6_code 63 = .ok (.iload 7, 2) := by decide +kernel
theorem d_CS_add_65 : decode prog_2_method_6_code 65 = .ok (.laload, 1) := by decide +kernel
theorem d_CS_add_66 : decode prog_2_method_6_code 66 = .ok (.lconst 0, 1) := by decide +kernel
theorem d_CS_add_67 : decode prog_2_method_6_code 67 = .ok (.lcmp, 1) := by decide +kernel
theorem d_CS_add_68 : decode prog_2_method_6_code 68 = .ok (.ifCond .eq 18, 3) := by decide +kernel
theorem d_CS_add_71 : decode prog_2_method_6_code 71 = .ok (.iload 7, 2) := by decide +kernel
theorem d_CS_add_73 : decode prog_2_method_6_code 73 = .ok (.aload_n 0, 1) := by decide +kernel
theorem d_CS_add_74 : decode prog_2_method_6_code 74 = .ok (.getfield 71, 3) := by decide +kernel
theorem d_CS_add_77 : decode prog_2_method_6_code 77 = .ok (.iconst (-1), 1) := by decide +kernel
theorem d_CS_add_78 : decode prog_2_method_6_code 78 = .ok (.ixor, 1) := by decide +kernel
theorem d_CS_add_79 : decode prog_2_method_6_code 79 = .ok (.iand, 1) := by decide +kernel
theorem d_CS_add_80 : decode prog_2_method_6_code 80 = .ok (.ifCond .ne 6, 3) := by decide +kernel
theorem d_CS_add_83 : decode prog_2_method_6_code 83 = .ok (.iconst 1, 1) := by decide +kernel
theorem d_CS_add_84 : decode prog_2_method_6_code 84 = .ok (.istore 5, 2) := by decide +kernel
theorem d_CS_add_86 : decode prog_2_method_6_code 86 = .ok (.iinc 6 1, 3) := by decide +kernel
theorem d_CS_add_89 : decode prog_2_method_6_code 89 = .ok (.goto (-60), 3) := by decide +kernel
theorem d_CS_add_92 : decode prog_2_method_6_code 92 = .ok (.iload 5, 2) := by decide +kernel
theorem d_CS_add_94 : decode prog_2_method_6_code 94 = .ok (.ireturn, 1) := by decide +kernel
theorem d_CS_expand_0 : decode prog_2_method_7_code 0 = .ok (.lconst 0, 1) := by decide +kernel
theorem d_CS_expand_1 : decode prog_2_method_7_code 1 = .ok (.lstore_n 3, 1) := by decide +kernel
theorem d_CS_expand_2 : decode prog_2_method_7_code 2 = .ok (.lconst 1, 1) := by decide +kernel
theorem d_CS_expand_3 : decode prog_2_method_7_code 3 = .ok (.lstore 5, 2) := by decide +kernel
theorem d_CS_expand_5 : decode prog_2_method_7_code 5 = .ok (.iconst 4, 1) := by decide +kernel
theorem d_CS_expand_6 : decode prog_2_method_7_code 6 = .ok (.istore 7, 2) := by decide +kernel
theorem d_CS_expand_8 : decode prog_2_method_7_code 8 = .ok (.iload 7, 2) := by decide +kernel
theorem d_CS_expand_10 : decode prog_2_method_7_code 10 = .ok (.ifCond .lt 42, 3) := by decide +kernel
theorem d_CS_expand_13 : decode prog_2_method_7_code 13 = .ok (.iload_n 2, 1) := by decide +kernel
theorem d_CS_expand_14 : decode prog_2_method_7_code 14 = .ok (.iload 7, 2) := by decide +kernel
theorem d_CS_expand_16 : decode prog_2_method_7_code 16 = .ok (.invokestatic 124, 3) := by decide +kernel
theorem d_CS_expand_19 : decode prog_2_method_7_code 19 = .ok (.ifCond .eq 27, 3) := by decide +kernel
theorem d_CS_expand_22 : decode prog_2_method_7_code 22 = .ok (.lload_n 3, 1) := by decide +kernel
theorem d_CS_expand_23 : decode prog_2_method_7_code 23 = .ok (.lload 5, 2) := by decide +kernel
theorem d_CS_expand_25 : decode prog_2_method_7_code 25 = .ok (.aload_n 1, 1) := by decide +kernel
theorem d_CS_expand_26 : decode prog_2_method_7_code 26 = .ok (.iload 7, 2) := by decide +kernel
theorem d_CS_expand_28 : decode prog_2_method_7_code 28 = .ok (.laload, 1) := by decide +kernel
theorem d_CS_expand_29 : decode prog_2_method_7_code 29 = .ok (.lmul, 1) := by decide +kernel
theorem d_CS_expand_30 : decode prog_2_method_7_code 30 = .ok (.aload_n 0, 1) := by decide +kernel
theorem d_CS_expand_31 : decode prog_2_method_7_code 31 = .ok (.iload_n 2, 1) := by decide +kernel
theorem d_CS_expand_32 : decode prog_2_method_7_code 32 = .ok (.iconst 1, 1) := by decide +kernel
theorem d_CS_expand_33 : decode prog_2_method_7_code 33 = .ok (.iload 7, 2) := by decide +kernel
theorem d_CS_expand_35 : decode prog_2_method_7_code 35 = .ok (.ishl, 1) := by decide +kernel
theorem d_CS_expand_36 : decode prog_2_method_7_code 36 = .ok (.ixor, 1) := by decide +kernel
theorem d_CS_expand_37 : decode prog_2_method_7_code 37 = .ok (.laload, 1) := by decide +kernel
theorem d_CS_expand_38 : decode prog_2_method_7_code 38 = .ok (.lmul, 1) := by decide +kernel
theorem d_CS_expand_39 : decode prog_2_method_7_code 39 = .ok (.ladd, 1) := by decide +kernel
theorem d_CS_expand_40 : decode prog_2_method_7_code 40 = .ok (.lstore_n 3, 1) := by decide +kernel
theorem d_CS_expand_41 : decode prog_2_method_7_code 41 = .ok (.lload 5, 2) := by decide +kernel
theorem d_CS_expand_43 : decode prog_2_method_7_code 43 = .ok (.lneg, 1) := by decide +kernel
theorem d_CS_expand_44 : decode prog_2_method_7_code 44 = .ok (.lstore 5, 2) := by decide +kernel
theorem d_CS_expand_46 : decode prog_2_method_7_code 46 = .ok (.iinc 7 (-1), 3) := by decide +kernel
theorem d_CS_expand_49 : decode prog_2_method_7_code 49 = .ok (.goto (-41), 3) := by decide +kernel
theorem d_CS_expand_52 : decode prog_2_method_7_code 52 = .ok (.lload_n 3, 1) := by decide +kernel
theorem d_CS_expand_53 : decode prog_2_method_7_code 53 = .ok (.lreturn, 1) := by decide +kernel
theorem d_CS_visitCorners_0 : decode prog_2_method_8_code 0 = .ok (.aload_n 0, 1) := by decide +kernel
theorem d_CS_visitCorners_1 : decode prog_2_method_8_code 1 = .ok (.getfield 25, 3) := by decide +kernel
theorem d_CS_visitCorners_4 : decode prog_2_method_8_code 4 = .ok (.iload_n 1, 1) := by decide +kernel
theorem d_CS_visitCorners_5 : decode prog_2_method_8_code 5 = .ok (.aaload, 1) := by decide +kernel
theorem d_CS_visitCorners_6 : decode prog_2_method_8_code 6 = .ok (.astore_n 2, 1) := by decide +kernel
theorem d_CS_visitCorners_7 : decode prog_2_method_8_code 7 = .ok (.getstatic 114, 3) := by decide +kernel
theorem d_CS_visitCorners_10 : decode prog_2_method_8_code 10 = .ok (.iload_n 1, 1) := by decide +kernel
theorem d_CS_visitCorners_11 : decode prog_2_method_8_code 11 = .ok (.iaload, 1) := by decide +kernel
theorem d_CS_visitCorners_12 : decode prog_2_method_8_code 12 = .ok (.istore_n 3, 1) := by decide +kernel
theorem d_CS_visitCorners_13 : decode prog_2_method_8_code 13 = .ok (.iload_n 3, 1) := by decide +kernel
theorem d_CS_visitCorners_14 : decode prog_2_method_8_code 14 = .ok (.getstatic 114, 3) := by decide +kernel
theorem d_CS_visitCorners_17 : decode prog_2_method_8_code 17 = .ok (.iload_n 1, 1) := by decide +kernel
theorem d_CS_visitCorners_18 : decode prog_2_method_8_code 18 = .ok (.iconst 1, 1) := by decide +kernel
theorem d_CS_visitCorners_19 : decode prog_2_method_8_code 19 = .ok (.iadd, 1) := by decide +kernel
theorem d_CS_visitCorners_20 : decode prog_2_method_8_code 20 = .ok (.iaload, 1) := by decide +kernel
theorem d_CS_visitCorners_21 : decode prog_2_method_8_code 21 = .ok (.if_icmp .ge 93, 3) := by decide +kernel
theorem d_CS_visitCorners_24 : decode prog_2_method_8_code 24 = .ok (.getstatic 117, 3) := by decide +kernel
theorem d_CS_visitCorners_27 : decode prog_2_method_8_code 27 = .ok (.iload_n 3, 1) := by decide +kernel
theorem d_CS_visitCorners_28 : decode prog_2_method_8_code 28 = .ok (.iaload, 1) := by decide +kernel
theorem d_CS_visitCorners_29 : decode prog_2_method_8_code 29 = .ok (.istore 4, 2) := by decide +kernel
theorem d_CS_visitCorners_31 : decode prog_2_method_8_code 31 = .ok (.iload 4, 2) := by decide +kernel
theorem d_CS_visitCorners_33 : decode prog_2_method_8_code 33 = .ok (.aload_n 0, 1) := by decide +kernel
theorem d_CS_visitCorners_34 : decode prog_2_method_8_code 34 = .ok (.getfield 71, 3) := by decide +kernel
theorem d_CS_visitCorners_37 : decode prog_2_method_8_code 37 = .ok (.iconst (-1), 1) := by decide +kernel
theorem d_CS_visitCorners_38 : decode prog_2_method_8_code 38 = .ok (.ixor, 1) := by decide +kernel
theorem d_CS_visitCorners_39 : decode prog_2_method_8_code 39 = .ok (.iand, 1) := by decide +kernel
theorem d_CS_visitCorners_40 : decode prog_2_method_8_code 40 = .ok (.ifCond .ne 68, 3) := by decide +kernel
theorem d_CS_visitCorners_43 : decode prog_2_method_8_code 43 = .ok (.aload_n 2, 1) := by decide +kernel
theorem d_CS_visitCorners_44 : decode prog_2_method_8_code 44 = .ok (.iload 4, 2) := by decide +kernel
theorem d_CS_visitCorners_46 : decode prog_2_method_8_code 46 = .ok (.laload, 1) := by decide +kernel
theorem d_CS_visitCorners_47 : decode prog_2_method_8_code 47 = .ok (.lconst 0, 1) := by decide +kernel
theorem d_CS_visitCorners_48 : decode prog_2_method_8_code 48 = .ok (.lcmp, 1) := by decide +kernel
theorem d_CS_visitCorners_49 : decode prog_2_method_8_code 49 = .ok (.ifCond .ne 6, 3) := by decide +kernel
theorem d_CS_visitCorners_52 : decode prog_2_method_8_code 52 = .ok (.goto 56, 3) := by decide +kernel
theorem d_CS_visitCorners_55 : decode prog_2_method_8_code 55 = .ok (.aload_n 0, 1) := by decide +kernel
theorem d_CS_visitCorners_56 : decode prog_2_method_8_code 56 = .ok (.getfield 71, 3) := by decide +kernel
theorem d_CS_visitCorners_59 : decode prog_2_method_8_code 59 = .ok (.iload 4, 2) := by decide +kernel
theorem d_CS_visitCorners_61 : decode prog_2_method_8_code 61 = .ok (.iconst (-1), 1) := by decide +kernel
theorem d_CS_visitCorners_62 : decode prog_2_method_8_code 62 = .ok (.ixor, 1) := by decide +kernel
theorem d_CS_visitCorners_63 : decode prog_2_method_8_code 63 = .ok (.iand, 1) := by decide +kernel
theorem d_CS_visitCorners_64 : decode prog_2_method_8_code 64 = .ok (.istore 5, 2) := by decide +kernel
theorem d_CS_visitCorners_66 : decode prog_2_method_8_code 66 = .ok (.iconst 0, 1) := by decide +kernel
theorem d_CS_visitCorners_67 : decode prog_2_method_8_code 67 = .ok (.istore 6, 2) := by decide +kernel
theorem d_CS_visitCorners_69 : decode prog_2_method_8_code 69 = .ok (.iload 6, 2) := by decide +kernel
theorem d_CS_visitCorners_71 : decode prog_2_method_8_code 71 = .ok (.bipush 16, 2) := by decide +kernel
theorem d_CS_visitCorners_73 : decode prog_2_method_8_code 73 = .ok (.if_icmp .ge 35, 3) := by decide +kernel
theorem d_CS_visitCorners_76 : decode prog_2_method_8_code 76 = .ok (.iload 6, 2) := by decide +kernel
theorem d_CS_visitCorners_78 : decode prog_2_method_8_code 78 = .ok (.iload 5, 2) := by decide +kernel
theorem d_CS_visitCorners_80 : decode prog_2_method_8_code 80 = .ok (.iconst (-1), 1) := by decide +kernel
theorem d_CS_visitCorners_81 : decode prog_2_method_8_code 81 = .ok (.ixor, 1) := by decide +kernel
theorem d_CS_visitCorners_82 : decode prog_2_method_8_code 82 = .ok (.iand, 1) := by decide +kernel
theorem d_CS_visitCorners_83 : decode prog_2_method_8_code 83 = .ok (.ifCond .ne 19, 3) := by decide +kernel
theorem d_CS_visitCorners_86 : decode prog_2_method_8_code 86 = .ok (.aload_n 0, 1) := by decide +kernel
theorem d_CS_visitCorners_87 : decode prog_2_method_8_code 87 = .ok (.aload_n 2, 1) := by decide +kernel
theorem d_CS_visitCorners_88 : decode prog_2_method_8_code 88 = .ok (.iload 4, 2) := by decide +kernel
theorem d_CS_visitCorners_90 : decode prog_2_method_8_code 90 = .ok (.iload 6, 2) := by decide +kernel
theorem d_CS_visitCorners_92 : decode prog_2_method_8_code 92 = .ok (.invokevirtual 127, 3) := by decide +kernel
theorem d_CS_visitCorners_95 : decode prog_2_method_8_code 95 = .ok (.ifCond .eq 7, 3) := by decide +kernel
theorem d_CS_visitCorners_98 : decode prog_2_method_8_code 98 = .ok (.aload_n 0, 1) := by decide +kernel
theorem d_CS_visitCorners_99 : decode prog_2_method_8_code 99 = .ok (.invokevirtual 131, 3) := by decide +kernel
theorem d_CS_visitCorners_102 : decode prog_2_method_8_code 102 = .ok (.iinc 6 1, 3) := by decide +kernel
theorem d_CS_visitCorners_105 : decode prog_2_method_8_code 105 = .ok (.goto (-36), 3) := by decide +kernel
theorem d_CS_visitCorners_108 : decode prog_2_method_8_code 108 = .ok (.iinc 3 1, 3) := by decide +kernel
theorem d_CS_visitCorners_111 : decode prog_2_method_8_code 111 = .ok (.goto (-98), 3) := by decide +kernel
theorem d_CS_visitCorners_114 : decode prog_2_method_8_code 114 = .ok (.return_, 1) := by decide +kernel
theorem d_CS_meets_0 : decode prog_2_method_9_code 0 = .ok (.aload_n 1, 1) := by decide +kernel
theorem d_CS_meets_1 : decode prog_2_method_9_code 1 = .ok (.iload_n 2, 1) := by decide +kernel
theorem d_CS_meets_2 : decode prog_2_method_9_code 2 = .ok (.laload, 1) := by decide +kernel
theorem d_CS_meets_3 : decode prog_2_method_9_code 3 = .ok (.lconst 0, 1) := by decide +kernel
theorem d_CS_meets_4 : decode prog_2_method_9_code 4 = .ok (.lcmp, 1) := by decide +kernel
theorem d_CS_meets_5 : decode prog_2_method_9_code 5 = .ok (.ifCond .ge 9, 3) := by decide +kernel
theorem d_CS_meets_8 : decode prog_2_method_9_code 8 = .ok (.ldc2_w 134, 3) := by decide +kernel
theorem d_CS_meets_11 : decode prog_2_method_9_code 11 = .ok (.goto 4, 3) := by decide +kernel
theorem d_CS_meets_14 : decode prog_2_method_9_code 14 = .ok (.lconst 1, 1) := by decide +kernel
theorem d_CS_meets_15 : decode prog_2_method_9_code 15 = .ok (.lstore 4, 2) := by decide +kernel
theorem d_CS_meets_17 : decode prog_2_method_9_code 17 = .ok (.lload 4, 2) := by decide +kernel
theorem d_CS_meets_19 : decode prog_2_method_9_code 19 = .ok (.aload_n 1, 1) := by decide +kernel
theorem d_CS_meets_20 : decode prog_2_method_9_code 20 = .ok (.iload_n 2, 1) := by decide +kernel
theorem d_CS_meets_21 : decode prog_2_method_9_code 21 = .ok (.laload, 1) := by decide +kernel
theorem d_CS_meets_22 : decode prog_2_method_9_code 22 = .ok (.lmul, 1) := by decide +kernel
theorem d_CS_meets_23 : decode prog_2_method_9_code 23 = .ok (.lstore 6, 2) := by decide +kernel
theorem d_CS_meets_25 : decode prog_2_method_9_code 25 = .ok (.aload_n 0, 1) := by decide +kernel
theorem d_CS_meets_26 : decode prog_2_method_9_code 26 = .ok (.getfield 28, 3) := by decide +kernel
theorem d_CS_meets_29 : decode prog_2_method_9_code 29 = .ok (.iconst 4, 1) := by decide +kernel
theorem d_CS_meets_30 : decode prog_2_method_9_code 30 = .ok (.lload 6, 2) := by decide +kernel
theorem d_CS_meets_32 : decode prog_2_method_9_code 32 = .ok (.lastore, 1) := by decide +kernel
theorem d_CS_meets_33 : decode prog_2_method_9_code 33 = .ok (.iconst 0, 1) := by decide +kernel
theorem d_CS_meets_34 : decode prog_2_method_9_code 34 = .ok (.istore 8, 2) := by decide +kernel
theorem d_CS_meets_36 : decode prog_2_method_9_code 36 = .ok (.iload 8, 2) := by decide +kernel
theorem d_CS_meets_38 : decode prog_2_method_9_code 38 = .ok (.iconst 4, 1) := by decide +kernel
theorem d_CS_meets_39 : decode prog_2_method_9_code 39 = .ok (.if_icmp .ge 101, 3) := by decide +kernel
theorem d_CS_meets_42 : decode prog_2_method_9_code 42 = .ok (.aload_n 0, 1) := by decide +kernel
theorem d_CS_meets_43 : decode prog_2_method_9_code 43 = .ok (.getfield 9, 3) := by decide +kernel
theorem d_CS_meets_46 : decode prog_2_method_9_code 46 = .ok (.getfield 136, 3) := by decide +kernel
theorem d_CS_meets_49 : decode prog_2_method_9_code 49 = .ok (.iload 8, 2) := by decide +kernel
theorem d_CS_meets_51 : decode prog_2_method_9_code 51 = .ok (.iaload, 1) := by decide +kernel
theorem d_CS_meets_52 : decode prog_2_method_9_code 52 = .ok (.i2l, 1) := by decide +kernel
theorem d_CS_meets_53 : decode prog_2_method_9_code 53 = .ok (.lload 6, 2) := by decide +kernel
theorem d_CS_meets_55 : decode prog_2_method_9_code 55 = .ok (.lmul, 1) := by decide +kernel
theorem d_CS_meets_56 : decode prog_2_method_9_code 56 = .ok (.lstore 9, 2) := by decide +kernel
theorem d_CS_meets_58 : decode prog_2_method_9_code 58 = .ok (.iload_n 2, 1) := by decide +kernel
theorem d_CS_meets_59 : decode prog_2_method_9_code 59 = .ok (.iload 8, 2) := by decide +kernel
theorem d_CS_meets_61 : decode prog_2_method_9_code 61 = .ok (.invokestatic 124, 3) := by decide +kernel
theorem d_CS_meets_64 : decode prog_2_method_9_code 64 = .ok (.ifCond .ne 28, 3) := by decide +kernel
theorem d_CS_meets_67 : decode prog_2_method_9_code 67 = .ok (.aload_n 0, 1) := by decide +kernel
theorem d_CS_meets_68 : decode prog_2_method_9_code 68 = .ok (.getfield 28, 3) := by decide +kernel
theorem d_CS_meets_71 : decode prog_2_method_9_code 71 = .ok (.iload 8, 2) := by decide +kernel
theorem d_CS_meets_73 : decode prog_2_method_9_code 73 = .ok (.iload_n 3, 1) := by decide +kernel
theorem d_CS_meets_74 : decode prog_2_method_9_code 74 = .ok (.iload 8, 2) := by decide +kernel
theorem d_CS_meets_76 : decode prog_2_method_9_code 76 = .ok (.invokestatic 124, 3) := by decide +kernel
theorem d_CS_meets_79 : decode prog_2_method_9_code 79 = .ok (.ifCond .eq 8, 3) := by decide +kernel
theorem d_CS_meets_82 : decode prog_2_method_9_code 82 = .ok (.lload 9, 2) := by decide +kernel
theorem d_CS_meets_84 : decode prog_2_method_9_code 84 = .ok (.goto 4, 3) := by decide +kernel
theorem d_CS_meets_87 : decode prog_2_method_9_code 87 = .ok (.lconst 0, 1) := by decide +kernel
theorem d_CS_meets_88 : decode prog_2_method_9_code 88 = .ok (.lastore, 1) := by decide +kernel
theorem d_CS_meets_89 : decode prog_2_method_9_code 89 = .ok (.goto 45, 3) := by decide +kernel
theorem d_CS_meets_92 : decode prog_2_method_9_code 92 = .ok (.lload 4, 2) := by decide +kernel
theorem d_CS_meets_94 : decode prog_2_method_9_code 94 = .ok (.lneg, 1) := by decide +kernel
theorem d_CS_meets_95 : decode prog_2_method_9_code 95 = .ok (.aload_n 0, 1) := by decide +kernel
theorem d_CS_meets_96 : decode prog_2_method_9_code 96 = .ok (.aload_n 1, 1) := by decide +kernel
theorem d_CS_meets_97 : decode prog_2_method_9_code 97 = .ok (.iload_n 2, 1) := by decide +kernel
theorem d_CS_meets_98 : decode prog_2_method_9_code 98 = .ok (.iconst 1, 1) := by decide +kernel
theorem d_CS_meets_99 : decode prog_2_method_9_code 99 = .ok (.iload 8, 2) := by decide +kernel
theorem d_CS_meets_101 : decode prog_2_method_9_code 101 = .ok (.ishl, 1) := by decide +kernel
theorem d_CS_meets_102 : decode prog_2_method_9_code 102 = .ok (.ixor, 1) := by decide +kernel
theorem d_CS_meets_103 : decode prog_2_method_9_code 103 = .ok (.iload 8, 2) := by decide +kernel
theorem d_CS_meets_105 : decode prog_2_method_9_code 105 = .ok (.iload_n 3, 1) := by decide +kernel
theorem d_CS_meets_106 : decode prog_2_method_9_code 106 = .ok (.invokevirtual 139, 3) := by decide +kernel
theorem d_CS_meets_109 : decode prog_2_method_9_code 109 = .ok (.lmul, 1) := by decide +kernel
theorem d_CS_meets_110 : decode prog_2_method_9_code 110 = .ok (.lstore 11, 2) := by decide +kernel
theorem d_CS_meets_112 : decode prog_2_method_9_code 112 = .ok (.lload 11, 2) := by decide +kernel
theorem d_CS_meets_114 : decode prog_2_method_9_code 114 = .ok (.lconst 0, 1) := by decide +kernel
theorem d_CS_meets_115 : decode prog_2_method_9_code 115 = .ok (.lload 9, 2) := by decide +kernel
theorem d_CS_meets_117 : decode prog_2_method_9_code 117 = .ok (.invokestatic 143, 3) := by decide +kernel
theorem d_CS_meets_120 : decode prog_2_method_9_code 120 = .ok (.ifCond .ne 5, 3) := by decide +kernel
theorem d_CS_meets_123 : decode prog_2_method_9_code 123 = .ok (.iconst 0, 1) := by decide +kernel
theorem d_CS_meets_124 : decode prog_2_method_9_code 124 = .ok (.ireturn, 1) := by decide +kernel
theorem d_CS_meets_125 : decode prog_2_method_9_code 125 = .ok (.aload_n 0, 1) := by decide +kernel
theorem d_CS_meets_126 : decode prog_2_method_9_code 126 = .ok (.getfield 28, 3) := by decide +kernel
theorem d_CS_meets_129 : decode prog_2_method_9_code 129 = .ok (.iload 8, 2) := by decide +kernel
theorem d_CS_meets_131 : decode prog_2_method_9_code 131 = .ok (.lload 11, 2) := by decide +kernel
theorem d_CS_meets_133 : decode prog_2_method_9_code 133 = .ok (.lastore, 1) := by decide +kernel
theorem d_CS_meets_134 : decode prog_2_method_9_code 134 = .ok (.iinc 8 1, 3) := by decide +kernel
theorem d_CS_meets_137 : decode prog_2_method_9_code 137 = .ok (.goto (-101), 3) := by decide +kernel
theorem d_CS_meets_140 : decode prog_2_method_9_code 140 = .ok (.iconst 1, 1) := by decide +kernel
theorem d_CS_meets_141 : decode prog_2_method_9_code 141 = .ok (.ireturn, 1) := by decide +kernel
theorem d_CS_replaced_0 : decode prog_2_method_10_code 0 = .ok (.lconst 0, 1) := by decide +kernel
theorem d_CS_replaced_1 : decode prog_2_method_10_code 1 = .ok (.lstore 5, 2) := by decide +kernel
theorem d_CS_replaced_3 : decode prog_2_method_10_code 3 = .ok (.iconst 1, 1) := by decide +kernel
theorem d_CS_replaced_4 : decode prog_2_method_10_code 4 = .ok (.iload_n 3, 1) := by decide +kernel
theorem d_CS_replaced_5 : decode prog_2_method_10_code 5 = .ok (.ishl, 1) := by decide +kernel
theorem d_CS_replaced_6 : decode prog_2_method_10_code 6 = .ok (.iconst 1, 1) := by decide +kernel
theorem d_CS_replaced_7 : decode prog_2_method_10_code 7 = .ok (.isub, 1) := by decide +kernel
theorem d_CS_replaced_8 : decode prog_2_method_10_code 8 = .ok (.istore 7, 2) := by decide +kernel
theorem d_CS_replaced_10 : decode prog_2_method_10_code 10 = .ok (.iconst 0, 1) := by decide +kernel
theorem d_CS_replaced_11 : decode prog_2_method_10_code 11 = .ok (.istore 8, 2) := by decide +kernel
theorem d_CS_replaced_13 : decode prog_2_method_10_code 13 = .ok (.iload 8, 2) := by decide +kernel
theorem d_CS_replaced_15 : decode prog_2_method_10_code 15 = .ok (.iconst 5, 1) := by decide +kernel
theorem d_CS_replaced_16 : decode prog_2_method_10_code 16 = .ok (.if_icmp .ge 102, 3) := by decide +kernel
theorem d_CS_replaced_19 : decode prog_2_method_10_code 19 = .ok (.iload 8, 2) := by decide +kernel
theorem d_CS_replaced_21 : decode prog_2_method_10_code 21 = .ok (.iconst 4, 1) := by decide +kernel
theorem d_CS_replaced_22 : decode prog_2_method_10_code 22 = .ok (.if_icmp .eq 16, 3) := by decide +kernel
theorem d_CS_replaced_25 : decode prog_2_method_10_code 25 = .ok (.iload 4, 2) := by decide +kernel
theorem d_CS_replaced_27 : decode prog_2_method_10_code 27 = .ok (.iload 8, 2) := by decide +kernel
theorem d_CS_replaced_29 : decode prog_2_method_10_code 29 = .ok (.invokestatic 124, 3) := by decide +kernel
theorem d_CS_replaced_32 : decode prog_2_method_10_code 32 = .ok (.ifCond .ne 6, 3) := by decide +kernel
theorem d_CS_replaced_35 : decode prog_2_method_10_code 35 = .ok (.goto 77, 3) := by decide +kernel
theorem d_CS_replaced_38 : decode prog_2_method_10_code 38 = .ok (.iload 8, 2) := by decide +kernel
theorem d_CS_replaced_40 : decode prog_2_method_10_code 40 = .ok (.iconst 4, 1) := by decide +kernel
theorem d_CS_replaced_41 : decode prog_2_method_10_code 41 = .ok (.if_icmp .ne 7, 3) := by decide +kernel
theorem d_CS_replaced_44 : decode prog_2_method_10_code 44 = .ok (.lconst 1, 1) := by decide +kernel
theorem d_CS_replaced_45 : decode prog_2_method_10_code 45 = .ok (.goto 14, 3) := by decide +kernel
theorem d_CS_replaced_48 : decode prog_2_method_10_code 48 = .ok (.aload_n 0, 1) := by decide +kernel
theorem d_CS_replaced_49 : decode prog_2_method_10_code 49 = .ok (.getfield 9, 3) := by decide +kernel
theorem d_CS_replaced_52 : decode prog_2_method_10_code 52 = .ok (.getfield 136, 3) := by decide +kernel
theorem d_CS_replaced_55 : decode prog_2_method_10_code 55 = .ok (.iload 8, 2) := by decide +kernel
theorem d_CS_replaced_57 : decode prog_2_method_10_code 57 = .ok (.iaload, 1) := by decide +kernel
theorem d_CS_replaced_58 : decode prog_2_method_10_code 58 = .ok (.i2l, 1) := by decide +kernel
theorem d_CS_replaced_59 : decode prog_2_method_10_code 59 = .ok (.lstore 9, 2) := by decide +kernel
theorem d_CS_replaced_61 : decode prog_2_method_10_code 61 = .ok (.iload_n 2, 1) := by decide +kernel
theorem d_CS_replaced_62 : decode prog_2_method_10_code 62 = .ok (.iload 7, 2) := by decide +kernel
theorem d_CS_replaced_64 : decode prog_2_method_10_code 64 = .ok (.iconst 1, 1) := by decide +kernel
theorem d_CS_replaced_65 : decode prog_2_method_10_code 65 = .ok (.iload 8, 2) := by decide +kernel
theorem d_CS_replaced_67 : decode prog_2_method_10_code 67 = .ok (.ishl, 1) := by decide +kernel
theorem d_CS_replaced_68 : decode prog_2_method_10_code 68 = .ok (.iconst 1, 1) := by decide +kernel
theorem d_CS_replaced_69 : decode prog_2_method_10_code 69 = .ok (.isub, 1) := by decide +kernel
theorem d_CS_replaced_70 : decode prog_2_method_10_code 70 = .ok (.ixor, 1) := by decide +kernel
theorem d_CS_replaced_71 : decode prog_2_method_10_code 71 = .ok (.iand, 1) := by decide +kernel
theorem d_CS_replaced_72 : decode prog_2_method_10_code 72 = .ok (.istore 11, 2) := by decide +kernel
theorem d_CS_replaced_74 : decode prog_2_method_10_code 74 = .ok (.lload 9, 2) := by decide +kernel
theorem d_CS_replaced_76 : decode prog_2_method_10_code 76 = .ok (.aload_n 1, 1) := by decide +kernel
theorem d_CS_replaced_77 : decode prog_2_method_10_code 77 = .ok (.iload_n 2, 1) := by decide +kernel
theorem d_CS_replaced_78 : decode prog_2_method_10_code 78 = .ok (.iconst 1, 1) := by decide +kernel
theorem d_CS_replaced_79 : decode prog_2_method_10_code 79 = .ok (.iload 8, 2) := by decide +kernel
theorem d_CS_replaced_81 : decode prog_2_method_10_code 81 = .ok (.ishl, 1) := by decide +kernel
theorem d_CS_replaced_82 : decode prog_2_method_10_code 82 = .ok (.ior, 1) := by decide +kernel
theorem d_CS_replaced_83 : decode prog_2_method_10_code 83 = .ok (.laload, 1) := by decide +kernel
theorem d_CS_replaced_84 : decode prog_2_method_10_code 84 = .ok (.lmul, 1) := by decide +kernel
theorem d_CS_replaced_85 : decode prog_2_method_10_code 85 = .ok (.lstore 12, 2) := by decide +kernel
theorem d_CS_replaced_87 : decode prog_2_method_10_code 87 = .ok (.lload 5, 2) := by decide +kernel
theorem d_CS_replaced_89 : decode prog_2_method_10_code 89 = .ok (.iload 11, 2) := by decide +kernel
theorem d_CS_replaced_91 : decode prog_2_method_10_code 91 = .ok (.invokestatic 147, 3) := by decide +kernel
theorem d_CS_replaced_94 : decode prog_2_method_10_code 94 = .ok (.iconst 0, 1) := by decide +kernel
theorem d_CS_replaced_95 : decode prog_2_method_10_code 95 = .ok (.invokestatic 124, 3) := by decide +kernel
theorem d_CS_replaced_98 : decode prog_2_method_10_code 98 = .ok (.ifCond .eq 9, 3) := by decide +kernel
theorem d_CS_replaced_101 : decode prog_2_method_10_code 101 = .ok (.lload 12, 2) := by decide +kernel
theorem d_CS_replaced_103 : decode prog_2_method_10_code 103 = .ok (.lneg, 1) := by decide +kernel
theorem d_CS_replaced_104 : decode prog_2_method_10_code 104 = .ok (.goto 5, 3) := by decide +kernel
theorem d_CS_replaced_107 : decode prog_2_method_10_code 107 = .ok (.lload 12, 2) := by decide +kernel
theorem d_CS_replaced_109 : decode prog_2_method_10_code 109 = .ok (.ladd, 1) := by decide +kernel
theorem d_CS_replaced_110 : decode prog_2_method_10_code 110 = .ok (.lstore 5, 2) := by decide +kernel
theorem d_CS_replaced_112 : decode prog_2_method_10_code 112 = .ok (.iinc 8 1, 3) := by decide +kernel
theorem d_CS_replaced_115 : decode prog_2_method_10_code 115 = .ok (.goto (-102), 3) := by decide +kernel
theorem d_CS_replaced_118 : decode prog_2_method_10_code 118 = .ok (.lload 5, 2) := by decide +kernel
theorem d_CS_replaced_120 : decode prog_2_method_10_code 120 = .ok (.lreturn, 1) := by decide +kernel
theorem d_CS_weigh_0 : decode prog_2_method_11_code 0 = .ok (.aload_n 0, 1) := by decide +kernel
theorem d_CS_weigh_1 : decode prog_2_method_11_code 1 = .ok (.getfield 9, 3) := by decide +kernel
theorem d_CS_weigh_4 : decode prog_2_method_11_code 4 = .ok (.aload_n 0, 1) := by decide +kernel
theorem d_CS_weigh_5 : decode prog_2_method_11_code 5 = .ok (.getfield 28, 3) := by decide +kernel
theorem d_CS_weigh_8 : decode prog_2_method_11_code 8 = .ok (.invokevirtual 153, 3) := by decide +kernel
theorem d_CS_weigh_11 : decode prog_2_method_11_code 11 = .ok (.lstore_n 1, 1) := by decide +kernel
theorem d_CS_weigh_12 : decode prog_2_method_11_code 12 = .ok (.aload_n 0, 1) := by decide +kernel
theorem d_CS_weigh_13 : decode prog_2_method_11_code 13 = .ok (.getfield 54, 3) := by decide +kernel
theorem d_CS_weigh_16 : decode prog_2_method_11_code 16 = .ok (.ifCond .eq 25, 3) := by decide +kernel
theorem d_CS_weigh_19 : decode prog_2_method_11_code 19 = .ok (.lload_n 1, 1) := by decide +kernel
theorem d_CS_weigh_20 : decode prog_2_method_11_code 20 = .ok (.aload_n 0, 1) := by decide +kernel
theorem d_CS_weigh_21 : decode prog_2_method_11_code 21 = .ok (.getfield 28, 3) := by decide +kernel
theorem d_CS_weigh_24 : decode prog_2_method_11_code 24 = .ok (.iconst 4, 1) := by decide +kernel
theorem d_CS_weigh_25 : decode prog_2_method_11_code 25 = .ok (.laload, 1) := by decide +kernel
theorem d_CS_weigh_26 : decode prog_2_method_11_code 26 = .ok (.aload_n 0, 1) := by decide +kernel
theorem d_CS_weigh_27 : decode prog_2_method_11_code 27 = .ok (.getfield 58, 3) := by decide +kernel
theorem d_CS_weigh_30 : decode prog_2_method_11_code 30 = .ok (.aload_n 0, 1) := by decide +kernel
theorem d_CS_weigh_31 : decode prog_2_method_11_code 31 = .ok (.getfield 62, 3) := by decide +kernel
theorem d_CS_weigh_34 : decode prog_2_method_11_code 34 = .ok (.invokestatic 157, 3) := by decide +kernel
theorem d_CS_weigh_37 : decode prog_2_method_11_code 37 = .ok (.ifCond .ne 4, 3) := by decide +kernel
theorem d_CS_weigh_40 : decode prog_2_method_11_code 40 = .ok (.return_, 1) := by decide +kernel
theorem d_CS_weigh_41 : decode prog_2_method_11_code 41 = .ok (.aload_n 0, 1) := by decide +kernel
theorem d_CS_weigh_42 : decode prog_2_method_11_code 42 = .ok (.getfield 9, 3) := by decide +kernel
theorem d_CS_weigh_45 : decode prog_2_method_11_code 45 = .ok (.aload_n 0, 1) := by decide +kernel
theorem d_CS_weigh_46 : decode prog_2_method_11_code 46 = .ok (.getfield 28, 3) := by decide +kernel
theorem d_CS_weigh_49 : decode prog_2_method_11_code 49 = .ok (.aload_n 0, 1) := by decide +kernel
theorem d_CS_weigh_50 : decode prog_2_method_11_code 50 = .ok (.getfield 32, 3) := by decide +kernel
theorem d_CS_weigh_53 : decode prog_2_method_11_code 53 = .ok (.invokevirtual 161, 3) := by decide +kernel
theorem d_CS_weigh_56 : decode prog_2_method_11_code 56 = .ok (.iconst 0, 1) := by decide +kernel
theorem d_CS_weigh_57 : decode prog_2_method_11_code 57 = .ok (.istore_n 3, 1) := by decide +kernel
theorem d_CS_weigh_58 : decode prog_2_method_11_code 58 = .ok (.iconst 0, 1) := by decide +kernel
theorem d_CS_weigh_59 : decode prog_2_method_11_code 59 = .ok (.istore 4, 2) := by decide +kernel
theorem d_CS_weigh_61 : decode prog_2_method_11_code 61 = .ok (.iload 4, 2) := by decide +kernel
theorem d_CS_weigh_63 : decode prog_2_method_11_code 63 = .ok (.aload_n 0, 1) := by decide +kernel
theorem d_CS_weigh_64 : decode prog_2_method_11_code 64 = .ok (.getfield 19, 3) := by decide +kernel
theorem d_CS_weigh_67 : decode prog_2_method_11_code 67 = .ok (.getfield 78, 3) := by decide +kernel
theorem d_CS_weigh_70 : decode prog_2_method_11_code 70 = .ok (.if_icmp .ge 48, 3) := by decide +kernel
theorem d_CS_weigh_73 : decode prog_2_method_11_code 73 = .ok (.aload_n 0, 1) := by decide +kernel
theorem d_CS_weigh_74 : decode prog_2_method_11_code 74 = .ok (.getfield 15, 3) := by decide +kernel
theorem d_CS_weigh_77 : decode prog_2_method_11_code 77 = .ok (.aload_n 0, 1) := by decide +kernel
theorem d_CS_weigh_78 : decode prog_2_method_11_code 78 = .ok (.getfield 19, 3) := by decide +kernel
theorem d_CS_weigh_81 : decode prog_2_method_11_code 81 = .ok (.getfield 83, 3) := by decide +kernel
theorem d_CS_weigh_84 : decode prog_2_method_11_code 84 = .ok (.iload 4, 2) := by decide +kernel
theorem d_CS_weigh_86 : decode prog_2_method_11_code 86 = .ok (.iaload, 1) := by decide +kernel
theorem d_CS_weigh_87 : decode prog_2_method_11_code 87 = .ok (.aload_n 0, 1) := by decide +kernel
theorem d_CS_weigh_88 : decode prog_2_method_11_code 88 = .ok (.getfield 32, 3) := by decide +kernel
theorem d_CS_weigh_91 : decode prog_2_method_11_code 91 = .ok (.invokevirtual 165, 3) := by decide +kernel
theorem d_CS_weigh_94 : decode prog_2_method_11_code 94 = .ok (.ifCond .ne 18, 3) := by decide +kernel
theorem d_CS_weigh_97 : decode prog_2_method_11_code 97 = .ok (.iload_n 3, 1) := by decide +kernel
theorem d_CS_weigh_98 : decode prog_2_method_11_code 98 = .ok (.iconst 1, 1) := by decide +kernel
theorem d_CS_weigh_99 : decode prog_2_method_11_code 99 = .ok (.aload_n 0, 1) := by decide +kernel
theorem d_CS_weigh_100 : decode prog_2_method_11_code 100 = .ok (.getfield 19, 3) := by decide +kernel
theorem d_CS_weigh_103 : decode prog_2_method_11_code 103 = .ok (.getfield 83, 3) := by decide +kernel
theorem d_CS_weigh_106 : decode prog_2_method_11_code 106 = .ok (.iload 4, 2) := by decide +kernel
theorem d_CS_weigh_108 : decode prog_2_method_11_code 108 = .ok (.iaload, 1) := by decide +kernel
theorem d_CS_weigh_109 : decode prog_2_method_11_code 109 = .ok (.ishl, 1) := by decide +kernel
theorem d_CS_weigh_110 : decode prog_2_method_11_code 110 = .ok (.ior, 1) := by decide +kernel
theorem d_CS_weigh_111 : decode prog_2_method_11_code 111 = .ok (.istore_n 3, 1) := by decide +kernel
theorem d_CS_weigh_112 : decode prog_2_method_11_code 112 = .ok (.iinc 4 1, 3) := by decide +kernel
theorem d_CS_weigh_115 : decode prog_2_method_11_code 115 = .ok (.goto (-54), 3) := by decide +kernel
theorem d_CS_weigh_118 : decode prog_2_method_11_code 118 = .ok (.iload_n 3, 1) := by decide +kernel
theorem d_CS_weigh_119 : decode prog_2_method_11_code 119 = .ok (.ifCond .ne 26, 3) := by decide +kernel
theorem d_CS_weigh_122 : decode prog_2_method_11_code 122 = .ok (.aload_n 0, 1) := by decide +kernel
theorem d_CS_weigh_123 : decode prog_2_method_11_code 123 = .ok (.iconst 1, 1) := by decide +kernel
theorem d_CS_weigh_124 : decode prog_2_method_11_code 124 = .ok (.putfield 54, 3) := by decide +kernel
theorem d_CS_weigh_127 : decode prog_2_method_11_code 127 = .ok (.aload_n 0, 1) := by decide +kernel
theorem d_CS_weigh_128 : decode prog_2_method_11_code 128 = .ok (.lload_n 1, 1) := by decide +kernel
theorem d_CS_weigh_129 : decode prog_2_method_11_code 129 = .ok (.putfield 58, 3) := by decide +kernel
theorem d_CS_weigh_132 : decode prog_2_method_11_code 132 = .ok (.aload_n 0, 1) := by decide +kernel
theorem d_CS_weigh_133 : decode prog_2_method_11_code 133 = .ok (.aload_n 0, 1) := by decide +kernel
theorem d_CS_weigh_134 : decode prog_2_method_11_code 134 = .ok (.getfield 28, 3) := by decide +kernel
theorem d_CS_weigh_137 : decode prog_2_method_11_code 137 = .ok (.iconst 4, 1) := by decide +kernel
theorem d_CS_weigh_138 : decode prog_2_method_11_code 138 = .ok (.laload, 1) := by decide +kernel
theorem d_CS_weigh_139 : decode prog_2_method_11_code 139 = .ok (.putfield 62, 3) := by decide +kernel
theorem d_CS_weigh_142 : decode prog_2_method_11_code 142 = .ok (.goto 39, 3) := by decide +kernel
theorem d_CS_weigh_145 : decode prog_2_method_11_code 145 = .ok (.aload_n 0, 1) := by decide +kernel
theorem d_CS_weigh_146 : decode prog_2_method_11_code 146 = .ok (.getfield 35, 3) := by decide +kernel
theorem d_CS_weigh_149 : decode prog_2_method_11_code 149 = .ok (.iload_n 3, 1) := by decide +kernel
theorem d_CS_weigh_150 : decode prog_2_method_11_code 150 = .ok (.baload, 1) := by decide +kernel
theorem d_CS_weigh_151 : decode prog_2_method_11_code 151 = .ok (.ifCond .ne 30, 3) := by decide +kernel
theorem d_CS_weigh_154 : decode prog_2_method_11_code 154 = .ok (.aload_n 0, 1) := by decide +kernel
theorem d_CS_weigh_155 : decode prog_2_method_11_code 155 = .ok (.getfield 35, 3) := by decide +kernel
theorem d_CS_weigh_158 : decode prog_2_method_11_code 158 = .ok (.iload_n 3, 1) := by decide +kernel
theorem d_CS_weigh_159 : decode prog_2_method_11_code 159 = .ok (.iconst 1, 1) := by decide +kernel
theorem d_CS_weigh_160 : decode prog_2_method_11_code 160 = .ok (.bastore, 1) := by decide +kernel
theorem d_CS_weigh_161 : decode prog_2_method_11_code 161 = .ok (.aload_n 0, 1) := by decide +kernel
theorem d_CS_weigh_162 : decode prog_2_method_11_code 162 = .ok (.getfield 39, 3) := by decide +kernel
theorem d_CS_weigh_165 : decode prog_2_method_11_code 165 = .ok (.aload_n 0, 1) := by decide +kernel
theorem d_CS_weigh_166 : decode prog_2_method_11_code 166 = .ok (.getfield 50, 3) := by decide +kernel
theorem d_CS_weigh_169 : decode prog_2_method_11_code 169 = .ok (.iload_n 3, 1) := by decide +kernel
theorem d_CS_weigh_170 : decode prog_2_method_11_code 170 = .ok (.iastore, 1) := by decide +kernel
theorem d_CS_weigh_171 : decode prog_2_method_11_code 171 = .ok (.aload_n 0, 1) := by decide +kernel
theorem d_CS_weigh_172 : decode prog_2_method_11_code 172 = .ok (.dup, 1) := by decide +kernel
theorem d_CS_weigh_173 : decode prog_2_method_11_code 173 = .ok (.getfield 50, 3) := by decide +kernel
theorem d_CS_weigh_176 : decode prog_2_method_11_code 176 = .ok (.iconst 1, 1) := by decide +kernel
theorem d_CS_weigh_177 : decode prog_2_method_11_code 177 = .ok (.iadd, 1) := by decide +kernel
theorem d_CS_weigh_178 : decode prog_2_method_11_code 178 = .ok (.putfield 50, 3) := by decide +kernel
theorem d_CS_weigh_181 : decode prog_2_method_11_code 181 = .ok (.return_, 1) := by decide +kernel
theorem d_CS_isLess_0 : decode prog_2_method_12_code 0 = .ok (.iconst 0, 1) := by decide +kernel
theorem d_CS_isLess_1 : decode prog_2_method_12_code 1 = .ok (.istore 8, 2) := by decide +kernel
theorem d_CS_isLess_3 : decode prog_2_method_12_code 3 = .ok (.iload 8, 2) := by decide +kernel
theorem d_CS_isLess_5 : decode prog_2_method_12_code 5 = .ok (.sipush 200, 3) := by decide +kernel
theorem d_CS_isLess_8 : decode prog_2_method_12_code 8 = .ok (.if_icmp .ge 120, 3) := by decide +kernel
theorem d_CS_isLess_11 : decode prog_2_method_12_code 11 = .ok (.lload_n 2, 1) := by decide +kernel
theorem d_CS_isLess_12 : decode prog_2_method_12_code 12 = .ok (.lconst 0, 1) := by decide +kernel
theorem d_CS_isLess_13 : decode prog_2_method_12_code 13 = .ok (.lcmp, 1) := by decide +kernel
theorem d_CS_isLess_14 : decode prog_2_method_12_code 14 = .ok (.ifCond .le 10, 3) := by decide +kernel
theorem d_CS_isLess_17 : decode prog_2_method_12_code 17 = .ok (.lload 6, 2) := by decide +kernel
theorem d_CS_isLess_19 : decode prog_2_method_12_code 19 = .ok (.lconst 0, 1) := by decide +kernel
theorem d_CS_isLess_20 : decode prog_2_method_12_code 20 = .ok (.lcmp, 1) := by decide +kernel
theorem d_CS_isLess_21 : decode prog_2_method_12_code 21 = .ok (.ifCond .gt 5, 3) := by decide +kernel
theorem d_CS_isLess_24 : decode prog_2_method_12_code 24 = .ok (.iconst 0, 1) := by decide +kernel
theorem d_CS_isLess_25 : decode prog_2_method_12_code 25 = .ok (.ireturn, 1) := by decide +kernel
theorem d_CS_isLess_26 : decode prog_2_method_12_code 26 = .ok (.lload_n 0, 1) := by decide +kernel
theorem d_CS_isLess_27 : decode prog_2_method_12_code 27 = .ok (.lload_n 2, 1) := by decide +kernel
theorem d_CS_isLess_28 : decode prog_2_method_12_code 28 = .ok (.invokestatic 168, 3) := by decide +kernel
theorem d_CS_isLess_31 : decode prog_2_method_12_code 31 = .ok (.lstore 9, 2) := by decide +kernel
theorem d_CS_isLess_33 : decode prog_2_method_12_code 33 = .ok (.lload 4, 2) := by decide +kernel
theorem d_CS_isLess_35 : decode prog_2_method_12_code 35 = .ok (.lload 6, 2) := by decide +kernel
theorem d_CS_isLess_37 : decode prog_2_method_12_code 37 = .ok (.invokestatic 168, 3) := by decide +kernel
theorem d_CS_isLess_40 : decode prog_2_method_12_code 40 = .ok (.lstore 11, 2) := by decide +kernel
theorem d_CS_isLess_42 : decode prog_2_method_12_code 42 = .ok (.lload 9, 2) := by decide +kernel
theorem d_CS_isLess_44 : decode prog_2_method_12_code 44 = .ok (.lload 11, 2) := by decide +kernel
theorem d_CS_isLess_46 : decode prog_2_method_12_code 46 = .ok (.lcmp, 1) := by decide +kernel
theorem d_CS_isLess_47 : decode prog_2_method_12_code 47 = .ok (.ifCond .eq 17, 3) := by decide +kernel
theorem d_CS_isLess_50 : decode prog_2_method_12_code 50 = .ok (.lload 9, 2) := by decide +kernel
theorem d_CS_isLess_52 : decode prog_2_method_12_code 52 = .ok (.lload 11, 2) := by decide +kernel
theorem d_CS_isLess_54 : decode prog_2_method_12_code 54 = .ok (.lcmp, 1) := by decide +kernel
theorem d_CS_isLess_55 : decode prog_2_method_12_code 55 = .ok (.ifCond .ge 7, 3) := by decide +kernel
theorem d_CS_isLess_58 : decode prog_2_method_12_code 58 = .ok (.iconst 1, 1) := by decide +kernel
theorem d_CS_isLess_59 : decode prog_2_method_12_code 59 = .ok (.goto 4, 3) := by decide +kernel
theorem d_CS_isLess_62 : decode prog_2_method_12_code 62 = .ok (.iconst 0, 1) := by decide +kernel
theorem d_CS_isLess_63 : decode prog_2_method_12_code 63 = .ok (.ireturn, 1) := by decide +kernel
theorem d_CS_isLess_64 : decode prog_2_method_12_code 64 = .ok (.lload_n 0, 1) := by decide +kernel
theorem d_CS_isLess_65 : decode prog_2_method_12_code 65 = .ok (.lload 9, 2) := by decide +kernel
theorem d_CS_isLess_67 : decode prog_2_method_12_code 67 = .ok (.lload_n 2, 1) := by decide +kernel
theorem d_CS_isLess_68 : decode prog_2_method_12_code 68 = .ok (.lmul, 1) := by decide +kernel
theorem d_CS_isLess_69 : decode prog_2_method_12_code 69 = .ok (.lsub, 1) := by decide +kernel
theorem d_CS_isLess_70 : decode prog_2_method_12_code 70 = .ok (.lstore 13, 2) := by decide +kernel
theorem d_CS_isLess_72 : decode prog_2_method_12_code 72 = .ok (.lload 4, 2) := by decide +kernel
theorem d_CS_isLess_74 : decode prog_2_method_12_code 74 = .ok (.lload 11, 2) := by decide +kernel
theorem d_CS_isLess_76 : decode prog_2_method_12_code 76 = .ok (.lload 6, 2) := by decide +kernel
theorem d_CS_isLess_78 : decode prog_2_method_12_code 78 = .ok (.lmul, 1) := by decide +kernel
theorem d_CS_isLess_79 : decode prog_2_method_12_code 79 = .ok (.lsub, 1) := by decide +kernel
theorem d_CS_isLess_80 : decode prog_2_method_12_code 80 = .ok (.lstore 15, 2) := by decide +kernel
theorem d_CS_isLess_82 : decode prog_2_method_12_code 82 = .ok (.lload 13, 2) := by decide +kernel
theorem d_CS_isLess_84 : decode prog_2_method_12_code 84 = .ok (.lconst 0, 1) := by decide +kernel
theorem d_CS_isLess_85 : decode prog_2_method_12_code 85 = .ok (.lcmp, 1) := by decide +kernel
theorem d_CS_isLess_86 : decode prog_2_method_12_code 86 = .ok (.ifCond .eq 10, 3) := by decide +kernel
theorem d_CS_isLess_89 : decode prog_2_method_12_code 89 = .ok (.lload 15, 2) := by decide +kernel
theorem d_CS_isLess_91 : decode prog_2_method_12_code 91 = .ok (.lconst 0, 1) := by decide +kernel
theorem d_CS_isLess_92 : decode prog_2_method_12_code 92 = .ok (.lcmp, 1) := by decide +kernel
theorem d_CS_isLess_93 : decode prog_2_method_12_code 93 = .ok (.ifCond .ne 16, 3) := by decide +kernel
theorem d_CS_isLess_96 : decode prog_2_method_12_code 96 = .ok (.lload 15, 2) := by decide +kernel
theorem d_CS_isLess_98 : decode prog_2_method_12_code 98 = .ok (.lconst 0, 1) := by decide +kernel
theorem d_CS_isLess_99 : decode prog_2_method_12_code 99 = .ok (.lcmp, 1) := by decide +kernel
theorem d_CS_isLess_100 : decode prog_2_method_12_code 100 = .ok (.ifCond .eq 7, 3) := by decide +kernel
theorem d_CS_isLess_103 : decode prog_2_method_12_code 103 = .ok (.iconst 1, 1) := by decide +kernel
theorem d_CS_isLess_104 : decode prog_2_method_12_code 104 = .ok (.goto 4, 3) := by decide +kernel
theorem d_CS_isLess_107 : decode prog_2_method_12_code 107 = .ok (.iconst 0, 1) := by decide +kernel
theorem d_CS_isLess_108 : decode prog_2_method_12_code 108 = .ok (.ireturn, 1) := by decide +kernel
theorem d_CS_isLess_109 : decode prog_2_method_12_code 109 = .ok (.lload 6, 2) := by decide +kernel
theorem d_CS_isLess_111 : decode prog_2_method_12_code 111 = .ok (.lstore_n 0, 1) := by decide +kernel
theorem d_CS_isLess_112 : decode prog_2_method_12_code 112 = .ok (.lload_n 2, 1) := by decide +kernel
theorem d_CS_isLess_113 : decode prog_2_method_12_code 113 = .ok (.lstore 4, 2) := by decide +kernel
theorem d_CS_isLess_115 : decode prog_2_method_12_code 115 = .ok (.lload 15, 2) := by decide +kernel
theorem d_CS_isLess_117 : decode prog_2_method_12_code 117 = .ok (.lstore_n 2, 1) := by decide +kernel
theorem d_CS_isLess_118 : decode prog_2_method_12_code 118 = .ok (.lload 13, 2) := by decide +kernel
theorem d_CS_isLess_120 : decode prog_2_method_12_code 120 = .ok (.lstore 6, 2) := by decide +kernel
theorem d_CS_isLess_122 : decode prog_2_method_12_code 122 = .ok (.iinc 8 1, 3) := by decide +kernel
theorem d_CS_isLess_125 : decode prog_2_method_12_code 125 = .ok (.goto (-122), 3) := by decide +kernel
theorem d_CS_isLess_128 : decode prog_2_method_12_code 128 = .ok (.iconst 0, 1) := by decide +kernel
theorem d_CS_isLess_129 : decode prog_2_method_12_code 129 = .ok (.ireturn, 1) := by decide +kernel
theorem d_CS_commonDivisor_0 : decode prog_2_method_13_code 0 = .ok (.aload_n 0, 1) := by decide +kernel
theorem d_CS_commonDivisor_1 : decode prog_2_method_13_code 1 = .ok (.getfield 58, 3) := by decide +kernel
theorem d_CS_commonDivisor_4 : decode prog_2_method_13_code 4 = .ok (.invokestatic 174, 3) := by decide +kernel
theorem d_CS_commonDivisor_7 : decode prog_2_method_13_code 7 = .ok (.lstore_n 1, 1) := by decide +kernel
theorem d_CS_commonDivisor_8 : decode prog_2_method_13_code 8 = .ok (.aload_n 0, 1) := by decide +kernel
theorem d_CS_commonDivisor_9 : decode prog_2_method_13_code 9 = .ok (.getfield 62, 3) := by decide +kernel
theorem d_CS_commonDivisor_12 : decode prog_2_method_13_code 12 = .ok (.lstore_n 3, 1) := by decide +kernel
theorem d_CS_commonDivisor_13 : decode prog_2_method_13_code 13 = .ok (.iconst 0, 1) := by decide +kernel
theorem d_CS_commonDivisor_14 : decode prog_2_method_13_code 14 = .ok (.istore 5, 2) := by decide +kernel
theorem d_CS_commonDivisor_16 : decode prog_2_method_13_code 16 = .ok (.iload 5, 2) := by decide +kernel
theorem d_CS_commonDivisor_18 : decode prog_2_method_13_code 18 = .ok (.sipush 200, 3) := by decide +kernel
theorem d_CS_commonDivisor_21 : decode prog_2_method_13_code 21 = .ok (.if_icmp .ge 25, 3) := by decide +kernel
theorem d_CS_commonDivisor_24 : decode prog_2_method_13_code 24 = .ok (.lload_n 1, 1) := by decide +kernel
theorem d_CS_commonDivisor_25 : decode prog_2_method_13_code 25 = .ok (.lconst 0, 1) := by decide +kernel
theorem d_CS_commonDivisor_26 : decode prog_2_method_13_code 26 = .ok (.lcmp, 1) := by decide +kernel
theorem d_CS_commonDivisor_27 : decode prog_2_method_13_code 27 = .ok (.ifCond .eq 19, 3) := by decide +kernel
theorem d_CS_commonDivisor_30 : decode prog_2_method_13_code 30 = .ok (.lload_n 3, 1) := by decide +kernel
theorem d_CS_commonDivisor_31 : decode prog_2_method_13_code 31 = .ok (.lload_n 1, 1) := by decide +kernel
theorem d_CS_commonDivisor_32 : decode prog_2_method_13_code 32 = .ok (.lrem, 1) := by decide +kernel
theorem d_CS_commonDivisor_33 : decode prog_2_method_13_code 33 = .ok (.lstore 6, 2) := by decide +kernel
theorem d_CS_commonDivisor_35 : decode prog_2_method_13_code 35 = .ok (.lload_n 1, 1) := by decide +kernel
theorem d_CS_commonDivisor_36 : decode prog_2_method_13_code 36 = .ok (.lstore_n 3, 1) := by decide +kernel
theorem d_CS_commonDivisor_37 : decode prog_2_method_13_code 37 = .ok (.lload 6, 2) := by decide +kernel
theorem d_CS_commonDivisor_39 : decode prog_2_method_13_code 39 = .ok (.lstore_n 1, 1) := by decide +kernel
theorem d_CS_commonDivisor_40 : decode prog_2_method_13_code 40 = .ok (.iinc 5 1, 3) := by decide +kernel
theorem d_CS_commonDivisor_43 : decode prog_2_method_13_code 43 = .ok (.goto (-27), 3) := by decide +kernel
theorem d_CS_commonDivisor_46 : decode prog_2_method_13_code 46 = .ok (.lload_n 3, 1) := by decide +kernel
theorem d_CS_commonDivisor_47 : decode prog_2_method_13_code 47 = .ok (.lconst 0, 1) := by decide +kernel
theorem d_CS_commonDivisor_48 : decode prog_2_method_13_code 48 = .ok (.lcmp, 1) := by decide +kernel
theorem d_CS_commonDivisor_49 : decode prog_2_method_13_code 49 = .ok (.ifCond .le 7, 3) := by decide +kernel
theorem d_CS_commonDivisor_52 : decode prog_2_method_13_code 52 = .ok (.lload_n 3, 1) := by decide +kernel
theorem d_CS_commonDivisor_53 : decode prog_2_method_13_code 53 = .ok (.goto 4, 3) := by decide +kernel
theorem d_CS_commonDivisor_56 : decode prog_2_method_13_code 56 = .ok (.lconst 1, 1) := by decide +kernel
theorem d_CS_commonDivisor_57 : decode prog_2_method_13_code 57 = .ok (.lreturn, 1) := by decide +kernel
theorem d_CS_fewestClashing_0 : decode prog_2_method_14_code 0 = .ok (.iconst 0, 1) := by decide +kernel
theorem d_CS_fewestClashing_1 : decode prog_2_method_14_code 1 = .ok (.istore_n 1, 1) := by decide +kernel
theorem d_CS_fewestClashing_2 : decode prog_2_method_14_code 2 = .ok (.bipush 9, 2) := by decide +kernel
theorem d_CS_fewestClashing_4 : decode prog_2_method_14_code 4 = .ok (.istore_n 2, 1) := by decide +kernel
theorem d_CS_fewestClashing_5 : decode prog_2_method_14_code 5 = .ok (.iconst 1, 1) := by decide +kernel
theorem d_CS_fewestClashing_6 : decode prog_2_method_14_code 6 = .ok (.istore_n 3, 1) := by decide +kernel
theorem d_CS_fewestClashing_7 : decode prog_2_method_14_code 7 = .ok (.iload_n 3, 1) := by decide +kernel
theorem d_CS_fewestClashing_8 : decode prog_2_method_14_code 8 = .ok (.sipush 256, 3) := by decide +kernel
theorem d_CS_fewestClashing_11 : decode prog_2_method_14_code 11 = .ok (.if_icmp .ge 46, 3) := by decide +kernel
theorem d_CS_fewestClashing_14 : decode prog_2_method_14_code 14 = .ok (.iload_n 3, 1) := by decide +kernel
theorem d_CS_fewestClashing_15 : decode prog_2_method_14_code 15 = .ok (.aload_n 0, 1) := by decide +kernel
theorem d_CS_fewestClashing_16 : decode prog_2_method_14_code 16 = .ok (.getfield 15, 3) := by decide +kernel
theorem d_CS_fewestClashing_19 : decode prog_2_method_14_code 19 = .ok (.getfield 178, 3) := by decide +kernel
theorem d_CS_fewestClashing_22 : decode prog_2_method_14_code 22 = .ok (.iconst (-1), 1) := by decide +kernel
theorem d_CS_fewestClashing_23 : decode prog_2_method_14_code 23 = .ok (.ixor, 1) := by decide +kernel
theorem d_CS_fewestClashing_24 : decode prog_2_method_14_code 24 = .ok (.iand, 1) := by decide +kernel
theorem d_CS_fewestClashing_25 : decode prog_2_method_14_code 25 = .ok (.ifCond .ne 26, 3) := by decide +kernel
theorem d_CS_fewestClashing_28 : decode prog_2_method_14_code 28 = .ok (.iload_n 3, 1) := by decide +kernel
theorem d_CS_fewestClashing_29 : decode prog_2_method_14_code 29 = .ok (.invokestatic 147, 3) := by decide +kernel
theorem d_CS_fewestClashing_32 : decode prog_2_method_14_code 32 = .ok (.iload_n 2, 1) := by decide +kernel
theorem d_CS_fewestClashing_33 : decode prog_2_method_14_code 33 = .ok (.if_icmp .ge 18, 3) := by decide +kernel
theorem d_CS_fewestClashing_36 : decode prog_2_method_14_code 36 = .ok (.aload_n 0, 1) := by decide +kernel
theorem d_CS_fewestClashing_37 : decode prog_2_method_14_code 37 = .ok (.iload_n 3, 1) := by decide +kernel
theorem d_CS_fewestClashing_38 : decode prog_2_method_14_code 38 = .ok (.invokevirtual 181, 3) := by decide +kernel
theorem d_CS_fewestClashing_41 : decode prog_2_method_14_code 41 = .ok (.ifCond .eq 10, 3) := by decide +kernel
theorem d_CS_fewestClashing_44 : decode prog_2_method_14_code 44 = .ok (.iload_n 3, 1) := by decide +kernel
theorem d_CS_fewestClashing_45 : decode prog_2_method_14_code 45 = .ok (.istore_n 1, 1) := by decide +kernel
theorem d_CS_fewestClashing_46 : decode prog_2_method_14_code 46 = .ok (.iload_n 3, 1) := by decide +kernel
theorem d_CS_fewestClashing_47 : decode prog_2_method_14_code 47 = .ok (.invokestatic 147, 3) := by decide +kernel
theorem d_CS_fewestClashing_50 : decode prog_2_method_14_code 50 = .ok (.istore_n 2, 1) := by decide +kernel
theorem d_CS_fewestClashing_51 : decode prog_2_method_14_code 51 = .ok (.iinc 3 1, 3) := by decide +kernel
theorem d_CS_fewestClashing_54 : decode prog_2_method_14_code 54 = .ok (.goto (-47), 3) := by decide +kernel
theorem d_CS_fewestClashing_57 : decode prog_2_method_14_code 57 = .ok (.iload_n 1, 1) := by decide +kernel
theorem d_CS_fewestClashing_58 : decode prog_2_method_14_code 58 = .ok (.ireturn, 1) := by decide +kernel
theorem d_CS_allBreak_0 : decode prog_2_method_15_code 0 = .ok (.iconst 0, 1) := by decide +kernel
theorem d_CS_allBreak_1 : decode prog_2_method_15_code 1 = .ok (.istore_n 2, 1) := by decide +kernel
theorem d_CS_allBreak_2 : decode prog_2_method_15_code 2 = .ok (.iload_n 2, 1) := by decide +kernel
theorem d_CS_allBreak_3 : decode prog_2_method_15_code 3 = .ok (.aload_n 0, 1) := by decide +kernel
theorem d_CS_allBreak_4 : decode prog_2_method_15_code 4 = .ok (.getfield 50, 3) := by decide +kernel
theorem d_CS_allBreak_7 : decode prog_2_method_15_code 7 = .ok (.if_icmp .ge 22, 3) := by decide +kernel
theorem d_CS_allBreak_10 : decode prog_2_method_15_code 10 = .ok (.aload_n 0, 1) := by decide +kernel
theorem d_CS_allBreak_11 : decode prog_2_method_15_code 11 = .ok (.getfield 39, 3) := by decide +kernel
theorem d_CS_allBreak_14 : decode prog_2_method_15_code 14 = .ok (.iload_n 2, 1) := by decide +kernel
theorem d_CS_allBreak_15 : decode prog_2_method_15_code 15 = .ok (.iaload, 1) := by decide +kernel
theorem d_CS_allBreak_16 : decode prog_2_method_15_code 16 = .ok (.iload_n 1, 1) := by decide +kernel
theorem d_CS_allBreak_17 : decode prog_2_method_15_code 17 = .ok (.iand, 1) := by decide +kernel
theorem d_CS_allBreak_18 : decode prog_2_method_15_code 18 = .ok (.ifCond .ne 5, 3) := by decide +kernel
theorem d_CS_allBreak_21 : decode prog_2_method_15_code 21 = .ok (.iconst 0, 1) := by decide +kernel
theorem d_CS_allBreak_22 : decode prog_2_method_15_code 22 = .ok (.ireturn, 1) := by decide +kernel
theorem d_CS_allBreak_23 : decode prog_2_method_15_code 23 = .ok (.iinc 2 1, 3) := by decide +kernel
theorem d_CS_allBreak_26 : decode prog_2_method_15_code 26 = .ok (.goto (-24), 3) := by decide +kernel
theorem d_CS_allBreak_29 : decode prog_2_method_15_code 29 = .ok (.iconst 1, 1) := by decide +kernel
theorem d_CS_allBreak_30 : decode prog_2_method_15_code 30 = .ok (.ireturn, 1) := by decide +kernel
theorem d_WS_init_0 : decode prog_7_method_1_code 0 = .ok (.aload_n 0, 1) := by decide +kernel
theorem d_WS_init_1 : decode prog_7_method_1_code 1 = .ok (.invokespecial 3, 3) := by decide +kernel
theorem d_WS_init_4 : decode prog_7_method_1_code 4 = .ok (.aload_n 0, 1) := by decide +kernel
theorem d_WS_init_5 : decode prog_7_method_1_code 5 = .ok (.aload_n 1, 1) := by decide +kernel
theorem d_WS_init_6 : decode prog_7_method_1_code 6 = .ok (.putfield 9, 3) := by decide +kernel
theorem d_WS_init_9 : decode prog_7_method_1_code 9 = .ok (.aload_n 0, 1) := by decide +kernel
theorem d_WS_init_10 : decode prog_7_method_1_code 10 = .ok (.aload_n 2, 1) := by decide +kernel
theorem d_WS_init_11 : decode prog_7_method_1_code 11 = .ok (.putfield 15, 3) := by decide +kernel
theorem d_WS_init_14 : decode prog_7_method_1_code 14 = .ok (.aload_n 0, 1) := by decide +kernel
theorem d_WS_init_15 : decode prog_7_method_1_code 15 = .ok (.iconst 5, 1) := by decide +kernel
theorem d_WS_init_16 : decode prog_7_method_1_code 16 = .ok (.bipush 16, 2) := by decide +kernel
theorem d_WS_init_18 : decode prog_7_method_1_code 18 = .ok (.multianewarray 19 2, 4) := by decide +kernel
theorem d_WS_init_22 : decode prog_7_method_1_code 22 = .ok (.putfield 21, 3) := by decide +kernel
theorem d_WS_init_25 : decode prog_7_method_1_code 25 = .ok (.aload_n 0, 1) := by decide +kernel
theorem d_WS_init_26 : decode prog_7_method_1_code 26 = .ok (.iconst 5, 1) := by decide +kernel
theorem d_WS_init_27 : decode prog_7_method_1_code 27 = .ok (.bipush 16, 2) := by decide +kernel
theorem d_WS_init_29 : decode prog_7_method_1_code 29 = .ok (.multianewarray 19 2, 4) := by decide +kernel
theorem d_WS_init_33 : decode prog_7_method_1_code 33 = .ok (.putfield 24, 3) := by decide +kernel
theorem d_WS_init_36 : decode prog_7_method_1_code 36 = .ok (.aload_n 0, 1) := by decide +kernel
theorem d_WS_init_37 : decode prog_7_method_1_code 37 = .ok (.iconst 5, 1) := by decide +kernel
theorem d_WS_init_38 : decode prog_7_method_1_code 38 = .ok (.newarray .long, 2) := by decide +kernel
theorem d_WS_init_40 : decode prog_7_method_1_code 40 = .ok (.putfield 27, 3) := by decide +kernel
theorem d_WS_init_43 : decode prog_7_method_1_code 43 = .ok (.aload_n 0, 1) := by decide +kernel
theorem d_WS_init_44 : decode prog_7_method_1_code 44 = .ok (.iconst 4, 1) := by decide +kernel
theorem d_WS_init_45 : decode prog_7_method_1_code 45 = .ok (.newarray .int, 2) := by decide +kernel
theorem d_WS_init_47 : decode prog_7_method_1_code 47 = .ok (.putfield 31, 3) := by decide +kernel
theorem d_WS_init_50 : decode prog_7_method_1_code 50 = .ok (.aload_n 0, 1) := by decide +kernel
theorem d_WS_init_51 : decode prog_7_method_1_code 51 = .ok (.iconst 4, 1) := by decide +kernel
theorem d_WS_init_52 : decode prog_7_method_1_code 52 = .ok (.newarray .int, 2) := by decide +kernel
theorem d_WS_init_54 : decode prog_7_method_1_code 54 = .ok (.putfield 35, 3) := by decide +kernel
theorem d_WS_init_57 : decode prog_7_method_1_code 57 = .ok (.return_, 1) := by decide +kernel
theorem d_WS_search_0 : decode prog_7_method_2_code 0 = .ok (.aload_n 0, 1) := by decide +kernel
theorem d_WS_search_1 : decode prog_7_method_2_code 1 = .ok (.iconst 0, 1) := by decide +kernel
theorem d_WS_search_2 : decode prog_7_method_2_code 2 = .ok (.putfield 38, 3) := by decide +kernel
theorem d_WS_search_5 : decode prog_7_method_2_code 5 = .ok (.aload_n 0, 1) := by decide +kernel
theorem d_WS_search_6 : decode prog_7_method_2_code 6 = .ok (.lconst 0, 1) := by decide +kernel
theorem d_WS_search_7 : decode prog_7_method_2_code 7 = .ok (.putfield 42, 3) := by decide +kernel
theorem d_WS_search_10 : decode prog_7_method_2_code 10 = .ok (.iload_n 1, 1) := by decide +kernel
theorem d_WS_search_11 : decode prog_7_method_2_code 11 = .ok (.ifCond .eq 13, 3) := by decide +kernel
theorem d_WS_search_14 : decode prog_7_method_2_code 14 = .ok (.aload_n 0, 1) := by decide +kernel
theorem d_WS_search_15 : decode prog_7_method_2_code 15 = .ok (.invokevirtual 46, 3) := by decide +kernel
theorem d_WS_search_18 : decode prog_7_method_2_code 18 = .ok (.aload_n 0, 1) := by decide +kernel
theorem d_WS_search_19 : decode prog_7_method_2_code 19 = .ok (.iconst 0, 1) := by decide +kernel
theorem d_WS_search_20 : decode prog_7_method_2_code 20 = .ok (.lconst 0, 1) := by decide +kernel
theorem d_WS_search_21 : decode prog_7_method_2_code 21 = .ok (.invokevirtual 49, 3) := by decide +kernel
theorem d_WS_search_24 : decode prog_7_method_2_code 24 = .ok (.return_, 1) := by decide +kernel
theorem d_WS_begin_0 : decode prog_7_method_3_code 0 = .ok (.iconst 0, 1) := by decide +kernel
theorem d_WS_begin_1 : decode prog_7_method_3_code 1 = .ok (.istore_n 1, 1) := by decide +kernel
theorem d_WS_begin_2 : decode prog_7_method_3_code 2 = .ok (.iload_n 1, 1) := by decide +kernel
theorem d_WS_begin_3 : decode prog_7_method_3_code 3 = .ok (.iconst 2, 1) := by decide +kernel
theorem d_WS_begin_4 : decode prog_7_method_3_code 4 = .ok (.aload_n 0, 1) := by decide +kernel
theorem d_WS_begin_5 : decode prog_7_method_3_code 5 = .ok (.getfield 15, 3) := by decide +kernel
theorem d_WS_begin_8 : decode prog_7_method_3_code 8 = .ok (.getfield 53, 3) := by decide +kernel
theorem d_WS_begin_11 : decode prog_7_method_3_code 11 = .ok (.imul, 1) := by decide +kernel
theorem d_WS_begin_12 : decode prog_7_method_3_code 12 = .ok (.if_icmp .ge 28, 3) := by decide +kernel
theorem d_WS_begin_15 : decode prog_7_method_3_code 15 = .ok (.aload_n 0, 1) := by decide +kernel
theorem d_WS_begin_16 : decode prog_7_method_3_code 16 = .ok (.getfield 21, 3) := by decide +kernel
theorem d_WS_begin_19 : decode prog_7_method_3_code 19 = .ok (.iconst 0, 1) := by decide +kernel
theorem d_WS_begin_20 : decode prog_7_method_3_code 20 = .ok (.aaload, 1) := by decide +kernel
theorem d_WS_begin_21 : decode prog_7_method_3_code 21 = .ok (.iload_n 1, 1) := by decide +kernel
theorem d_WS_begin_22 : decode prog_7_method_3_code 22 = .ok (.aload_n 0, 1) := by decide +kernel
theorem d_WS_begin_23 : decode prog_7_method_3_code 23 = .ok (.getfield 15, 3) := by decide +kernel
theorem d_WS_begin_26 : decode prog_7_method_3_code 26 = .ok (.getfield 59, 3) := by decide +kernel
theorem d_WS_begin_29 : decode prog_7_method_3_code 29 = .ok (.iload_n 1, 1) := by decide +kernel
theorem d_WS_begin_30 : decode prog_7_method_3_code 30 = .ok (.aaload, 1) := by decide +kernel
theorem d_WS_begin_31 : decode prog_7_method_3_code 31 = .ok (.iconst 4, 1) := by decide +kernel
theorem d_WS_begin_32 : decode prog_7_method_3_code 32 = .ok (.laload, 1) := by decide +kernel
theorem d_WS_begin_33 : decode prog_7_method_3_code 33 = .ok (.lastore, 1) := by decide +kernel
theorem d_WS_begin_34 : decode prog_7_method_3_code 34 = .ok (.iinc 1 1, 3) := by decide +kernel
theorem d_WS_begin_37 : decode prog_7_method_3_code 37 = .ok (.goto (-35), 3) := by decide +kernel
theorem d_WS_begin_40 : decode prog_7_method_3_code 40 = .ok (.iconst 3, 1) := by decide +kernel
theorem d_WS_begin_41 : decode prog_7_method_3_code 41 = .ok (.istore_n 1, 1) := by decide +kernel
theorem d_WS_begin_42 : decode prog_7_method_3_code 42 = .ok (.iload_n 1, 1) := by decide +kernel
theorem d_WS_begin_43 : decode prog_7_method_3_code 43 = .ok (.ifCond .lt 114, 3) := by decide +kernel
theorem d_WS_begin_46 : decode prog_7_method_3_code 46 = .ok (.aload_n 0, 1) := by decide +kernel
theorem d_WS_begin_47 : decode prog_7_method_3_code 47 = .ok (.getfield 27, 3) := by decide +kernel
theorem d_WS_begin_50 : decode prog_7_method_3_code 50 = .ok (.iload_n 1, 1) := by decide +kernel
theorem d_WS_begin_51 : decode prog_7_method_3_code 51 = .ok (.aload_n 0, 1) := by decide +kernel
theorem d_WS_begin_52 : decode prog_7_method_3_code 52 = .ok (.getfield 27, 3) := by decide +kernel
theorem d_WS_begin_55 : decode prog_7_method_3_code 55 = .ok (.iload_n 1, 1) := by decide +kernel
theorem d_WS_begin_56 : decode prog_7_method_3_code 56 = .ok (.iconst 1, 1) := by decide +kernel
theorem d_WS_begin_57 : decode prog_7_method_3_code 57 = .ok (.iadd, 1) := by decide +kernel
theorem d_WS_begin_58 : decode prog_7_method_3_code 58 = .ok (.laload, 1) := by decide +kernel
theorem d_WS_begin_59 : decode prog_7_method_3_code 59 = .ok (.lconst 0, 1) := by decide +kernel
theorem d_WS_begin_60 : decode prog_7_method_3_code 60 = .ok (.aload_n 0, 1) := by decide +kernel
theorem d_WS_begin_61 : decode prog_7_method_3_code 61 = .ok (.getfield 9, 3) := by decide +kernel
theorem d_WS_begin_64 : decode prog_7_method_3_code 64 = .ok (.getfield 62, 3) := by decide +kernel
theorem d_WS_begin_67 : decode prog_7_method_3_code 67 = .ok (.iload_n 1, 1) := by decide +kernel
theorem d_WS_begin_68 : decode prog_7_method_3_code 68 = .ok (.laload, 1) := by decide +kernel
theorem d_WS_begin_69 : decode prog_7_method_3_code 69 = .ok (.aload_n 0, 1) := by decide +kernel
theorem d_WS_begin_70 : decode prog_7_method_3_code 70 = .ok (.getfield 9, 3) := by decide +kernel
theorem d_WS_begin_73 : decode prog_7_method_3_code 73 = .ok (.getfield 67, 3) := by decide +kernel
theorem d_WS_begin_76 : decode prog_7_method_3_code 76 = .ok (.iload_n 1, 1) := by decide +kernel
theorem d_WS_begin_77 : decode prog_7_method_3_code 77 = .ok (.iaload, 1) := by decide +kernel
theorem d_WS_begin_78 : decode prog_7_method_3_code 78 = .ok (.i2l, 1) := by decide +kernel
theorem d_WS_begin_79 : decode prog_7_method_3_code 79 = .ok (.lmul, 1) := by decide +kernel
theorem d_WS_begin_80 : decode prog_7_method_3_code 80 = .ok (.invokestatic 70, 3) := by decide +kernel
theorem d_WS_begin_83 : decode prog_7_method_3_code 83 = .ok (.ladd, 1) := by decide +kernel
theorem d_WS_begin_84 : decode prog_7_method_3_code 84 = .ok (.lastore, 1) := by decide +kernel
theorem d_WS_begin_85 : decode prog_7_method_3_code 85 = .ok (.iconst 0, 1) := by decide +kernel
theorem d_WS_begin_86 : decode prog_7_method_3_code 86 = .ok (.istore_n 2, 1) := by decide +kernel
theorem d_WS_begin_87 : decode prog_7_method_3_code 87 = .ok (.iload_n 2, 1) := by decide +kernel
theorem d_WS_begin_88 : decode prog_7_method_3_code 88 = .ok (.iconst 2, 1) := by decide +kernel
theorem d_WS_begin_89 : decode prog_7_method_3_code 89 = .ok (.aload_n 0, 1) := by decide +kernel
theorem d_WS_begin_90 : decode prog_7_method_3_code 90 = .ok (.getfield 15, 3) := by decide +kernel
theorem d_WS_begin_93 : decode prog_7_method_3_code 93 = .ok (.getfield 53, 3) := by decide +kernel
theorem d_WS_begin_96 : decode prog_7_method_3_code 96 = .ok (.imul, 1) := by decide +kernel
theorem d_WS_begin_97 : decode prog_7_method_3_code 97 = .ok (.if_icmp .ge 54, 3) := by decide +kernel
theorem d_WS_begin_100 : decode prog_7_method_3_code 100 = .ok (.aload_n 0, 1) := by decide +kernel
theorem d_WS_begin_101 : decode prog_7_method_3_code 101 = .ok (.getfield 24, 3) := by decide +kernel
theorem d_WS_begin_104 : decode prog_7_method_3_code 104 = .ok (.iload_n 1, 1) := by decide +kernel
theorem d_WS_begin_105 : decode prog_7_method_3_code 105 = .ok (.aaload, 1) := by decide +kernel
theorem d_WS_begin_106 : decode prog_7_method_3_code 106 = .ok (.iload_n 2, 1) := by decide +kernel
theorem d_WS_begin_107 : decode prog_7_method_3_code 107 = .ok (.aload_n 0, 1) := by decide +kernel
theorem d_WS_begin_108 : decode prog_7_method_3_code 108 = .ok (.getfield 24, 3) := by decide +kernel
theorem d_WS_begin_111 : decode prog_7_method_3_code 111 = .ok (.iload_n 1, 1) := by decide +kernel
theorem d_WS_begin_112 : decode prog_7_method_3_code 112 = .ok (.iconst 1, 1) := by decide +kernel
theorem d_WS_begin_113 : decode prog_7_method_3_code 113 = .ok (.iadd, 1) := by decide +kernel
theorem d_WS_begin_114 : decode prog_7_method_3_code 114 = .ok (.aaload, 1) := by decide +kernel
theorem d_WS_begin_115 : decode prog_7_method_3_code 115 = .ok (.iload_n 2, 1) := by decide +kernel
theorem d_WS_begin_116 : decode prog_7_method_3_code 116 = .ok (.laload, 1) := by decide +kernel
theorem d_WS_begin_117 : decode prog_7_method_3_code 117 = .ok (.lconst 0, 1) := by decide +kernel
theorem d_WS_begin_118 : decode prog_7_method_3_code 118 = .ok (.aload_n 0, 1) := by decide +kernel
theorem d_WS_begin_119 : decode prog_7_method_3_code 119 = .ok (.getfield 15, 3) := by decide +kernel
theorem d_WS_begin_122 : decode prog_7_method_3_code 122 = .ok (.getfield 59, 3) := by decide +kernel
theorem d_WS_begin_125 : decode prog_7_method_3_code 125 = .ok (.iload_n 2, 1) := by decide +kernel
theorem d_WS_begin_126 : decode prog_7_method_3_code 126 = .ok (.aaload, 1) := by decide +kernel
theorem d_WS_begin_127 : decode prog_7_method_3_code 127 = .ok (.iload_n 1, 1) := by decide +kernel
theorem d_WS_begin_128 : decode prog_7_method_3_code 128 = .ok (.laload, 1) := by decide +kernel
theorem d_WS_begin_129 : decode prog_7_method_3_code 129 = .ok (.aload_n 0, 1) := by decide +kernel
theorem d_WS_begin_130 : decode prog_7_method_3_code 130 = .ok (.getfield 9, 3) := by decide +kernel
theorem d_WS_begin_133 : decode prog_7_method_3_code 133 = .ok (.getfield 67, 3) := by decide +kernel
theorem d_WS_begin_136 : decode prog_7_method_3_code 136 = .ok (.iload_n 1, 1) := by decide +kernel
theorem d_WS_begin_137 : decode prog_7_method_3_code 137 = .ok (.iaload, 1) := by decide +kernel
theorem d_WS_begin_138 : decode prog_7_method_3_code 138 = .ok (.i2l, 1) := by decide +kernel
theorem d_WS_begin_139 : decode prog_7_method_3_code 139 = .ok (.lmul, 1) := by decide +kernel
theorem d_WS_begin_140 : decode prog_7_method_3_code 140 = .ok (.invokestatic 76, 3) := by decide +kernel
theorem d_WS_begin_143 : decode prog_7_method_3_code 143 = .ok (.ladd, 1) := by decide +kernel
theorem d_WS_begin_144 : decode prog_7_method_3_code 144 = .ok (.lastore, 1) := by decide +kernel
theorem d_WS_begin_145 : decode prog_7_method_3_code 145 = .ok (.iinc 2 1, 3) := by decide +kernel
theorem d_WS_begin_148 : decode prog_7_method_3_code 148 = .ok (.goto (-61), 3) := by decide +kernel
theorem d_WS_begin_151 : decode prog_7_method_3_code 151 = .ok (.iinc 1 (-1), 3) := by decide +kernel
theorem d_WS_begin_154 : decode prog_7_method_3_code 154 = .ok (.goto (-112), 3) := by decide +kernel
theorem d_WS_begin_157 : decode prog_7_method_3_code 157 = .ok (.return_, 1) := by decide +kernel
theorem d_WS_place_0 : decode prog_7_method_4_code 0 = .ok (.iload_n 1, 1) := by decide +kernel
theorem d_WS_place_1 : decode prog_7_method_4_code 1 = .ok (.ifCond .lt 8, 3) := by decide +kernel
theorem d_WS_place_4 : decode prog_7_method_4_code 4 = .ok (.iload_n 1, 1) := by decide +kernel
theorem d_WS_place_5 : decode prog_7_method_4_code 5 = .ok (.iconst 4, 1) := by decide +kernel
theorem d_WS_place_6 : decode prog_7_method_4_code 6 = .ok (.if_icmp .lt 4, 3) := by decide +kernel
theorem d_WS_place_9 : decode prog_7_method_4_code 9 = .ok (.return_, 1) := by decide +kernel
theorem d_WS_place_10 : decode prog_7_method_4_code 10 = .ok (.aload_n 0, 1) := by decide +kernel
theorem d_WS_place_11 : decode prog_7_method_4_code 11 = .ok (.iload_n 1, 1) := by decide +kernel
theorem d_WS_place_12 : decode prog_7_method_4_code 12 = .ok (.invokevirtual 79, 3) := by decide +kernel
theorem d_WS_place_15 : decode prog_7_method_4_code 15 = .ok (.istore 4, 2) := by decide +kernel
theorem d_WS_place_17 : decode prog_7_method_4_code 17 = .ok (.aload_n 0, 1) := by decide +kernel
theorem d_WS_place_18 : decode prog_7_method_4_code 18 = .ok (.iload_n 1, 1) := by decide +kernel
theorem d_WS_place_19 : decode prog_7_method_4_code 19 = .ok (.invokevirtual 83, 3) := by decide +kernel
theorem d_WS_place_22 : decode prog_7_method_4_code 22 = .ok (.istore 5, 2) := by decide +kernel
theorem d_WS_place_24 : decode prog_7_method_4_code 24 = .ok (.iload_n 1, 1) := by decide +kernel
theorem d_WS_place_25 : decode prog_7_method_4_code 25 = .ok (.iconst 3, 1) := by decide +kernel
theorem d_WS_place_26 : decode prog_7_method_4_code 26 = .ok (.if_icmp .ge 45, 3) := by decide +kernel
theorem d_WS_place_29 : decode prog_7_method_4_code 29 = .ok (.iload 5, 2) := by decide +kernel
theorem d_WS_place_31 : decode prog_7_method_4_code 31 = .ok (.istore 6, 2) := by decide +kernel
theorem d_WS_place_33 : decode prog_7_method_4_code 33 = .ok (.iload 6, 2) := by decide +kernel
theorem d_WS_place_35 : decode prog_7_method_4_code 35 = .ok (.iload 4, 2) := by decide +kernel
theorem d_WS_place_37 : decode prog_7_method_4_code 37 = .ok (.if_icmp .gt 31, 3) := by decide +kernel
theorem d_WS_place_40 : decode prog_7_method_4_code 40 = .ok (.aload_n 0, 1) := by decide +kernel
theorem d_WS_place_41 : decode prog_7_method_4_code 41 = .ok (.iload_n 1, 1) := by decide +kernel
theorem d_WS_place_42 : decode prog_7_method_4_code 42 = .ok (.iload 6, 2) := by decide +kernel
theorem d_WS_place_44 : decode prog_7_method_4_code 44 = .ok (.lload_n 2, 1) := by decide +kernel
theorem d_WS_place_45 : decode prog_7_method_4_code 45 = .ok (.aload_n 0, 1) := by decide +kernel
theorem d_WS_place_46 : decode prog_7_method_4_code 46 = .ok (.getfield 9, 3) := by decide +kernel
theorem d_WS_place_49 : decode prog_7_method_4_code 49 = .ok (.getfield 62, 3) := by decide +kernel
theorem d_WS_place_52 : decode prog_7_method_4_code 52 = .ok (.iload_n 1, 1) := by decide +kernel
theorem d_WS_place_53 : decode prog_7_method_4_code 53 = .ok (.laload, 1) := by decide +kernel
theorem d_WS_place_54 : decode prog_7_method_4_code 54 = .ok (.iload 6, 2) := by decide +kernel
theorem d_WS_place_56 : decode prog_7_method_4_code 56 = .ok (.i2l, 1) := by decide +kernel
theorem d_WS_place_57 : decode prog_7_method_4_code 57 = .ok (.lmul, 1) := by decide +kernel
theorem d_WS_place_58 : decode prog_7_method_4_code 58 = .ok (.ladd, 1) := by decide +kernel
theorem d_WS_place_59 : decode prog_7_method_4_code 59 = .ok (.invokevirtual 86, 3) := by decide +kernel
theorem d_WS_place_62 : decode prog_7_method_4_code 62 = .ok (.iinc 6 1, 3) := by decide +kernel
theorem d_WS_place_65 : decode prog_7_method_4_code 65 = .ok (.goto (-32), 3) := by decide +kernel
theorem d_WS_place_68 : decode prog_7_method_4_code 68 = .ok (.goto 60, 3) := by decide +kernel
theorem d_WS_place_71 : decode prog_7_method_4_code 71 = .ok (.iload 5, 2) := by decide +kernel
theorem d_WS_place_73 : decode prog_7_method_4_code 73 = .ok (.iload 4, 2) := by decide +kernel
theorem d_WS_place_75 : decode prog_7_method_4_code 75 = .ok (.if_icmp .gt 53, 3) := by decide +kernel
theorem d_WS_place_78 : decode prog_7_method_4_code 78 = .ok (.aload_n 0, 1) := by decide +kernel
theorem d_WS_place_79 : decode prog_7_method_4_code 79 = .ok (.getfield 9, 3) := by decide +kernel
theorem d_WS_place_82 : decode prog_7_method_4_code 82 = .ok (.getfield 62, 3) := by decide +kernel
theorem d_WS_place_85 : decode prog_7_method_4_code 85 = .ok (.iload_n 1, 1) := by decide +kernel
theorem d_WS_place_86 : decode prog_7_method_4_code 86 = .ok (.laload, 1) := by decide +kernel
theorem d_WS_place_87 : decode prog_7_method_4_code 87 = .ok (.lconst 0, 1) := by decide +kernel
theorem d_WS_place_88 : decode prog_7_method_4_code 88 = .ok (.lcmp, 1) := by decide +kernel
theorem d_WS_place_89 : decode prog_7_method_4_code 89 = .ok (.ifCond .ge 8, 3) := by decide +kernel
theorem d_WS_place_92 : decode prog_7_method_4_code 92 = .ok (.iload 4, 2) := by decide +kernel
theorem d_WS_place_94 : decode prog_7_method_4_code 94 = .ok (.goto 5, 3) := by decide +kernel
theorem d_WS_place_97 : decode prog_7_method_4_code 97 = .ok (.iload 5, 2) := by decide +kernel
theorem d_WS_place_99 : decode prog_7_method_4_code 99 = .ok (.istore 6, 2) := by decide +kernel
theorem d_WS_place_101 : decode prog_7_method_4_code 101 = .ok (.aload_n 0, 1) := by decide +kernel
theorem d_WS_place_102 : decode prog_7_method_4_code 102 = .ok (.getfield 31, 3) := by decide +kernel
theorem d_WS_place_105 : decode prog_7_method_4_code 105 = .ok (.iload_n 1, 1) := by decide +kernel
theorem d_WS_place_106 : decode prog_7_method_4_code 106 = .ok (.iload 6, 2) := by decide +kernel
theorem d_WS_place_108 : decode prog_7_method_4_code 108 = .ok (.iastore, 1) := by decide +kernel
theorem d_WS_place_109 : decode prog_7_method_4_code 109 = .ok (.aload_n 0, 1) := by decide +kernel
theorem d_WS_place_110 : decode prog_7_method_4_code 110 = .ok (.lload_n 2, 1) := by decide +kernel
theorem d_WS_place_111 : decode prog_7_method_4_code 111 = .ok (.aload_n 0, 1) := by decide +kernel
theorem d_WS_place_112 : decode prog_7_method_4_code 112 = .ok (.getfield 9, 3) := by decide +kernel
theorem d_WS_place_115 : decode prog_7_method_4_code 115 = .ok (.getfield 62, 3) := by decide +kernel
theorem d_WS_place_118 : decode prog_7_method_4_code 118 = .ok (.iload_n 1, 1) := by decide +kernel
theorem d_WS_place_119 : decode prog_7_method_4_code 119 = .ok (.laload, 1) := by decide +kernel
theorem d_WS_place_120 : decode prog_7_method_4_code 120 = .ok (.iload 6, 2) := by decide +kernel
theorem d_WS_place_122 : decode prog_7_method_4_code 122 = .ok (.i2l, 1) := by decide +kernel
theorem d_WS_place_123 : decode prog_7_method_4_code 123 = .ok (.lmul, 1) := by decide +kernel
theorem d_WS_place_124 : decode prog_7_method_4_code 124 = .ok (.ladd, 1) := by decide +kernel
theorem d_WS_place_125 : decode prog_7_method_4_code 125 = .ok (.invokevirtual 90, 3) := by decide +kernel
theorem d_WS_place_128 : decode prog_7_method_4_code 128 = .ok (.return_, 1) := by decide +kernel
theorem d_WS_take_0 : decode prog_7_method_5_code 0 = .ok (.aload_n 0, 1) := by decide +kernel
theorem d_WS_take_1 : decode prog_7_method_5_code 1 = .ok (.getfield 38, 3) := by decide +kernel
theorem d_WS_take_4 : decode prog_7_method_5_code 4 = .ok (.ifCond .eq 22, 3) := by decide +kernel
theorem d_WS_take_7 : decode prog_7_method_5_code 7 = .ok (.lload_n 3, 1) := by decide +kernel
theorem d_WS_take_8 : decode prog_7_method_5_code 8 = .ok (.aload_n 0, 1) := by decide +kernel
theorem d_WS_take_9 : decode prog_7_method_5_code 9 = .ok (.getfield 27, 3) := by decide +kernel
theorem d_WS_take_12 : decode prog_7_method_5_code 12 = .ok (.iload_n 1, 1) := by decide +kernel
theorem d_WS_take_13 : decode prog_7_method_5_code 13 = .ok (.iconst 1, 1) := by decide +kernel
theorem d_WS_take_14 : decode prog_7_method_5_code 14 = .ok (.iadd, 1) := by decide +kernel
theorem d_WS_take_15 : decode prog_7_method_5_code 15 = .ok (.laload, 1) := by decide +kernel
theorem d_WS_take_16 : decode prog_7_method_5_code 16 = .ok (.ladd, 1) := by decide +kernel
theorem d_WS_take_17 : decode prog_7_method_5_code 17 = .ok (.aload_n 0, 1) := by decide +kernel
theorem d_WS_take_18 : decode prog_7_method_5_code 18 = .ok (.getfield 42, 3) := by decide +kernel
theorem d_WS_take_21 : decode prog_7_method_5_code 21 = .ok (.lcmp, 1) := by decide +kernel
theorem d_WS_take_22 : decode prog_7_method_5_code 22 = .ok (.ifCond .lt 4, 3) := by decide +kernel
theorem d_WS_take_25 : decode prog_7_method_5_code 25 = .ok (.return_, 1) := by decide +kernel
theorem d_WS_take_26 : decode prog_7_method_5_code 26 = .ok (.aload_n 0, 1) := by decide +kernel
theorem d_WS_take_27 : decode prog_7_method_5_code 27 = .ok (.getfield 31, 3) := by decide +kernel
theorem d_WS_take_30 : decode prog_7_method_5_code 30 = .ok (.iload_n 1, 1) := by decide +kernel
theorem d_WS_take_31 : decode prog_7_method_5_code 31 = .ok (.iload_n 2, 1) := by decide +kernel
theorem d_WS_take_32 : decode prog_7_method_5_code 32 = .ok (.iastore, 1) := by decide +kernel
theorem d_WS_take_33 : decode prog_7_method_5_code 33 = .ok (.iconst 0, 1) := by decide +kernel
theorem d_WS_take_34 : decode prog_7_method_5_code 34 = .ok (.istore 5, 2) := by decide +kernel
theorem d_WS_take_36 : decode prog_7_method_5_code 36 = .ok (.iload 5, 2) := by decide +kernel
theorem d_WS_take_38 : decode prog_7_method_5_code 38 = .ok (.iconst 2, 1) := by decide +kernel
theorem d_WS_take_39 : decode prog_7_method_5_code 39 = .ok (.aload_n 0, 1) := by decide +kernel
theorem d_WS_take_40 : decode prog_7_method_5_code 40 = .ok (.getfield 15, 3) := by decide +kernel
theorem d_WS_take_43 : decode prog_7_method_5_code 43 = .ok (.getfield 53, 3) := by decide +kernel
theorem d_WS_take_46 : decode prog_7_method_5_code 46 = .ok (.imul, 1) := by decide +kernel
theorem d_WS_take_47 : decode prog_7_method_5_code 47 = .ok (.if_icmp .ge 45, 3) := by decide +kernel
theorem d_WS_take_50 : decode prog_7_method_5_code 50 = .ok (.aload_n 0, 1) := by decide +kernel
theorem d_WS_take_51 : decode prog_7_method_5_code 51 = .ok (.getfield 21, 3) := by decide +kernel
theorem d_WS_take_54 : decode prog_7_method_5_code 54 = .ok (.iload_n 1, 1) := by decide +kernel
theorem d_WS_take_55 : decode prog_7_method_5_code 55 = .ok (.iconst 1, 1) := by decide +kernel
theorem d_WS_take_56 : decode prog_7_method_5_code 56 = .ok (.iadd, 1) := by decide +kernel
theorem d_WS_take_57 : decode prog_7_method_5_code 57 = .ok (.aaload, 1) := by decide +kernel
theorem d_WS_take_58 : decode prog_7_method_5_code 58 = .ok (.iload 5, 2) := by decide +kernel
theorem d_WS_take_60 : decode prog_7_method_5_code 60 = .ok (.aload_n 0, 1) := by decide +kernel
theorem d_WS_take_61 : decode prog_7_method_5_code 61 = .ok (.getfield 21, 3) := by decide +kernel
theorem d_WS_take_64 : decode prog_7_method_5_code 64 = .ok (.iload_n 1, 1) := by decide +kernel
theorem d_WS_take_65 : decode prog_7_method_5_code 65 = .ok (.aaload, 1) := by decide +kernel
theorem d_WS_take_66 : decode prog_7_method_5_code 66 = .ok (.iload 5, 2) := by decide +kernel
theorem d_WS_take_68 : decode prog_7_method_5_code 68 = .ok (.laload, 1) := by decide +kernel
theorem d_WS_take_69 : decode prog_7_method_5_code 69 = .ok (.aload_n 0, 1) := by decide +kernel
theorem d_WS_take_70 : decode prog_7_method_5_code 70 = .ok (.getfield 15, 3) := by decide +kernel
theorem d_WS_take_73 : decode prog_7_method_5_code 73 = .ok (.getfield 59, 3) := by decide +kernel
theorem d_WS_take_76 : decode prog_7_method_5_code 76 = .ok (.iload 5, 2) := by decide +kernel
theorem d_WS_take_78 : decode prog_7_method_5_code 78 = .ok (.aaload, 1) := by decide +kernel
theorem d_WS_take_79 : decode prog_7_method_5_code 79 = .ok (.iload_n 1, 1) := by decide +kernel
theorem d_WS_take_80 : decode prog_7_method_5_code 80 = .ok (.laload, 1) := by decide +kernel
theorem d_WS_take_81 : decode prog_7_method_5_code 81 = .ok (.iload_n 2, 1) := by decide +kernel
theorem d_WS_take_82 : decode prog_7_method_5_code 82 = .ok (.i2l, 1) := by decide +kernel
theorem d_WS_take_83 : decode prog_7_method_5_code 83 = .ok (.lmul, 1) := by decide +kernel
theorem d_WS_take_84 : decode prog_7_method_5_code 84 = .ok (.ladd, 1) := by decide +kernel
theorem d_WS_take_85 : decode prog_7_method_5_code 85 = .ok (.lastore, 1) := by decide +kernel
theorem d_WS_take_86 : decode prog_7_method_5_code 86 = .ok (.iinc 5 1, 3) := by decide +kernel
theorem d_WS_take_89 : decode prog_7_method_5_code 89 = .ok (.goto (-53), 3) := by decide +kernel
theorem d_WS_take_92 : decode prog_7_method_5_code 92 = .ok (.aload_n 0, 1) := by decide +kernel
theorem d_WS_take_93 : decode prog_7_method_5_code 93 = .ok (.iload_n 1, 1) := by decide +kernel
theorem d_WS_take_94 : decode prog_7_method_5_code 94 = .ok (.iconst 1, 1) := by decide +kernel
theorem d_WS_take_95 : decode prog_7_method_5_code 95 = .ok (.iadd, 1) := by decide +kernel
theorem d_WS_take_96 : decode prog_7_method_5_code 96 = .ok (.lload_n 3, 1) := by decide +kernel
theorem d_WS_take_97 : decode prog_7_method_5_code 97 = .ok (.invokevirtual 49, 3) := by decide +kernel
theorem d_WS_take_100 : decode prog_7_method_5_code 100 = .ok (.return_, 1) := by decide +kernel
theorem d_WS_offer_0 : decode prog_7_method_6_code 0 = .ok (.aload_n 0, 1) := by decide +kernel
theorem d_WS_offer_1 : decode prog_7_method_6_code 1 = .ok (.getfield 38, 3) := by decide +kernel
theorem d_WS_offer_4 : decode prog_7_method_6_code 4 = .ok (.ifCond .eq 13, 3) := by decide +kernel
theorem d_WS_offer_7 : decode prog_7_method_6_code 7 = .ok (.lload_n 1, 1) := by decide +kernel
theorem d_WS_offer_8 : decode prog_7_method_6_code 8 = .ok (.aload_n 0, 1) := by decide +kernel
theorem d_WS_offer_9 : decode prog_7_method_6_code 9 = .ok (.getfield 42, 3) := by decide +kernel
theorem d_WS_offer_12 : decode prog_7_method_6_code 12 = .ok (.lcmp, 1) := by decide +kernel
theorem d_WS_offer_13 : decode prog_7_method_6_code 13 = .ok (.ifCond .lt 4, 3) := by decide +kernel
theorem d_WS_offer_16 : decode prog_7_method_6_code 16 = .ok (.return_, 1) := by decide +kernel
theorem d_WS_offer_17 : decode prog_7_method_6_code 17 = .ok (.aload_n 0, 1) := by decide +kernel
theorem d_WS_offer_18 : decode prog_7_method_6_code 18 = .ok (.iconst 1, 1) := by decide +kernel
theorem d_WS_offer_19 : decode prog_7_method_6_code 19 = .ok (.putfield 38, 3) := by decide +kernel
theorem d_WS_offer_22 : decode prog_7_method_6_code 22 = .ok (.aload_n 0, 1) := by decide +kernel
theorem d_WS_offer_23 : decode prog_7_method_6_code 23 = .ok (.lload_n 1, 1) := by decide +kernel
theorem d_WS_offer_24 : decode prog_7_method_6_code 24 = .ok (.putfield 42, 3) := by decide +kernel
theorem d_WS_offer_27 : decode prog_7_method_6_code 27 = .ok (.iconst 0, 1) := by decide +kernel
theorem d_WS_offer_28 : decode prog_7_method_6_code 28 = .ok (.istore_n 3, 1) := by decide +kernel
theorem d_WS_offer_29 : decode prog_7_method_6_code 29 = .ok (.iload_n 3, 1) := by decide +kernel
theorem d_WS_offer_30 : decode prog_7_method_6_code 30 = .ok (.iconst 4, 1) := by decide +kernel
theorem d_WS_offer_31 : decode prog_7_method_6_code 31 = .ok (.if_icmp .ge 21, 3) := by decide +kernel
theorem d_WS_offer_34 : decode prog_7_method_6_code 34 = .ok (.aload_n 0, 1) := by decide +kernel
theorem d_WS_offer_35 : decode prog_7_method_6_code 35 = .ok (.getfield 35, 3) := by decide +kernel
theorem d_WS_offer_38 : decode prog_7_method_6_code 38 = .ok (.iload_n 3, 1) := by decide +kernel
theorem d_WS_offer_39 : decode prog_7_method_6_code 39 = .ok (.aload_n 0, 1) := by decide +kernel
theorem d_WS_offer_40 : decode prog_7_method_6_code 40 = .ok (.getfield 31, 3) := by decide +kernel
theorem d_WS_offer_43 : decode prog_7_method_6_code 43 = .ok (.iload_n 3, 1) := by decide +kernel
theorem d_WS_offer_44 : decode prog_7_method_6_code 44 = .ok (.iaload, 1) := by decide +kernel
theorem d_WS_offer_45 : decode prog_7_method_6_code 45 = .ok (.iastore, 1) := by decide +kernel
theorem d_WS_offer_46 : decode prog_7_method_6_code 46 = .ok (.iinc 3 1, 3) := by decide +kernel
theorem d_WS_offer_49 : decode prog_7_method_6_code 49 = .ok (.goto (-20), 3) := by decide +kernel
theorem d_WS_offer_52 : decode prog_7_method_6_code 52 = .ok (.return_, 1) := by decide +kernel
theorem d_WS_mostLoads_0 : decode prog_7_method_7_code 0 = .ok (.aload_n 0, 1) := by decide +kernel
theorem d_WS_mostLoads_1 : decode prog_7_method_7_code 1 = .ok (.getfield 9, 3) := by decide +kernel
theorem d_WS_mostLoads_4 : decode prog_7_method_7_code 4 = .ok (.getfield 67, 3) := by decide +kernel
theorem d_WS_mostLoads_7 : decode prog_7_method_7_code 7 = .ok (.iload_n 1, 1) := by decide +kernel
theorem d_WS_mostLoads_8 : decode prog_7_method_7_code 8 = .ok (.iaload, 1) := by decide +kernel
theorem d_WS_mostLoads_9 : decode prog_7_method_7_code 9 = .ok (.i2l, 1) := by decide +kernel
theorem d_WS_mostLoads_10 : decode prog_7_method_7_code 10 = .ok (.lstore_n 2, 1) := by decide +kernel
theorem d_WS_mostLoads_11 : decode prog_7_method_7_code 11 = .ok (.iconst 0, 1) := by decide +kernel
theorem d_WS_mostLoads_12 : decode prog_7_method_7_code 12 = .ok (.istore 4, 2) := by decide +kernel
theorem d_WS_mostLoads_14 : decode prog_7_method_7_code 14 = .ok (.iload 4, 2) := by decide +kernel
theorem d_WS_mostLoads_16 : decode prog_7_method_7_code 16 = .ok (.iconst 2, 1) := by decide +kernel
theorem d_WS_mostLoads_17 : decode prog_7_method_7_code 17 = .ok (.aload_n 0, 1) := by decide +kernel
theorem d_WS_mostLoads_18 : decode prog_7_method_7_code 18 = .ok (.getfield 15, 3) := by decide +kernel
theorem d_WS_mostLoads_21 : decode prog_7_method_7_code 21 = .ok (.getfield 53, 3) := by decide +kernel
theorem d_WS_mostLoads_24 : decode prog_7_method_7_code 24 = .ok (.imul, 1) := by decide +kernel
theorem d_WS_mostLoads_25 : decode prog_7_method_7_code 25 = .ok (.if_icmp .ge 85, 3) := by decide +kernel
theorem d_WS_mostLoads_28 : decode prog_7_method_7_code 28 = .ok (.aload_n 0, 1) := by decide +kernel
theorem d_WS_mostLoads_29 : decode prog_7_method_7_code 29 = .ok (.getfield 15, 3) := by decide +kernel
theorem d_WS_mostLoads_32 : decode prog_7_method_7_code 32 = .ok (.getfield 59, 3) := by decide +kernel
theorem d_WS_mostLoads_35 : decode prog_7_method_7_code 35 = .ok (.iload 4, 2) := by decide +kernel
theorem d_WS_mostLoads_37 : decode prog_7_method_7_code 37 = .ok (.aaload, 1) := by decide +kernel
theorem d_WS_mostLoads_38 : decode prog_7_method_7_code 38 = .ok (.iload_n 1, 1) := by decide +kernel
theorem d_WS_mostLoads_39 : decode prog_7_method_7_code 39 = .ok (.laload, 1) := by decide +kernel
theorem d_WS_mostLoads_40 : decode prog_7_method_7_code 40 = .ok (.lstore 5, 2) := by decide +kernel
theorem d_WS_mostLoads_42 : decode prog_7_method_7_code 42 = .ok (.aload_n 0, 1) := by decide +kernel
theorem d_WS_mostLoads_43 : decode prog_7_method_7_code 43 = .ok (.getfield 21, 3) := by decide +kernel
theorem d_WS_mostLoads_46 : decode prog_7_method_7_code 46 = .ok (.iload_n 1, 1) := by decide +kernel
theorem d_WS_mostLoads_47 : decode prog_7_method_7_code 47 = .ok (.aaload, 1) := by decide +kernel
theorem d_WS_mostLoads_48 : decode prog_7_method_7_code 48 = .ok (.iload 4, 2) := by decide +kernel
theorem d_WS_mostLoads_50 : decode prog_7_method_7_code 50 = .ok (.laload, 1) := by decide +kernel
theorem d_WS_mostLoads_51 : decode prog_7_method_7_code 51 = .ok (.aload_n 0, 1) := by decide +kernel
theorem d_WS_mostLoads_52 : decode prog_7_method_7_code 52 = .ok (.getfield 24, 3) := by decide +kernel
theorem d_WS_mostLoads_55 : decode prog_7_method_7_code 55 = .ok (.iload_n 1, 1) := by decide +kernel
theorem d_WS_mostLoads_56 : decode prog_7_method_7_code 56 = .ok (.iconst 1, 1) := by decide +kernel
theorem d_WS_mostLoads_57 : decode prog_7_method_7_code 57 = .ok (.iadd, 1) := by decide +kernel
theorem d_WS_mostLoads_58 : decode prog_7_method_7_code 58 = .ok (.aaload, 1) := by decide +kernel
theorem d_WS_mostLoads_59 : decode prog_7_method_7_code 59 = .ok (.iload 4, 2) := by decide +kernel
theorem d_WS_mostLoads_61 : decode prog_7_method_7_code 61 = .ok (.laload, 1) := by decide +kernel
theorem d_WS_mostLoads_62 : decode prog_7_method_7_code 62 = .ok (.ladd, 1) := by decide +kernel
theorem d_WS_mostLoads_63 : decode prog_7_method_7_code 63 = .ok (.lstore 7, 2) := by decide +kernel
theorem d_WS_mostLoads_65 : decode prog_7_method_7_code 65 = .ok (.lload 5, 2) := by decide +kernel
theorem d_WS_mostLoads_67 : decode prog_7_method_7_code 67 = .ok (.lconst 0, 1) := by decide +kernel
theorem d_WS_mostLoads_68 : decode prog_7_method_7_code 68 = .ok (.lcmp, 1) := by decide +kernel
theorem d_WS_mostLoads_69 : decode prog_7_method_7_code 69 = .ok (.ifCond .ge 19, 3) := by decide +kernel
theorem d_WS_mostLoads_72 : decode prog_7_method_7_code 72 = .ok (.lload_n 2, 1) := by decide +kernel
theorem d_WS_mostLoads_73 : decode prog_7_method_7_code 73 = .ok (.lload 7, 2) := by decide +kernel
theorem d_WS_mostLoads_75 : decode prog_7_method_7_code 75 = .ok (.lload 5, 2) := by decide +kernel
theorem d_WS_mostLoads_77 : decode prog_7_method_7_code 77 = .ok (.lneg, 1) := by decide +kernel
theorem d_WS_mostLoads_78 : decode prog_7_method_7_code 78 = .ok (.invokestatic 94, 3) := by decide +kernel
theorem d_WS_mostLoads_81 : decode prog_7_method_7_code 81 = .ok (.invokestatic 70, 3) := by decide +kernel
theorem d_WS_mostLoads_84 : decode prog_7_method_7_code 84 = .ok (.lstore_n 2, 1) := by decide +kernel
theorem d_WS_mostLoads_85 : decode prog_7_method_7_code 85 = .ok (.goto 19, 3) := by decide +kernel
theorem d_WS_mostLoads_88 : decode prog_7_method_7_code 88 = .ok (.lload 5, 2) := by decide +kernel
theorem d_WS_mostLoads_90 : decode prog_7_method_7_code 90 = .ok (.lconst 0, 1) := by decide +kernel
theorem d_WS_mostLoads_91 : decode prog_7_method_7_code 91 = .ok (.lcmp, 1) := by decide +kernel
theorem d_WS_mostLoads_92 : decode prog_7_method_7_code 92 = .ok (.ifCond .ne 12, 3) := by decide +kernel
theorem d_WS_mostLoads_95 : decode prog_7_method_7_code 95 = .ok (.lload 7, 2) := by decide +kernel
theorem d_WS_mostLoads_97 : decode prog_7_method_7_code 97 = .ok (.lconst 0, 1) := by decide +kernel
theorem d_WS_mostLoads_98 : decode prog_7_method_7_code 98 = .ok (.lcmp, 1) := by decide +kernel
theorem d_WS_mostLoads_99 : decode prog_7_method_7_code 99 = .ok (.ifCond .ge 5, 3) := by decide +kernel
theorem d_WS_mostLoads_102 : decode prog_7_method_7_code 102 = .ok (.iconst (-1), 1) := by decide +kernel
theorem d_WS_mostLoads_103 : decode prog_7_method_7_code 103 = .ok (.ireturn, 1) := by decide +kernel
theorem d_WS_mostLoads_104 : decode prog_7_method_7_code 104 = .ok (.iinc 4 1, 3) := by decide +kernel
theorem d_WS_mostLoads_107 : decode prog_7_method_7_code 107 = .ok (.goto (-93), 3) := by decide +kernel
theorem d_WS_mostLoads_110 : decode prog_7_method_7_code 110 = .ok (.lload_n 2, 1) := by decide +kernel
theorem d_WS_mostLoads_111 : decode prog_7_method_7_code 111 = .ok (.ldc2_w 97, 3) := by decide +kernel
theorem d_WS_mostLoads_114 : decode prog_7_method_7_code 114 = .ok (.invokestatic 76, 3) := by decide +kernel
theorem d_WS_mostLoads_117 : decode prog_7_method_7_code 117 = .ok (.l2i, 1) := by decide +kernel
theorem d_WS_mostLoads_118 : decode prog_7_method_7_code 118 = .ok (.ireturn, 1) := by decide +kernel
theorem d_WS_fewestLoads_0 : decode prog_7_method_8_code 0 = .ok (.lconst 0, 1) := by decide +kernel
theorem d_WS_fewestLoads_1 : decode prog_7_method_8_code 1 = .ok (.lstore_n 2, 1) := by decide +kernel
theorem d_WS_fewestLoads_2 : decode prog_7_method_8_code 2 = .ok (.iconst 0, 1) := by decide +kernel
theorem d_WS_fewestLoads_3 : decode prog_7_method_8_code 3 = .ok (.istore 4, 2) := by decide +kernel
theorem d_WS_fewestLoads_5 : decode prog_7_method_8_code 5 = .ok (.iload 4, 2) := by decide +kernel
theorem d_WS_fewestLoads_7 : decode prog_7_method_8_code 7 = .ok (.iconst 2, 1) := by decide +kernel
theorem d_WS_fewestLoads_8 : decode prog_7_method_8_code 8 = .ok (.aload_n 0, 1) := by decide +kernel
theorem d_WS_fewestLoads_9 : decode prog_7_method_8_code 9 = .ok (.getfield 15, 3) := by decide +kernel
theorem d_WS_fewestLoads_12 : decode prog_7_method_8_code 12 = .ok (.getfield 53, 3) := by decide +kernel
theorem d_WS_fewestLoads_15 : decode prog_7_method_8_code 15 = .ok (.imul, 1) := by decide +kernel
theorem d_WS_fewestLoads_16 : decode prog_7_method_8_code 16 = .ok (.if_icmp .ge 66, 3) := by decide +kernel
theorem d_WS_fewestLoads_19 : decode prog_7_method_8_code 19 = .ok (.aload_n 0, 1) := by decide +kernel
theorem d_WS_fewestLoads_20 : decode prog_7_method_8_code 20 = .ok (.getfield 15, 3) := by decide +kernel
theorem d_WS_fewestLoads_23 : decode prog_7_method_8_code 23 = .ok (.getfield 59, 3) := by decide +kernel
theorem d_WS_fewestLoads_26 : decode prog_7_method_8_code 26 = .ok (.iload 4, 2) := by decide +kernel
theorem d_WS_fewestLoads_28 : decode prog_7_method_8_code 28 = .ok (.aaload, 1) := by decide +kernel
theorem d_WS_fewestLoads_29 : decode prog_7_method_8_code 29 = .ok (.iload_n 1, 1) := by decide +kernel
theorem d_WS_fewestLoads_30 : decode prog_7_method_8_code 30 = .ok (.laload, 1) := by decide +kernel
theorem d_WS_fewestLoads_31 : decode prog_7_method_8_code 31 = .ok (.lstore 5, 2) := by decide +kernel
theorem d_WS_fewestLoads_33 : decode prog_7_method_8_code 33 = .ok (.lload 5, 2) := by decide +kernel
theorem d_WS_fewestLoads_35 : decode prog_7_method_8_code 35 = .ok (.lconst 0, 1) := by decide +kernel
theorem d_WS_fewestLoads_36 : decode prog_7_method_8_code 36 = .ok (.lcmp, 1) := by decide +kernel
theorem d_WS_fewestLoads_37 : decode prog_7_method_8_code 37 = .ok (.ifCond .le 39, 3) := by decide +kernel
theorem d_WS_fewestLoads_40 : decode prog_7_method_8_code 40 = .ok (.aload_n 0, 1) := by decide +kernel
theorem d_WS_fewestLoads_41 : decode prog_7_method_8_code 41 = .ok (.getfield 21, 3) := by decide +kernel
theorem d_WS_fewestLoads_44 : decode prog_7_method_8_code 44 = .ok (.iload_n 1, 1) := by decide +kernel
theorem d_WS_fewestLoads_45 : decode prog_7_method_8_code 45 = .ok (.aaload, 1) := by decide +kernel
theorem d_WS_fewestLoads_46 : decode prog_7_method_8_code 46 = .ok (.iload 4, 2) := by decide +kernel
theorem d_WS_fewestLoads_48 : decode prog_7_method_8_code 48 = .ok (.laload, 1) := by decide +kernel
theorem d_WS_fewestLoads_49 : decode prog_7_method_8_code 49 = .ok (.aload_n 0, 1) := by decide +kernel
theorem d_WS_fewestLoads_50 : decode prog_7_method_8_code 50 = .ok (.getfield 24, 3) := by decide +kernel
theorem d_WS_fewestLoads_53 : decode prog_7_method_8_code 53 = .ok (.iload_n 1, 1) := by decide +kernel
theorem d_WS_fewestLoads_54 : decode prog_7_method_8_code 54 = .ok (.iconst 1, 1) := by decide +kernel
theorem d_WS_fewestLoads_55 : decode prog_7_method_8_code 55 = .ok (.iadd, 1) := by decide +kernel
theorem d_WS_fewestLoads_56 : decode prog_7_method_8_code 56 = .ok (.aaload, 1) := by decide +kernel
theorem d_WS_fewestLoads_57 : decode prog_7_method_8_code 57 = .ok (.iload 4, 2) := by decide +kernel
theorem d_WS_fewestLoads_59 : decode prog_7_method_8_code 59 = .ok (.laload, 1) := by decide +kernel
theorem d_WS_fewestLoads_60 : decode prog_7_method_8_code 60 = .ok (.ladd, 1) := by decide +kernel
theorem d_WS_fewestLoads_61 : decode prog_7_method_8_code 61 = .ok (.lstore 7, 2) := by decide +kernel
theorem d_WS_fewestLoads_63 : decode prog_7_method_8_code 63 = .ok (.lload_n 2, 1) := by decide +kernel
theorem d_WS_fewestLoads_64 : decode prog_7_method_8_code 64 = .ok (.lload 7, 2) := by decide +kernel
theorem d_WS_fewestLoads_66 : decode prog_7_method_8_code 66 = .ok (.lload 5, 2) := by decide +kernel
theorem d_WS_fewestLoads_68 : decode prog_7_method_8_code 68 = .ok (.invokestatic 94, 3) := by decide +kernel
theorem d_WS_fewestLoads_71 : decode prog_7_method_8_code 71 = .ok (.lneg, 1) := by decide +kernel
theorem d_WS_fewestLoads_72 : decode prog_7_method_8_code 72 = .ok (.invokestatic 76, 3) := by decide +kernel
theorem d_WS_fewestLoads_75 : decode prog_7_method_8_code 75 = .ok (.lstore_n 2, 1) := by decide +kernel
theorem d_WS_fewestLoads_76 : decode prog_7_method_8_code 76 = .ok (.iinc 4 1, 3) := by decide +kernel
theorem d_WS_fewestLoads_79 : decode prog_7_method_8_code 79 = .ok (.goto (-74), 3) := by decide +kernel
theorem d_WS_fewestLoads_82 : decode prog_7_method_8_code 82 = .ok (.lload_n 2, 1) := by decide +kernel
theorem d_WS_fewestLoads_83 : decode prog_7_method_8_code 83 = .ok (.ldc2_w 99, 3) := by decide +kernel
theorem d_WS_fewestLoads_86 : decode prog_7_method_8_code 86 = .ok (.invokestatic 70, 3) := by decide +kernel
theorem d_WS_fewestLoads_89 : decode prog_7_method_8_code 89 = .ok (.l2i, 1) := by decide +kernel
theorem d_WS_fewestLoads_90 : decode prog_7_method_8_code 90 = .ok (.ireturn, 1) := by decide +kernel
end
section
theorem d_Mo_init_0 : decode prog_9_method_1_code 0 = .ok (.aload_n 0, 1) := by decide +kernel
theorem d_Mo_init_1 : decode prog_9_method_1_code 1 = .ok (.invokespecial 1, 3) := by decide +kernel
theorem d_Mo_init_4 : decode prog_9_method_1_code 4 = .ok (.aload_n 0, 1) := by decide +kernel
theorem d_Mo_init_5 : decode prog_9_method_1_code 5 = .ok (.iconst 4, 1) := by decide +kernel
theorem d_Mo_init_6 : decode prog_9_method_1_code 6 = .ok (.newarray .int, 2) := by decide +kernel
theorem d_Mo_init_8 : decode prog_9_method_1_code 8 = .ok (.putfield 7, 3) := by decide +kernel
theorem d_Mo_init_11 : decode prog_9_method_1_code 11 = .ok (.aload_n 0, 1) := by decide +kernel
theorem d_Mo_init_12 : decode prog_9_method_1_code 12 = .ok (.iconst 4, 1) := by decide +kernel
theorem d_Mo_init_13 : decode prog_9_method_1_code 13 = .ok (.newarray .int, 2) := by decide +kernel
theorem d_Mo_init_15 : decode prog_9_method_1_code 15 = .ok (.putfield 13, 3) := by decide +kernel
theorem d_Mo_init_18 : decode prog_9_method_1_code 18 = .ok (.aload_n 0, 1) := by decide +kernel
theorem d_Mo_init_19 : decode prog_9_method_1_code 19 = .ok (.bipush 20, 2) := by decide +kernel
theorem d_Mo_init_21 : decode prog_9_method_1_code 21 = .ok (.newarray .int, 2) := by decide +kernel
theorem d_Mo_init_23 : decode prog_9_method_1_code 23 = .ok (.putfield 16, 3) := by decide +kernel
theorem d_Mo_init_26 : decode prog_9_method_1_code 26 = .ok (.aload_n 0, 1) := by decide +kernel
theorem d_Mo_init_27 : decode prog_9_method_1_code 27 = .ok (.bipush 8, 2) := by decide +kernel
theorem d_Mo_init_29 : decode prog_9_method_1_code 29 = .ok (.newarray .boolean, 2) := by decide +kernel
theorem d_Mo_init_31 : decode prog_9_method_1_code 31 = .ok (.putfield 19, 3) := by decide +kernel
theorem d_Mo_init_34 : decode prog_9_method_1_code 34 = .ok (.aload_n 0, 1) := by decide +kernel
theorem d_Mo_init_35 : decode prog_9_method_1_code 35 = .ok (.bipush 8, 2) := by decide +kernel
theorem d_Mo_init_37 : decode prog_9_method_1_code 37 = .ok (.newarray .int, 2) := by decide +kernel
theorem d_Mo_init_39 : decode prog_9_method_1_code 39 = .ok (.putfield 23, 3) := by decide +kernel
theorem d_Mo_init_42 : decode prog_9_method_1_code 42 = .ok (.aload_n 0, 1) := by decide +kernel
theorem d_Mo_init_43 : decode prog_9_method_1_code 43 = .ok (.bipush 8, 2) := by decide +kernel
theorem d_Mo_init_45 : decode prog_9_method_1_code 45 = .ok (.newarray .int, 2) := by decide +kernel
theorem d_Mo_init_47 : decode prog_9_method_1_code 47 = .ok (.putfield 26, 3) := by decide +kernel
theorem d_Mo_init_50 : decode prog_9_method_1_code 50 = .ok (.aload_n 0, 1) := by decide +kernel
theorem d_Mo_init_51 : decode prog_9_method_1_code 51 = .ok (.bipush 8, 2) := by decide +kernel
theorem d_Mo_init_53 : decode prog_9_method_1_code 53 = .ok (.newarray .int, 2) := by decide +kernel
theorem d_Mo_init_55 : decode prog_9_method_1_code 55 = .ok (.putfield 29, 3) := by decide +kernel
theorem d_Mo_init_58 : decode prog_9_method_1_code 58 = .ok (.aload_n 0, 1) := by decide +kernel
theorem d_Mo_init_59 : decode prog_9_method_1_code 59 = .ok (.bipush 8, 2) := by decide +kernel
theorem d_Mo_init_61 : decode prog_9_method_1_code 61 = .ok (.newarray .int, 2) := by decide +kernel
theorem d_Mo_init_63 : decode prog_9_method_1_code 63 = .ok (.putfield 32, 3) := by decide +kernel
theorem d_Mo_init_66 : decode prog_9_method_1_code 66 = .ok (.aload_n 0, 1) := by decide +kernel
theorem d_Mo_init_67 : decode prog_9_method_1_code 67 = .ok (.bipush 8, 2) := by decide +kernel
theorem d_Mo_init_69 : decode prog_9_method_1_code 69 = .ok (.newarray .int, 2) := by decide +kernel
theorem d_Mo_init_71 : decode prog_9_method_1_code 71 = .ok (.putfield 35, 3) := by decide +kernel
theorem d_Mo_init_74 : decode prog_9_method_1_code 74 = .ok (.aload_n 0, 1) := by decide +kernel
theorem d_Mo_init_75 : decode prog_9_method_1_code 75 = .ok (.iconst 3, 1) := by decide +kernel
theorem d_Mo_init_76 : decode prog_9_method_1_code 76 = .ok (.putfield 38, 3) := by decide +kernel
theorem d_Mo_init_79 : decode prog_9_method_1_code 79 = .ok (.aload_n 0, 1) := by decide +kernel
theorem d_Mo_init_80 : decode prog_9_method_1_code 80 = .ok (.iconst 4, 1) := by decide +kernel
theorem d_Mo_init_81 : decode prog_9_method_1_code 81 = .ok (.newarray .int, 2) := by decide +kernel
theorem d_Mo_init_83 : decode prog_9_method_1_code 83 = .ok (.putfield 42, 3) := by decide +kernel
theorem d_Mo_init_86 : decode prog_9_method_1_code 86 = .ok (.aload_n 0, 1) := by decide +kernel
theorem d_Mo_init_87 : decode prog_9_method_1_code 87 = .ok (.iconst 4, 1) := by decide +kernel
theorem d_Mo_init_88 : decode prog_9_method_1_code 88 = .ok (.newarray .int, 2) := by decide +kernel
theorem d_Mo_init_90 : decode prog_9_method_1_code 90 = .ok (.putfield 45, 3) := by decide +kernel
theorem d_Mo_init_93 : decode prog_9_method_1_code 93 = .ok (.aload_n 0, 1) := by decide +kernel
theorem d_Mo_init_94 : decode prog_9_method_1_code 94 = .ok (.bipush 120, 2) := by decide +kernel
theorem d_Mo_init_96 : decode prog_9_method_1_code 96 = .ok (.newarray .int, 2) := by decide +kernel
theorem d_Mo_init_98 : decode prog_9_method_1_code 98 = .ok (.putfield 48, 3) := by decide +kernel
theorem d_Mo_init_101 : decode prog_9_method_1_code 101 = .ok (.aload_n 0, 1) := by decide +kernel
theorem d_Mo_init_102 : decode prog_9_method_1_code 102 = .ok (.bipush 24, 2) := by decide +kernel
theorem d_Mo_init_104 : decode prog_9_method_1_code 104 = .ok (.newarray .boolean, 2) := by decide +kernel
theorem d_Mo_init_106 : decode prog_9_method_1_code 106 = .ok (.putfield 51, 3) := by decide +kernel
theorem d_Mo_init_109 : decode prog_9_method_1_code 109 = .ok (.aload_n 0, 1) := by decide +kernel
theorem d_Mo_init_110 : decode prog_9_method_1_code 110 = .ok (.iconst 4, 1) := by decide +kernel
theorem d_Mo_init_111 : decode prog_9_method_1_code 111 = .ok (.newarray .int, 2) := by decide +kernel
theorem d_Mo_init_113 : decode prog_9_method_1_code 113 = .ok (.putfield 54, 3) := by decide +kernel
theorem d_Mo_init_116 : decode prog_9_method_1_code 116 = .ok (.aload_n 0, 1) := by decide +kernel
theorem d_Mo_init_117 : decode prog_9_method_1_code 117 = .ok (.iconst 4, 1) := by decide +kernel
theorem d_Mo_init_118 : decode prog_9_method_1_code 118 = .ok (.newarray .long, 2) := by decide +kernel
theorem d_Mo_init_120 : decode prog_9_method_1_code 120 = .ok (.putfield 57, 3) := by decide +kernel
theorem d_Mo_init_123 : decode prog_9_method_1_code 123 = .ok (.aload_n 0, 1) := by decide +kernel
theorem d_Mo_init_124 : decode prog_9_method_1_code 124 = .ok (.sipush 256, 3) := by decide +kernel
theorem d_Mo_init_127 : decode prog_9_method_1_code 127 = .ok (.newarray .boolean, 2) := by decide +kernel
theorem d_Mo_init_129 : decode prog_9_method_1_code 129 = .ok (.putfield 61, 3) := by decide +kernel
theorem d_Mo_init_132 : decode prog_9_method_1_code 132 = .ok (.return_, 1) := by decide +kernel
theorem d_Mo_isIn_0 : decode prog_9_method_3_code 0 = .ok (.lload_n 0, 1) := by decide +kernel
theorem d_Mo_isIn_1 : decode prog_9_method_3_code 1 = .ok (.lload_n 2, 1) := by decide +kernel
theorem d_Mo_isIn_2 : decode prog_9_method_3_code 2 = .ok (.lcmp, 1) := by decide +kernel
theorem d_Mo_isIn_3 : decode prog_9_method_3_code 3 = .ok (.ifCond .lt 14, 3) := by decide +kernel
theorem d_Mo_isIn_6 : decode prog_9_method_3_code 6 = .ok (.lload_n 0, 1) := by decide +kernel
theorem d_Mo_isIn_7 : decode prog_9_method_3_code 7 = .ok (.lload 4, 2) := by decide +kernel
theorem d_Mo_isIn_9 : decode prog_9_method_3_code 9 = .ok (.lcmp, 1) := by decide +kernel
theorem d_Mo_isIn_10 : decode prog_9_method_3_code 10 = .ok (.ifCond .gt 7, 3) := by decide +kernel
theorem d_Mo_isIn_13 : decode prog_9_method_3_code 13 = .ok (.iconst 1, 1) := by decide +kernel
theorem d_Mo_isIn_14 : decode prog_9_method_3_code 14 = .ok (.goto 4, 3) := by decide +kernel
theorem d_Mo_isIn_17 : decode prog_9_method_3_code 17 = .ok (.iconst 0, 1) := by decide +kernel
theorem d_Mo_isIn_18 : decode prog_9_method_3_code 18 = .ok (.ireturn, 1) := by decide +kernel
theorem d_Mo_isWhat_0 : decode prog_9_method_4_code 0 = .ok (.iload_n 0, 1) := by decide +kernel
theorem d_Mo_isWhat_1 : decode prog_9_method_4_code 1 = .ok (.ifCond .lt 12, 3) := by decide +kernel
theorem d_Mo_isWhat_4 : decode prog_9_method_4_code 4 = .ok (.iload_n 0, 1) := by decide +kernel
theorem d_Mo_isWhat_5 : decode prog_9_method_4_code 5 = .ok (.iconst 5, 1) := by decide +kernel
theorem d_Mo_isWhat_6 : decode prog_9_method_4_code 6 = .ok (.if_icmp .ge 7, 3) := by decide +kernel
theorem d_Mo_isWhat_9 : decode prog_9_method_4_code 9 = .ok (.iconst 1, 1) := by decide +kernel
theorem d_Mo_isWhat_10 : decode prog_9_method_4_code 10 = .ok (.goto 4, 3) := by decide +kernel
theorem d_Mo_isWhat_13 : decode prog_9_method_4_code 13 = .ok (.iconst 0, 1) := by decide +kernel
theorem d_Mo_isWhat_14 : decode prog_9_method_4_code 14 = .ok (.ireturn, 1) := by decide +kernel
theorem d_Mo_lot_0 : decode prog_9_method_5_code 0 = .ok (.aload_n 0, 1) := by decide +kernel
theorem d_Mo_lot_1 : decode prog_9_method_5_code 1 = .ok (.getfield 64, 3) := by decide +kernel
theorem d_Mo_lot_4 : decode prog_9_method_5_code 4 = .ok (.iconst 4, 1) := by decide +kernel
theorem d_Mo_lot_5 : decode prog_9_method_5_code 5 = .ok (.if_icmp .eq 28, 3) := by decide +kernel
theorem d_Mo_lot_8 : decode prog_9_method_5_code 8 = .ok (.iload_n 1, 1) := by decide +kernel
theorem d_Mo_lot_9 : decode prog_9_method_5_code 9 = .ok (.i2l, 1) := by decide +kernel
theorem d_Mo_lot_10 : decode prog_9_method_5_code 10 = .ok (.lconst 0, 1) := by decide +kernel
theorem d_Mo_lot_11 : decode prog_9_method_5_code 11 = .ok (.ldc2_w 67, 3) := by decide +kernel
theorem d_Mo_lot_14 : decode prog_9_method_5_code 14 = .ok (.invokestatic 69, 3) := by decide +kernel
theorem d_Mo_lot_17 : decode prog_9_method_5_code 17 = .ok (.ifCond .eq 16, 3) := by decide +kernel
theorem d_Mo_lot_20 : decode prog_9_method_5_code 20 = .ok (.lload_n 2, 1) := by decide +kernel
theorem d_Mo_lot_21 : decode prog_9_method_5_code 21 = .ok (.ldc2_w 73, 3) := by decide +kernel
theorem d_Mo_lot_24 : decode prog_9_method_5_code 24 = .ok (.ldc2_w 75, 3) := by decide +kernel
theorem d_Mo_lot_27 : decode prog_9_method_5_code 27 = .ok (.invokestatic 69, 3) := by decide +kernel
theorem d_Mo_lot_30 : decode prog_9_method_5_code 30 = .ok (.ifCond .ne 5, 3) := by decide +kernel
theorem d_Mo_lot_33 : decode prog_9_method_5_code 33 = .ok (.iconst (-1), 1) := by decide +kernel
theorem d_Mo_lot_34 : decode prog_9_method_5_code 34 = .ok (.ireturn, 1) := by decide +kernel
theorem d_Mo_lot_35 : decode prog_9_method_5_code 35 = .ok (.aload_n 0, 1) := by decide +kernel
theorem d_Mo_lot_36 : decode prog_9_method_5_code 36 = .ok (.getfield 7, 3) := by decide +kernel
theorem d_Mo_lot_39 : decode prog_9_method_5_code 39 = .ok (.aload_n 0, 1) := by decide +kernel
theorem d_Mo_lot_40 : decode prog_9_method_5_code 40 = .ok (.getfield 64, 3) := by decide +kernel
theorem d_Mo_lot_43 : decode prog_9_method_5_code 43 = .ok (.iload_n 1, 1) := by decide +kernel
theorem d_Mo_lot_44 : decode prog_9_method_5_code 44 = .ok (.iastore, 1) := by decide +kernel
theorem d_Mo_lot_45 : decode prog_9_method_5_code 45 = .ok (.aload_n 0, 1) := by decide +kernel
theorem d_Mo_lot_46 : decode prog_9_method_5_code 46 = .ok (.getfield 13, 3) := by decide +kernel
theorem d_Mo_lot_49 : decode prog_9_method_5_code 49 = .ok (.aload_n 0, 1) := by decide +kernel
theorem d_Mo_lot_50 : decode prog_9_method_5_code 50 = .ok (.getfield 64, 3) := by decide +kernel
theorem d_Mo_lot_53 : decode prog_9_method_5_code 53 = .ok (.lload_n 2, 1) := by decide +kernel
theorem d_Mo_lot_54 : decode prog_9_method_5_code 54 = .ok (.l2i, 1) := by decide +kernel
theorem d_Mo_lot_55 : decode prog_9_method_5_code 55 = .ok (.iastore, 1) := by decide +kernel
theorem d_Mo_lot_56 : decode prog_9_method_5_code 56 = .ok (.aload_n 0, 1) := by decide +kernel
theorem d_Mo_lot_57 : decode prog_9_method_5_code 57 = .ok (.dup, 1) := by decide +kernel
theorem d_Mo_lot_58 : decode prog_9_method_5_code 58 = .ok (.getfield 64, 3) := by decide +kernel
theorem d_Mo_lot_61 : decode prog_9_method_5_code 61 = .ok (.iconst 1, 1) := by decide +kernel
theorem d_Mo_lot_62 : decode prog_9_method_5_code 62 = .ok (.iadd, 1) := by decide +kernel
theorem d_Mo_lot_63 : decode prog_9_method_5_code 63 = .ok (.putfield 64, 3) := by decide +kernel
theorem d_Mo_lot_66 : decode prog_9_method_5_code 66 = .ok (.aload_n 0, 1) := by decide +kernel
theorem d_Mo_lot_67 : decode prog_9_method_5_code 67 = .ok (.getfield 64, 3) := by decide +kernel
theorem d_Mo_lot_70 : decode prog_9_method_5_code 70 = .ok (.iconst 1, 1) := by decide +kernel
theorem d_Mo_lot_71 : decode prog_9_method_5_code 71 = .ok (.isub, 1) := by decide +kernel
theorem d_Mo_lot_72 : decode prog_9_method_5_code 72 = .ok (.ireturn, 1) := by decide +kernel
theorem d_Mo_amount_0 : decode prog_9_method_6_code 0 = .ok (.iload_n 1, 1) := by decide +kernel
theorem d_Mo_amount_1 : decode prog_9_method_6_code 1 = .ok (.ifCond .lt 32, 3) := by decide +kernel
theorem d_Mo_amount_4 : decode prog_9_method_6_code 4 = .ok (.iload_n 1, 1) := by decide +kernel
theorem d_Mo_amount_5 : decode prog_9_method_6_code 5 = .ok (.aload_n 0, 1) := by decide +kernel
theorem d_Mo_amount_6 : decode prog_9_method_6_code 6 = .ok (.getfield 64, 3) := by decide +kernel
theorem d_Mo_amount_9 : decode prog_9_method_6_code 9 = .ok (.if_icmp .ge 24, 3) := by decide +kernel
theorem d_Mo_amount_12 : decode prog_9_method_6_code 12 = .ok (.iload_n 2, 1) := by decide +kernel
theorem d_Mo_amount_13 : decode prog_9_method_6_code 13 = .ok (.invokestatic 77, 3) := by decide +kernel
theorem d_Mo_amount_16 : decode prog_9_method_6_code 16 = .ok (.ifCond .eq 17, 3) := by decide +kernel
theorem d_Mo_amount_19 : decode prog_9_method_6_code 19 = .ok (.iload_n 3, 1) := by decide +kernel
theorem d_Mo_amount_20 : decode prog_9_method_6_code 20 = .ok (.i2l, 1) := by decide +kernel
theorem d_Mo_amount_21 : decode prog_9_method_6_code 21 = .ok (.ldc2_w 81, 3) := by decide +kernel
theorem d_Mo_amount_24 : decode prog_9_method_6_code 24 = .ok (.ldc2_w 83, 3) := by decide +kernel
theorem d_Mo_amount_27 : decode prog_9_method_6_code 27 = .ok (.invokestatic 69, 3) := by decide +kernel
theorem d_Mo_amount_30 : decode prog_9_method_6_code 30 = .ok (.ifCond .ne 5, 3) := by decide +kernel
theorem d_Mo_amount_33 : decode prog_9_method_6_code 33 = .ok (.iconst 0, 1) := by decide +kernel
theorem d_Mo_amount_34 : decode prog_9_method_6_code 34 = .ok (.ireturn, 1) := by decide +kernel
theorem d_Mo_amount_35 : decode prog_9_method_6_code 35 = .ok (.aload_n 0, 1) := by decide +kernel
theorem d_Mo_amount_36 : decode prog_9_method_6_code 36 = .ok (.getfield 16, 3) := by decide +kernel
theorem d_Mo_amount_39 : decode prog_9_method_6_code 39 = .ok (.iconst 5, 1) := by decide +kernel
theorem d_Mo_amount_40 : decode prog_9_method_6_code 40 = .ok (.iload_n 1, 1) := by decide +kernel
theorem d_Mo_amount_41 : decode prog_9_method_6_code 41 = .ok (.imul, 1) := by decide +kernel
theorem d_Mo_amount_42 : decode prog_9_method_6_code 42 = .ok (.iload_n 2, 1) := by decide +kernel
theorem d_Mo_amount_43 : decode prog_9_method_6_code 43 = .ok (.iadd, 1) := by decide +kernel
theorem d_Mo_amount_44 : decode prog_9_method_6_code 44 = .ok (.iload_n 3, 1) := by decide +kernel
theorem d_Mo_amount_45 : decode prog_9_method_6_code 45 = .ok (.iastore, 1) := by decide +kernel
theorem d_Mo_amount_46 : decode prog_9_method_6_code 46 = .ok (.iconst 1, 1) := by decide +kernel
theorem d_Mo_amount_47 : decode prog_9_method_6_code 47 = .ok (.ireturn, 1) := by decide +kernel
theorem d_Mo_tell_0 : decode prog_9_method_7_code 0 = .ok (.aload_n 0, 1) := by decide +kernel
theorem d_Mo_tell_1 : decode prog_9_method_7_code 1 = .ok (.getfield 19, 3) := by decide +kernel
theorem d_Mo_tell_4 : decode prog_9_method_7_code 4 = .ok (.iload_n 1, 1) := by decide +kernel
theorem d_Mo_tell_5 : decode prog_9_method_7_code 5 = .ok (.iconst 1, 1) := by decide +kernel
theorem d_Mo_tell_6 : decode prog_9_method_7_code 6 = .ok (.bastore, 1) := by decide +kernel
theorem d_Mo_tell_7 : decode prog_9_method_7_code 7 = .ok (.aload_n 0, 1) := by decide +kernel
theorem d_Mo_tell_8 : decode prog_9_method_7_code 8 = .ok (.getfield 23, 3) := by decide +kernel
theorem d_Mo_tell_11 : decode prog_9_method_7_code 11 = .ok (.iload_n 1, 1) := by decide +kernel
theorem d_Mo_tell_12 : decode prog_9_method_7_code 12 = .ok (.iload_n 2, 1) := by decide +kernel
theorem d_Mo_tell_13 : decode prog_9_method_7_code 13 = .ok (.iastore, 1) := by decide +kernel
theorem d_Mo_tell_14 : decode prog_9_method_7_code 14 = .ok (.aload_n 0, 1) := by decide +kernel
theorem d_Mo_tell_15 : decode prog_9_method_7_code 15 = .ok (.getfield 26, 3) := by decide +kernel
theorem d_Mo_tell_18 : decode prog_9_method_7_code 18 = .ok (.iload_n 1, 1) := by decide +kernel
theorem d_Mo_tell_19 : decode prog_9_method_7_code 19 = .ok (.iload_n 3, 1) := by decide +kernel
theorem d_Mo_tell_20 : decode prog_9_method_7_code 20 = .ok (.iastore, 1) := by decide +kernel
theorem d_Mo_tell_21 : decode prog_9_method_7_code 21 = .ok (.iconst 1, 1) := by decide +kernel
theorem d_Mo_tell_22 : decode prog_9_method_7_code 22 = .ok (.ireturn, 1) := by decide +kernel
theorem d_Mo_span_0 : decode prog_9_method_8_code 0 = .ok (.iload_n 1, 1) := by decide +kernel
theorem d_Mo_span_1 : decode prog_9_method_8_code 1 = .ok (.invokestatic 77, 3) := by decide +kernel
theorem d_Mo_span_4 : decode prog_9_method_8_code 4 = .ok (.ifCond .eq 43, 3) := by decide +kernel
theorem d_Mo_span_7 : decode prog_9_method_8_code 7 = .ok (.iload_n 2, 1) := by decide +kernel
theorem d_Mo_span_8 : decode prog_9_method_8_code 8 = .ok (.i2l, 1) := by decide +kernel
theorem d_Mo_span_9 : decode prog_9_method_8_code 9 = .ok (.ldc2_w 85, 3) := by decide +kernel
theorem d_Mo_span_12 : decode prog_9_method_8_code 12 = .ok (.iload_n 3, 1) := by decide +kernel
theorem d_Mo_span_13 : decode prog_9_method_8_code 13 = .ok (.i2l, 1) := by decide +kernel
theorem d_Mo_span_14 : decode prog_9_method_8_code 14 = .ok (.invokestatic 69, 3) := by decide +kernel
theorem d_Mo_span_17 : decode prog_9_method_8_code 17 = .ok (.ifCond .eq 30, 3) := by decide +kernel
theorem d_Mo_span_20 : decode prog_9_method_8_code 20 = .ok (.iload_n 3, 1) := by decide +kernel
theorem d_Mo_span_21 : decode prog_9_method_8_code 21 = .ok (.i2l, 1) := by decide +kernel
theorem d_Mo_span_22 : decode prog_9_method_8_code 22 = .ok (.iload_n 2, 1) := by decide +kernel
theorem d_Mo_span_23 : decode prog_9_method_8_code 23 = .ok (.i2l, 1) := by decide +kernel
theorem d_Mo_span_24 : decode prog_9_method_8_code 24 = .ok (.ldc2_w 87, 3) := by decide +kernel
theorem d_Mo_span_27 : decode prog_9_method_8_code 27 = .ok (.invokestatic 69, 3) := by decide +kernel
theorem d_Mo_span_30 : decode prog_9_method_8_code 30 = .ok (.ifCond .eq 17, 3) := by decide +kernel
theorem d_Mo_span_33 : decode prog_9_method_8_code 33 = .ok (.aload_n 0, 1) := by decide +kernel
theorem d_Mo_span_34 : decode prog_9_method_8_code 34 = .ok (.iload_n 1, 1) := by decide +kernel
theorem d_Mo_span_35 : decode prog_9_method_8_code 35 = .ok (.iload_n 2, 1) := by decide +kernel
theorem d_Mo_span_36 : decode prog_9_method_8_code 36 = .ok (.iload_n 3, 1) := by decide +kernel
theorem d_Mo_span_37 : decode prog_9_method_8_code 37 = .ok (.invokevirtual 89, 3) := by decide +kernel
theorem d_Mo_span_40 : decode prog_9_method_8_code 40 = .ok (.ifCond .eq 7, 3) := by decide +kernel
theorem d_Mo_span_43 : decode prog_9_method_8_code 43 = .ok (.iconst 1, 1) := by decide +kernel
theorem d_Mo_span_44 : decode prog_9_method_8_code 44 = .ok (.goto 4, 3) := by decide +kernel
theorem d_Mo_span_47 : decode prog_9_method_8_code 47 = .ok (.iconst 0, 1) := by decide +kernel
theorem d_Mo_span_48 : decode prog_9_method_8_code 48 = .ok (.ireturn, 1) := by decide +kernel
theorem d_Mo_ratio_0 : decode prog_9_method_9_code 0 = .ok (.iload_n 1, 1) := by decide +kernel
theorem d_Mo_ratio_1 : decode prog_9_method_9_code 1 = .ok (.ifCond .lt 63, 3) := by decide +kernel
theorem d_Mo_ratio_4 : decode prog_9_method_9_code 4 = .ok (.iload_n 1, 1) := by decide +kernel
theorem d_Mo_ratio_5 : decode prog_9_method_9_code 5 = .ok (.iconst 1, 1) := by decide +kernel
theorem d_Mo_ratio_6 : decode prog_9_method_9_code 6 = .ok (.if_icmp .gt 58, 3) := by decide +kernel
theorem d_Mo_ratio_9 : decode prog_9_method_9_code 9 = .ok (.iload_n 2, 1) := by decide +kernel
theorem d_Mo_ratio_10 : decode prog_9_method_9_code 10 = .ok (.invokestatic 77, 3) := by decide +kernel
theorem d_Mo_ratio_13 : decode prog_9_method_9_code 13 = .ok (.ifCond .eq 51, 3) := by decide +kernel
theorem d_Mo_ratio_16 : decode prog_9_method_9_code 16 = .ok (.iload_n 3, 1) := by decide +kernel
theorem d_Mo_ratio_17 : decode prog_9_method_9_code 17 = .ok (.invokestatic 77, 3) := by decide +kernel
theorem d_Mo_ratio_20 : decode prog_9_method_9_code 20 = .ok (.ifCond .eq 44, 3) := by decide +kernel
theorem d_Mo_ratio_23 : decode prog_9_method_9_code 23 = .ok (.iload 4, 2) := by decide +kernel
theorem d_Mo_ratio_25 : decode prog_9_method_9_code 25 = .ok (.i2l, 1) := by decide +kernel
theorem d_Mo_ratio_26 : decode prog_9_method_9_code 26 = .ok (.lconst 0, 1) := by decide +kernel
theorem d_Mo_ratio_27 : decode prog_9_method_9_code 27 = .ok (.iload 5, 2) := by decide +kernel
theorem d_Mo_ratio_29 : decode prog_9_method_9_code 29 = .ok (.i2l, 1) := by decide +kernel
theorem d_Mo_ratio_30 : decode prog_9_method_9_code 30 = .ok (.invokestatic 69, 3) := by decide +kernel
theorem d_Mo_ratio_33 : decode prog_9_method_9_code 33 = .ok (.ifCond .eq 31, 3) := by decide +kernel
theorem d_Mo_ratio_36 : decode prog_9_method_9_code 36 = .ok (.iload 5, 2) := by decide +kernel
theorem d_Mo_ratio_38 : decode prog_9_method_9_code 38 = .ok (.i2l, 1) := by decide +kernel
theorem d_Mo_ratio_39 : decode prog_9_method_9_code 39 = .ok (.iload 4, 2) := by decide +kernel
theorem d_Mo_ratio_41 : decode prog_9_method_9_code 41 = .ok (.i2l, 1) := by decide +kernel
theorem d_Mo_ratio_42 : decode prog_9_method_9_code 42 = .ok (.ldc2_w 83, 3) := by decide +kernel
theorem d_Mo_ratio_45 : decode prog_9_method_9_code 45 = .ok (.invokestatic 69, 3) := by decide +kernel
theorem d_Mo_ratio_48 : decode prog_9_method_9_code 48 = .ok (.ifCond .eq 16, 3) := by decide +kernel
theorem d_Mo_ratio_51 : decode prog_9_method_9_code 51 = .ok (.iload 6, 2) := by decide +kernel
theorem d_Mo_ratio_53 : decode prog_9_method_9_code 53 = .ok (.i2l, 1) := by decide +kernel
theorem d_Mo_ratio_54 : decode prog_9_method_9_code 54 = .ok (.lconst 1, 1) := by decide +kernel
theorem d_Mo_ratio_55 : decode prog_9_method_9_code 55 = .ok (.ldc2_w 83, 3) := by decide +kernel
theorem d_Mo_ratio_58 : decode prog_9_method_9_code 58 = .ok (.invokestatic 69, 3) := by decide +kernel
theorem d_Mo_ratio_61 : decode prog_9_method_9_code 61 = .ok (.ifCond .ne 5, 3) := by decide +kernel
theorem d_Mo_ratio_64 : decode prog_9_method_9_code 64 = .ok (.iconst 0, 1) := by decide +kernel
theorem d_Mo_ratio_65 : decode prog_9_method_9_code 65 = .ok (.ireturn, 1) := by decide +kernel
theorem d_Mo_ratio_66 : decode prog_9_method_9_code 66 = .ok (.aload_n 0, 1) := by decide +kernel
theorem d_Mo_ratio_67 : decode prog_9_method_9_code 67 = .ok (.getfield 32, 3) := by decide +kernel
theorem d_Mo_ratio_70 : decode prog_9_method_9_code 70 = .ok (.iconst 5, 1) := by decide +kernel
theorem d_Mo_ratio_71 : decode prog_9_method_9_code 71 = .ok (.iload_n 1, 1) := by decide +kernel
theorem d_Mo_ratio_72 : decode prog_9_method_9_code 72 = .ok (.iadd, 1) := by decide +kernel
theorem d_Mo_ratio_73 : decode prog_9_method_9_code 73 = .ok (.iload_n 2, 1) := by decide +kernel
theorem d_Mo_ratio_74 : decode prog_9_method_9_code 74 = .ok (.iastore, 1) := by decide +kernel
theorem d_Mo_ratio_75 : decode prog_9_method_9_code 75 = .ok (.aload_n 0, 1) := by decide +kernel
theorem d_Mo_ratio_76 : decode prog_9_method_9_code 76 = .ok (.getfield 35, 3) := by decide +kernel
theorem d_Mo_ratio_79 : decode prog_9_method_9_code 79 = .ok (.iconst 5, 1) := by decide +kernel
theorem d_Mo_ratio_80 : decode prog_9_method_9_code 80 = .ok (.iload_n 1, 1) := by decide +kernel
theorem d_Mo_ratio_81 : decode prog_9_method_9_code 81 = .ok (.iadd, 1) := by decide +kernel
theorem d_Mo_ratio_82 : decode prog_9_method_9_code 82 = .ok (.iload_n 3, 1) := by decide +kernel
theorem d_Mo_ratio_83 : decode prog_9_method_9_code 83 = .ok (.iastore, 1) := by decide +kernel
theorem d_Mo_ratio_84 : decode prog_9_method_9_code 84 = .ok (.aload_n 0, 1) := by decide +kernel
theorem d_Mo_ratio_85 : decode prog_9_method_9_code 85 = .ok (.getfield 29, 3) := by decide +kernel
theorem d_Mo_ratio_88 : decode prog_9_method_9_code 88 = .ok (.iconst 5, 1) := by decide +kernel
theorem d_Mo_ratio_89 : decode prog_9_method_9_code 89 = .ok (.iload_n 1, 1) := by decide +kernel
theorem d_Mo_ratio_90 : decode prog_9_method_9_code 90 = .ok (.iadd, 1) := by decide +kernel
theorem d_Mo_ratio_91 : decode prog_9_method_9_code 91 = .ok (.iload 6, 2) := by decide +kernel
theorem d_Mo_ratio_93 : decode prog_9_method_9_code 93 = .ok (.iastore, 1) := by decide +kernel
theorem d_Mo_ratio_94 : decode prog_9_method_9_code 94 = .ok (.aload_n 0, 1) := by decide +kernel
theorem d_Mo_ratio_95 : decode prog_9_method_9_code 95 = .ok (.iconst 5, 1) := by decide +kernel
theorem d_Mo_ratio_96 : decode prog_9_method_9_code 96 = .ok (.iload_n 1, 1) := by decide +kernel
theorem d_Mo_ratio_97 : decode prog_9_method_9_code 97 = .ok (.iadd, 1) := by decide +kernel
theorem d_Mo_ratio_98 : decode prog_9_method_9_code 98 = .ok (.iload 4, 2) := by decide +kernel
theorem d_Mo_ratio_100 : decode prog_9_method_9_code 100 = .ok (.iload 5, 2) := by decide +kernel
theorem d_Mo_ratio_102 : decode prog_9_method_9_code 102 = .ok (.invokevirtual 89, 3) := by decide +kernel
theorem d_Mo_ratio_105 : decode prog_9_method_9_code 105 = .ok (.ireturn, 1) := by decide +kernel
theorem d_Mo_loads_0 : decode prog_9_method_10_code 0 = .ok (.iload_n 1, 1) := by decide +kernel
theorem d_Mo_loads_1 : decode prog_9_method_10_code 1 = .ok (.i2l, 1) := by decide +kernel
theorem d_Mo_loads_2 : decode prog_9_method_10_code 2 = .ok (.lconst 0, 1) := by decide +kernel
theorem d_Mo_loads_3 : decode prog_9_method_10_code 3 = .ok (.iload_n 2, 1) := by decide +kernel
theorem d_Mo_loads_4 : decode prog_9_method_10_code 4 = .ok (.i2l, 1) := by decide +kernel
theorem d_Mo_loads_5 : decode prog_9_method_10_code 5 = .ok (.invokestatic 69, 3) := by decide +kernel
theorem d_Mo_loads_8 : decode prog_9_method_10_code 8 = .ok (.ifCond .eq 31, 3) := by decide +kernel
theorem d_Mo_loads_11 : decode prog_9_method_10_code 11 = .ok (.iload_n 2, 1) := by decide +kernel
theorem d_Mo_loads_12 : decode prog_9_method_10_code 12 = .ok (.i2l, 1) := by decide +kernel
theorem d_Mo_loads_13 : decode prog_9_method_10_code 13 = .ok (.iload_n 1, 1) := by decide +kernel
theorem d_Mo_loads_14 : decode prog_9_method_10_code 14 = .ok (.i2l, 1) := by decide +kernel
theorem d_Mo_loads_15 : decode prog_9_method_10_code 15 = .ok (.ldc2_w 93, 3) := by decide +kernel
theorem d_Mo_loads_18 : decode prog_9_method_10_code 18 = .ok (.invokestatic 69, 3) := by decide +kernel
theorem d_Mo_loads_21 : decode prog_9_method_10_code 21 = .ok (.ifCond .eq 18, 3) := by decide +kernel
theorem d_Mo_loads_24 : decode prog_9_method_10_code 24 = .ok (.aload_n 0, 1) := by decide +kernel
theorem d_Mo_loads_25 : decode prog_9_method_10_code 25 = .ok (.bipush 7, 2) := by decide +kernel
theorem d_Mo_loads_27 : decode prog_9_method_10_code 27 = .ok (.iload_n 1, 1) := by decide +kernel
theorem d_Mo_loads_28 : decode prog_9_method_10_code 28 = .ok (.iload_n 2, 1) := by decide +kernel
theorem d_Mo_loads_29 : decode prog_9_method_10_code 29 = .ok (.invokevirtual 89, 3) := by decide +kernel
theorem d_Mo_loads_32 : decode prog_9_method_10_code 32 = .ok (.ifCond .eq 7, 3) := by decide +kernel
theorem d_Mo_loads_35 : decode prog_9_method_10_code 35 = .ok (.iconst 1, 1) := by decide +kernel
theorem d_Mo_loads_36 : decode prog_9_method_10_code 36 = .ok (.goto 4, 3) := by decide +kernel
theorem d_Mo_loads_39 : decode prog_9_method_10_code 39 = .ok (.iconst 0, 1) := by decide +kernel
theorem d_Mo_loads_40 : decode prog_9_method_10_code 40 = .ok (.ireturn, 1) := by decide +kernel
theorem d_Mo_untell_0 : decode prog_9_method_11_code 0 = .ok (.iload_n 1, 1) := by decide +kernel
theorem d_Mo_untell_1 : decode prog_9_method_11_code 1 = .ok (.ifCond .lt 18, 3) := by decide +kernel
theorem d_Mo_untell_4 : decode prog_9_method_11_code 4 = .ok (.iload_n 1, 1) := by decide +kernel
theorem d_Mo_untell_5 : decode prog_9_method_11_code 5 = .ok (.bipush 8, 2) := by decide +kernel
theorem d_Mo_untell_7 : decode prog_9_method_11_code 7 = .ok (.if_icmp .ge 12, 3) := by decide +kernel
theorem d_Mo_untell_10 : decode prog_9_method_11_code 10 = .ok (.aload_n 0, 1) := by decide +kernel
theorem d_Mo_untell_11 : decode prog_9_method_11_code 11 = .ok (.getfield 19, 3) := by decide +kernel
theorem d_Mo_untell_14 : decode prog_9_method_11_code 14 = .ok (.iload_n 1, 1) := by decide +kernel
theorem d_Mo_untell_15 : decode prog_9_method_11_code 15 = .ok (.baload, 1) := by decide +kernel
theorem d_Mo_untell_16 : decode prog_9_method_11_code 16 = .ok (.ifCond .ne 5, 3) := by decide +kernel
theorem d_Mo_untell_19 : decode prog_9_method_11_code 19 = .ok (.iconst 0, 1) := by decide +kernel
theorem d_Mo_untell_20 : decode prog_9_method_11_code 20 = .ok (.ireturn, 1) := by decide +kernel
theorem d_Mo_untell_21 : decode prog_9_method_11_code 21 = .ok (.aload_n 0, 1) := by decide +kernel
theorem d_Mo_untell_22 : decode prog_9_method_11_code 22 = .ok (.getfield 19, 3) := by decide +kernel
theorem d_Mo_untell_25 : decode prog_9_method_11_code 25 = .ok (.iload_n 1, 1) := by decide +kernel
theorem d_Mo_untell_26 : decode prog_9_method_11_code 26 = .ok (.iconst 0, 1) := by decide +kernel
theorem d_Mo_untell_27 : decode prog_9_method_11_code 27 = .ok (.bastore, 1) := by decide +kernel
theorem d_Mo_untell_28 : decode prog_9_method_11_code 28 = .ok (.iconst 1, 1) := by decide +kernel
theorem d_Mo_untell_29 : decode prog_9_method_11_code 29 = .ok (.ireturn, 1) := by decide +kernel
theorem d_Mo_holds_0 : decode prog_9_method_12_code 0 = .ok (.iconst 0, 1) := by decide +kernel
theorem d_Mo_holds_1 : decode prog_9_method_12_code 1 = .ok (.istore_n 2, 1) := by decide +kernel
theorem d_Mo_holds_2 : decode prog_9_method_12_code 2 = .ok (.iconst 0, 1) := by decide +kernel
theorem d_Mo_holds_3 : decode prog_9_method_12_code 3 = .ok (.istore_n 3, 1) := by decide +kernel
theorem d_Mo_holds_4 : decode prog_9_method_12_code 4 = .ok (.iload_n 3, 1) := by decide +kernel
theorem d_Mo_holds_5 : decode prog_9_method_12_code 5 = .ok (.aload_n 0, 1) := by decide +kernel
theorem d_Mo_holds_6 : decode prog_9_method_12_code 6 = .ok (.getfield 64, 3) := by decide +kernel
theorem d_Mo_holds_9 : decode prog_9_method_12_code 9 = .ok (.if_icmp .ge 29, 3) := by decide +kernel
theorem d_Mo_holds_12 : decode prog_9_method_12_code 12 = .ok (.iload_n 2, 1) := by decide +kernel
theorem d_Mo_holds_13 : decode prog_9_method_12_code 13 = .ok (.aload_n 0, 1) := by decide +kernel
theorem d_Mo_holds_14 : decode prog_9_method_12_code 14 = .ok (.getfield 45, 3) := by decide +kernel
theorem d_Mo_holds_17 : decode prog_9_method_12_code 17 = .ok (.iload_n 3, 1) := by decide +kernel
theorem d_Mo_holds_18 : decode prog_9_method_12_code 18 = .ok (.iaload, 1) := by decide +kernel
theorem d_Mo_holds_19 : decode prog_9_method_12_code 19 = .ok (.aload_n 0, 1) := by decide +kernel
theorem d_Mo_holds_20 : decode prog_9_method_12_code 20 = .ok (.getfield 16, 3) := by decide +kernel
theorem d_Mo_holds_23 : decode prog_9_method_12_code 23 = .ok (.iconst 5, 1) := by decide +kernel
theorem d_Mo_holds_24 : decode prog_9_method_12_code 24 = .ok (.iload_n 3, 1) := by decide +kernel
theorem d_Mo_holds_25 : decode prog_9_method_12_code 25 = .ok (.imul, 1) := by decide +kernel
theorem d_Mo_holds_26 : decode prog_9_method_12_code 26 = .ok (.iload_n 1, 1) := by decide +kernel
theorem d_Mo_holds_27 : decode prog_9_method_12_code 27 = .ok (.iadd, 1) := by decide +kernel
theorem d_Mo_holds_28 : decode prog_9_method_12_code 28 = .ok (.iaload, 1) := by decide +kernel
theorem d_Mo_holds_29 : decode prog_9_method_12_code 29 = .ok (.imul, 1) := by decide +kernel
theorem d_Mo_holds_30 : decode prog_9_method_12_code 30 = .ok (.iadd, 1) := by decide +kernel
theorem d_Mo_holds_31 : decode prog_9_method_12_code 31 = .ok (.istore_n 2, 1) := by decide +kernel
theorem d_Mo_holds_32 : decode prog_9_method_12_code 32 = .ok (.iinc 3 1, 3) := by decide +kernel
theorem d_Mo_holds_35 : decode prog_9_method_12_code 35 = .ok (.goto (-31), 3) := by decide +kernel
theorem d_Mo_holds_38 : decode prog_9_method_12_code 38 = .ok (.iload_n 2, 1) := by decide +kernel
theorem d_Mo_holds_39 : decode prog_9_method_12_code 39 = .ok (.ireturn, 1) := by decide +kernel
theorem d_Mo_keeps_0 : decode prog_9_method_13_code 0 = .ok (.iload_n 1, 1) := by decide +kernel
theorem d_Mo_keeps_1 : decode prog_9_method_13_code 1 = .ok (.iconst 5, 1) := by decide +kernel
theorem d_Mo_keeps_2 : decode prog_9_method_13_code 2 = .ok (.if_icmp .ge 27, 3) := by decide +kernel
theorem d_Mo_keeps_5 : decode prog_9_method_13_code 5 = .ok (.aload_n 0, 1) := by decide +kernel
theorem d_Mo_keeps_6 : decode prog_9_method_13_code 6 = .ok (.iload_n 1, 1) := by decide +kernel
theorem d_Mo_keeps_7 : decode prog_9_method_13_code 7 = .ok (.invokevirtual 95, 3) := by decide +kernel
theorem d_Mo_keeps_10 : decode prog_9_method_13_code 10 = .ok (.i2l, 1) := by decide +kernel
theorem d_Mo_keeps_11 : decode prog_9_method_13_code 11 = .ok (.aload_n 0, 1) := by decide +kernel
theorem d_Mo_keeps_12 : decode prog_9_method_13_code 12 = .ok (.getfield 23, 3) := by decide +kernel
theorem d_Mo_keeps_15 : decode prog_9_method_13_code 15 = .ok (.iload_n 1, 1) := by decide +kernel
theorem d_Mo_keeps_16 : decode prog_9_method_13_code 16 = .ok (.iaload, 1) := by decide +kernel
theorem d_Mo_keeps_17 : decode prog_9_method_13_code 17 = .ok (.i2l, 1) := by decide +kernel
theorem d_Mo_keeps_18 : decode prog_9_method_13_code 18 = .ok (.aload_n 0, 1) := by decide +kernel
theorem d_Mo_keeps_19 : decode prog_9_method_13_code 19 = .ok (.getfield 26, 3) := by decide +kernel
theorem d_Mo_keeps_22 : decode prog_9_method_13_code 22 = .ok (.iload_n 1, 1) := by decide +kernel
theorem d_Mo_keeps_23 : decode prog_9_method_13_code 23 = .ok (.iaload, 1) := by decide +kernel
theorem d_Mo_keeps_24 : decode prog_9_method_13_code 24 = .ok (.i2l, 1) := by decide +kernel
theorem d_Mo_keeps_25 : decode prog_9_method_13_code 25 = .ok (.invokestatic 69, 3) := by decide +kernel
theorem d_Mo_keeps_28 : decode prog_9_method_13_code 28 = .ok (.ireturn, 1) := by decide +kernel
theorem d_Mo_keeps_29 : decode prog_9_method_13_code 29 = .ok (.iload_n 1, 1) := by decide +kernel
theorem d_Mo_keeps_30 : decode prog_9_method_13_code 30 = .ok (.bipush 7, 2) := by decide +kernel
theorem d_Mo_keeps_32 : decode prog_9_method_13_code 32 = .ok (.if_icmp .ge 72, 3) := by decide +kernel
theorem d_Mo_keeps_35 : decode prog_9_method_13_code 35 = .ok (.aload_n 0, 1) := by decide +kernel
theorem d_Mo_keeps_36 : decode prog_9_method_13_code 36 = .ok (.getfield 29, 3) := by decide +kernel
theorem d_Mo_keeps_39 : decode prog_9_method_13_code 39 = .ok (.iload_n 1, 1) := by decide +kernel
theorem d_Mo_keeps_40 : decode prog_9_method_13_code 40 = .ok (.iaload, 1) := by decide +kernel
theorem d_Mo_keeps_41 : decode prog_9_method_13_code 41 = .ok (.i2l, 1) := by decide +kernel
theorem d_Mo_keeps_42 : decode prog_9_method_13_code 42 = .ok (.aload_n 0, 1) := by decide +kernel
theorem d_Mo_keeps_43 : decode prog_9_method_13_code 43 = .ok (.aload_n 0, 1) := by decide +kernel
theorem d_Mo_keeps_44 : decode prog_9_method_13_code 44 = .ok (.getfield 32, 3) := by decide +kernel
theorem d_Mo_keeps_47 : decode prog_9_method_13_code 47 = .ok (.iload_n 1, 1) := by decide +kernel
theorem d_Mo_keeps_48 : decode prog_9_method_13_code 48 = .ok (.iaload, 1) := by decide +kernel
theorem d_Mo_keeps_49 : decode prog_9_method_13_code 49 = .ok (.invokevirtual 95, 3) := by decide +kernel
theorem d_Mo_keeps_52 : decode prog_9_method_13_code 52 = .ok (.i2l, 1) := by decide +kernel
theorem d_Mo_keeps_53 : decode prog_9_method_13_code 53 = .ok (.lmul, 1) := by decide +kernel
theorem d_Mo_keeps_54 : decode prog_9_method_13_code 54 = .ok (.lstore_n 2, 1) := by decide +kernel
theorem d_Mo_keeps_55 : decode prog_9_method_13_code 55 = .ok (.aload_n 0, 1) := by decide +kernel
theorem d_Mo_keeps_56 : decode prog_9_method_13_code 56 = .ok (.aload_n 0, 1) := by decide +kernel
theorem d_Mo_keeps_57 : decode prog_9_method_13_code 57 = .ok (.getfield 35, 3) := by decide +kernel
theorem d_Mo_keeps_60 : decode prog_9_method_13_code 60 = .ok (.iload_n 1, 1) := by decide +kernel
theorem d_Mo_keeps_61 : decode prog_9_method_13_code 61 = .ok (.iaload, 1) := by decide +kernel
theorem d_Mo_keeps_62 : decode prog_9_method_13_code 62 = .ok (.invokevirtual 95, 3) := by decide +kernel
theorem d_Mo_keeps_65 : decode prog_9_method_13_code 65 = .ok (.i2l, 1) := by decide +kernel
theorem d_Mo_keeps_66 : decode prog_9_method_13_code 66 = .ok (.lstore 4, 2) := by decide +kernel
theorem d_Mo_keeps_68 : decode prog_9_method_13_code 68 = .ok (.lload_n 2, 1) := by decide +kernel
theorem d_Mo_keeps_69 : decode prog_9_method_13_code 69 = .ok (.aload_n 0, 1) := by decide +kernel
theorem d_Mo_keeps_70 : decode prog_9_method_13_code 70 = .ok (.getfield 23, 3) := by decide +kernel
theorem d_Mo_keeps_73 : decode prog_9_method_13_code 73 = .ok (.iload_n 1, 1) := by decide +kernel
theorem d_Mo_keeps_74 : decode prog_9_method_13_code 74 = .ok (.iaload, 1) := by decide +kernel
theorem d_Mo_keeps_75 : decode prog_9_method_13_code 75 = .ok (.i2l, 1) := by decide +kernel
theorem d_Mo_keeps_76 : decode prog_9_method_13_code 76 = .ok (.lload 4, 2) := by decide +kernel
theorem d_Mo_keeps_78 : decode prog_9_method_13_code 78 = .ok (.lmul, 1) := by decide +kernel
theorem d_Mo_keeps_79 : decode prog_9_method_13_code 79 = .ok (.lcmp, 1) := by decide +kernel
theorem d_Mo_keeps_80 : decode prog_9_method_13_code 80 = .ok (.ifCond .lt 22, 3) := by decide +kernel
theorem d_Mo_keeps_83 : decode prog_9_method_13_code 83 = .ok (.lload_n 2, 1) := by decide +kernel
theorem d_Mo_keeps_84 : decode prog_9_method_13_code 84 = .ok (.aload_n 0, 1) := by decide +kernel
theorem d_Mo_keeps_85 : decode prog_9_method_13_code 85 = .ok (.getfield 26, 3) := by decide +kernel
theorem d_Mo_keeps_88 : decode prog_9_method_13_code 88 = .ok (.iload_n 1, 1) := by decide +kernel
theorem d_Mo_keeps_89 : decode prog_9_method_13_code 89 = .ok (.iaload, 1) := by decide +kernel
theorem d_Mo_keeps_90 : decode prog_9_method_13_code 90 = .ok (.i2l, 1) := by decide +kernel
theorem d_Mo_keeps_91 : decode prog_9_method_13_code 91 = .ok (.lload 4, 2) := by decide +kernel
theorem d_Mo_keeps_93 : decode prog_9_method_13_code 93 = .ok (.lmul, 1) := by decide +kernel
theorem d_Mo_keeps_94 : decode prog_9_method_13_code 94 = .ok (.lcmp, 1) := by decide +kernel
theorem d_Mo_keeps_95 : decode prog_9_method_13_code 95 = .ok (.ifCond .gt 7, 3) := by decide +kernel
theorem d_Mo_keeps_98 : decode prog_9_method_13_code 98 = .ok (.iconst 1, 1) := by decide +kernel
theorem d_Mo_keeps_99 : decode prog_9_method_13_code 99 = .ok (.goto 4, 3) := by decide +kernel
theorem d_Mo_keeps_102 : decode prog_9_method_13_code 102 = .ok (.iconst 0, 1) := by decide +kernel
theorem d_Mo_keeps_103 : decode prog_9_method_13_code 103 = .ok (.ireturn, 1) := by decide +kernel
theorem d_Mo_keeps_104 : decode prog_9_method_13_code 104 = .ok (.aload_n 0, 1) := by decide +kernel
theorem d_Mo_keeps_105 : decode prog_9_method_13_code 105 = .ok (.getfield 45, 3) := by decide +kernel
theorem d_Mo_keeps_108 : decode prog_9_method_13_code 108 = .ok (.iconst 0, 1) := by decide +kernel
theorem d_Mo_keeps_109 : decode prog_9_method_13_code 109 = .ok (.iaload, 1) := by decide +kernel
theorem d_Mo_keeps_110 : decode prog_9_method_13_code 110 = .ok (.aload_n 0, 1) := by decide +kernel
theorem d_Mo_keeps_111 : decode prog_9_method_13_code 111 = .ok (.getfield 45, 3) := by decide +kernel
theorem d_Mo_keeps_114 : decode prog_9_method_13_code 114 = .ok (.iconst 1, 1) := by decide +kernel
theorem d_Mo_keeps_115 : decode prog_9_method_13_code 115 = .ok (.iaload, 1) := by decide +kernel
theorem d_Mo_keeps_116 : decode prog_9_method_13_code 116 = .ok (.iadd, 1) := by decide +kernel
theorem d_Mo_keeps_117 : decode prog_9_method_13_code 117 = .ok (.aload_n 0, 1) := by decide +kernel
theorem d_Mo_keeps_118 : decode prog_9_method_13_code 118 = .ok (.getfield 45, 3) := by decide +kernel
theorem d_Mo_keeps_121 : decode prog_9_method_13_code 121 = .ok (.iconst 2, 1) := by decide +kernel
theorem d_Mo_keeps_122 : decode prog_9_method_13_code 122 = .ok (.iaload, 1) := by decide +kernel
theorem d_Mo_keeps_123 : decode prog_9_method_13_code 123 = .ok (.iadd, 1) := by decide +kernel
theorem d_Mo_keeps_124 : decode prog_9_method_13_code 124 = .ok (.aload_n 0, 1) := by decide +kernel
theorem d_Mo_keeps_125 : decode prog_9_method_13_code 125 = .ok (.getfield 45, 3) := by decide +kernel
theorem d_Mo_keeps_128 : decode prog_9_method_13_code 128 = .ok (.iconst 3, 1) := by decide +kernel
theorem d_Mo_keeps_129 : decode prog_9_method_13_code 129 = .ok (.iaload, 1) := by decide +kernel
theorem d_Mo_keeps_130 : decode prog_9_method_13_code 130 = .ok (.iadd, 1) := by decide +kernel
theorem d_Mo_keeps_131 : decode prog_9_method_13_code 131 = .ok (.i2l, 1) := by decide +kernel
theorem d_Mo_keeps_132 : decode prog_9_method_13_code 132 = .ok (.aload_n 0, 1) := by decide +kernel
theorem d_Mo_keeps_133 : decode prog_9_method_13_code 133 = .ok (.getfield 23, 3) := by decide +kernel
theorem d_Mo_keeps_136 : decode prog_9_method_13_code 136 = .ok (.iload_n 1, 1) := by decide +kernel
theorem d_Mo_keeps_137 : decode prog_9_method_13_code 137 = .ok (.iaload, 1) := by decide +kernel
theorem d_Mo_keeps_138 : decode prog_9_method_13_code 138 = .ok (.i2l, 1) := by decide +kernel
theorem d_Mo_keeps_139 : decode prog_9_method_13_code 139 = .ok (.aload_n 0, 1) := by decide +kernel
theorem d_Mo_keeps_140 : decode prog_9_method_13_code 140 = .ok (.getfield 26, 3) := by decide +kernel
theorem d_Mo_keeps_143 : decode prog_9_method_13_code 143 = .ok (.iload_n 1, 1) := by decide +kernel
theorem d_Mo_keeps_144 : decode prog_9_method_13_code 144 = .ok (.iaload, 1) := by decide +kernel
theorem d_Mo_keeps_145 : decode prog_9_method_13_code 145 = .ok (.i2l, 1) := by decide +kernel
theorem d_Mo_keeps_146 : decode prog_9_method_13_code 146 = .ok (.invokestatic 69, 3) := by decide +kernel
theorem d_Mo_keeps_149 : decode prog_9_method_13_code 149 = .ok (.ireturn, 1) := by decide +kernel
theorem d_Mo_firstBroken_0 : decode prog_9_method_14_code 0 = .ok (.iconst 0, 1) := by decide +kernel
theorem d_Mo_firstBroken_1 : decode prog_9_method_14_code 1 = .ok (.istore_n 1, 1) := by decide +kernel
theorem d_Mo_firstBroken_2 : decode prog_9_method_14_code 2 = .ok (.iload_n 1, 1) := by decide +kernel
theorem d_Mo_firstBroken_3 : decode prog_9_method_14_code 3 = .ok (.bipush 8, 2) := by decide +kernel
theorem d_Mo_firstBroken_5 : decode prog_9_method_14_code 5 = .ok (.if_icmp .ge 28, 3) := by decide +kernel
theorem d_Mo_firstBroken_8 : decode prog_9_method_14_code 8 = .ok (.aload_n 0, 1) := by decide +kernel
theorem d_Mo_firstBroken_9 : decode prog_9_method_14_code 9 = .ok (.getfield 19, 3) := by decide +kernel
theorem d_Mo_firstBroken_12 : decode prog_9_method_14_code 12 = .ok (.iload_n 1, 1) := by decide +kernel
theorem d_Mo_firstBroken_13 : decode prog_9_method_14_code 13 = .ok (.baload, 1) := by decide +kernel
theorem d_Mo_firstBroken_14 : decode prog_9_method_14_code 14 = .ok (.ifCond .eq 13, 3) := by decide +kernel
theorem d_Mo_firstBroken_17 : decode prog_9_method_14_code 17 = .ok (.aload_n 0, 1) := by decide +kernel
theorem d_Mo_firstBroken_18 : decode prog_9_method_14_code 18 = .ok (.iload_n 1, 1) := by decide +kernel
theorem d_Mo_firstBroken_19 : decode prog_9_method_14_code 19 = .ok (.invokevirtual 99, 3) := by decide +kernel
theorem d_Mo_firstBroken_22 : decode prog_9_method_14_code 22 = .ok (.ifCond .ne 5, 3) := by decide +kernel
theorem d_Mo_firstBroken_25 : decode prog_9_method_14_code 25 = .ok (.iload_n 1, 1) := by decide +kernel
theorem d_Mo_firstBroken_26 : decode prog_9_method_14_code 26 = .ok (.ireturn, 1) := by decide +kernel
theorem d_Mo_firstBroken_27 : decode prog_9_method_14_code 27 = .ok (.iinc 1 1, 3) := by decide +kernel
theorem d_Mo_firstBroken_30 : decode prog_9_method_14_code 30 = .ok (.goto (-28), 3) := by decide +kernel
theorem d_Mo_firstBroken_33 : decode prog_9_method_14_code 33 = .ok (.bipush 8, 2) := by decide +kernel
theorem d_Mo_firstBroken_35 : decode prog_9_method_14_code 35 = .ok (.ireturn, 1) := by decide +kernel
theorem d_Mo_broken_0 : decode prog_9_method_15_code 0 = .ok (.aload_n 0, 1) := by decide +kernel
theorem d_Mo_broken_1 : decode prog_9_method_15_code 1 = .ok (.getfield 45, 3) := by decide +kernel
theorem d_Mo_broken_4 : decode prog_9_method_15_code 4 = .ok (.iconst 0, 1) := by decide +kernel
theorem d_Mo_broken_5 : decode prog_9_method_15_code 5 = .ok (.iload_n 1, 1) := by decide +kernel
theorem d_Mo_broken_6 : decode prog_9_method_15_code 6 = .ok (.iastore, 1) := by decide +kernel
theorem d_Mo_broken_7 : decode prog_9_method_15_code 7 = .ok (.aload_n 0, 1) := by decide +kernel
theorem d_Mo_broken_8 : decode prog_9_method_15_code 8 = .ok (.getfield 45, 3) := by decide +kernel
theorem d_Mo_broken_11 : decode prog_9_method_15_code 11 = .ok (.iconst 1, 1) := by decide +kernel
theorem d_Mo_broken_12 : decode prog_9_method_15_code 12 = .ok (.iload_n 2, 1) := by decide +kernel
theorem d_Mo_broken_13 : decode prog_9_method_15_code 13 = .ok (.iastore, 1) := by decide +kernel
theorem d_Mo_broken_14 : decode prog_9_method_15_code 14 = .ok (.aload_n 0, 1) := by decide +kernel
theorem d_Mo_broken_15 : decode prog_9_method_15_code 15 = .ok (.getfield 45, 3) := by decide +kernel
theorem d_Mo_broken_18 : decode prog_9_method_15_code 18 = .ok (.iconst 2, 1) := by decide +kernel
theorem d_Mo_broken_19 : decode prog_9_method_15_code 19 = .ok (.iload_n 3, 1) := by decide +kernel
theorem d_Mo_broken_20 : decode prog_9_method_15_code 20 = .ok (.iastore, 1) := by decide +kernel
theorem d_Mo_broken_21 : decode prog_9_method_15_code 21 = .ok (.aload_n 0, 1) := by decide +kernel
theorem d_Mo_broken_22 : decode prog_9_method_15_code 22 = .ok (.getfield 45, 3) := by decide +kernel
theorem d_Mo_broken_25 : decode prog_9_method_15_code 25 = .ok (.iconst 3, 1) := by decide +kernel
theorem d_Mo_broken_26 : decode prog_9_method_15_code 26 = .ok (.iload 4, 2) := by decide +kernel
theorem d_Mo_broken_28 : decode prog_9_method_15_code 28 = .ok (.iastore, 1) := by decide +kernel
theorem d_Mo_broken_29 : decode prog_9_method_15_code 29 = .ok (.iconst 0, 1) := by decide +kernel
theorem d_Mo_broken_30 : decode prog_9_method_15_code 30 = .ok (.istore 5, 2) := by decide +kernel
theorem d_Mo_broken_32 : decode prog_9_method_15_code 32 = .ok (.iload 5, 2) := by decide +kernel
theorem d_Mo_broken_34 : decode prog_9_method_15_code 34 = .ok (.iconst 4, 1) := by decide +kernel
theorem d_Mo_broken_35 : decode prog_9_method_15_code 35 = .ok (.if_icmp .ge 47, 3) := by decide +kernel
theorem d_Mo_broken_38 : decode prog_9_method_15_code 38 = .ok (.aload_n 0, 1) := by decide +kernel
theorem d_Mo_broken_39 : decode prog_9_method_15_code 39 = .ok (.getfield 45, 3) := by decide +kernel
theorem d_Mo_broken_42 : decode prog_9_method_15_code 42 = .ok (.iload 5, 2) := by decide +kernel
theorem d_Mo_broken_44 : decode prog_9_method_15_code 44 = .ok (.iaload, 1) := by decide +kernel
theorem d_Mo_broken_45 : decode prog_9_method_15_code 45 = .ok (.i2l, 1) := by decide +kernel
theorem d_Mo_broken_46 : decode prog_9_method_15_code 46 = .ok (.lconst 0, 1) := by decide +kernel
theorem d_Mo_broken_47 : decode prog_9_method_15_code 47 = .ok (.iload 5, 2) := by decide +kernel
theorem d_Mo_broken_49 : decode prog_9_method_15_code 49 = .ok (.aload_n 0, 1) := by decide +kernel
theorem d_Mo_broken_50 : decode prog_9_method_15_code 50 = .ok (.getfield 64, 3) := by decide +kernel
theorem d_Mo_broken_53 : decode prog_9_method_15_code 53 = .ok (.if_icmp .ge 14, 3) := by decide +kernel
theorem d_Mo_broken_56 : decode prog_9_method_15_code 56 = .ok (.aload_n 0, 1) := by decide +kernel
theorem d_Mo_broken_57 : decode prog_9_method_15_code 57 = .ok (.getfield 7, 3) := by decide +kernel
theorem d_Mo_broken_60 : decode prog_9_method_15_code 60 = .ok (.iload 5, 2) := by decide +kernel
theorem d_Mo_broken_62 : decode prog_9_method_15_code 62 = .ok (.iaload, 1) := by decide +kernel
theorem d_Mo_broken_63 : decode prog_9_method_15_code 63 = .ok (.i2l, 1) := by decide +kernel
theorem d_Mo_broken_64 : decode prog_9_method_15_code 64 = .ok (.goto 4, 3) := by decide +kernel
theorem d_Mo_broken_67 : decode prog_9_method_15_code 67 = .ok (.lconst 0, 1) := by decide +kernel
theorem d_Mo_broken_68 : decode prog_9_method_15_code 68 = .ok (.invokestatic 69, 3) := by decide +kernel
theorem d_Mo_broken_71 : decode prog_9_method_15_code 71 = .ok (.ifCond .ne 5, 3) := by decide +kernel
theorem d_Mo_broken_74 : decode prog_9_method_15_code 74 = .ok (.iconst (-1), 1) := by decide +kernel
theorem d_Mo_broken_75 : decode prog_9_method_15_code 75 = .ok (.ireturn, 1) := by decide +kernel
theorem d_Mo_broken_76 : decode prog_9_method_15_code 76 = .ok (.iinc 5 1, 3) := by decide +kernel
theorem d_Mo_broken_79 : decode prog_9_method_15_code 79 = .ok (.goto (-47), 3) := by decide +kernel
theorem d_Mo_broken_82 : decode prog_9_method_15_code 82 = .ok (.aload_n 0, 1) := by decide +kernel
theorem d_Mo_broken_83 : decode prog_9_method_15_code 83 = .ok (.invokevirtual 102, 3) := by decide +kernel
theorem d_Mo_broken_86 : decode prog_9_method_15_code 86 = .ok (.ireturn, 1) := by decide +kernel
theorem d_Mo_findWhole_0 : decode prog_9_method_16_code 0 = .ok (.iconst 0, 1) := by decide +kernel
theorem d_Mo_findWhole_1 : decode prog_9_method_16_code 1 = .ok (.istore_n 1, 1) := by decide +kernel
theorem d_Mo_findWhole_2 : decode prog_9_method_16_code 2 = .ok (.iconst 0, 1) := by decide +kernel
theorem d_Mo_findWhole_3 : decode prog_9_method_16_code 3 = .ok (.istore_n 2, 1) := by decide +kernel
theorem d_Mo_findWhole_4 : decode prog_9_method_16_code 4 = .ok (.iload_n 2, 1) := by decide +kernel
theorem d_Mo_findWhole_5 : decode prog_9_method_16_code 5 = .ok (.sipush 10000, 3) := by decide +kernel
theorem d_Mo_findWhole_8 : decode prog_9_method_16_code 8 = .ok (.if_icmp .ge 191, 3) := by decide +kernel
theorem d_Mo_findWhole_11 : decode prog_9_method_16_code 11 = .ok (.iload_n 2, 1) := by decide +kernel
theorem d_Mo_findWhole_12 : decode prog_9_method_16_code 12 = .ok (.istore_n 3, 1) := by decide +kernel
theorem d_Mo_findWhole_13 : decode prog_9_method_16_code 13 = .ok (.iconst 1, 1) := by decide +kernel
theorem d_Mo_findWhole_14 : decode prog_9_method_16_code 14 = .ok (.istore 4, 2) := by decide +kernel
theorem d_Mo_findWhole_16 : decode prog_9_method_16_code 16 = .ok (.iconst 3, 1) := by decide +kernel
theorem d_Mo_findWhole_17 : decode prog_9_method_16_code 17 = .ok (.istore 5, 2) := by decide +kernel
theorem d_Mo_findWhole_19 : decode prog_9_method_16_code 19 = .ok (.iload 5, 2) := by decide +kernel
theorem d_Mo_findWhole_21 : decode prog_9_method_16_code 21 = .ok (.ifCond .lt 67, 3) := by decide +kernel
theorem d_Mo_findWhole_24 : decode prog_9_method_16_code 24 = .ok (.aload_n 0, 1) := by decide +kernel
theorem d_Mo_findWhole_25 : decode prog_9_method_16_code 25 = .ok (.getfield 45, 3) := by decide +kernel
theorem d_Mo_findWhole_28 : decode prog_9_method_16_code 28 = .ok (.iload 5, 2) := by decide +kernel
theorem d_Mo_findWhole_30 : decode prog_9_method_16_code 30 = .ok (.iload_n 3, 1) := by decide +kernel
theorem d_Mo_findWhole_31 : decode prog_9_method_16_code 31 = .ok (.bipush 10, 2) := by decide +kernel
theorem d_Mo_findWhole_33 : decode prog_9_method_16_code 33 = .ok (.irem, 1) := by decide +kernel
theorem d_Mo_findWhole_34 : decode prog_9_method_16_code 34 = .ok (.iastore, 1) := by decide +kernel
theorem d_Mo_findWhole_35 : decode prog_9_method_16_code 35 = .ok (.iload_n 3, 1) := by decide +kernel
theorem d_Mo_findWhole_36 : decode prog_9_method_16_code 36 = .ok (.bipush 10, 2) := by decide +kernel
theorem d_Mo_findWhole_38 : decode prog_9_method_16_code 38 = .ok (.idiv, 1) := by decide +kernel
theorem d_Mo_findWhole_39 : decode prog_9_method_16_code 39 = .ok (.istore_n 3, 1) := by decide +kernel
theorem d_Mo_findWhole_40 : decode prog_9_method_16_code 40 = .ok (.iload 4, 2) := by decide +kernel
theorem d_Mo_findWhole_42 : decode prog_9_method_16_code 42 = .ok (.ifCond .eq 37, 3) := by decide +kernel
theorem d_Mo_findWhole_45 : decode prog_9_method_16_code 45 = .ok (.aload_n 0, 1) := by decide +kernel
theorem d_Mo_findWhole_46 : decode prog_9_method_16_code 46 = .ok (.getfield 45, 3) := by decide +kernel
theorem d_Mo_findWhole_49 : decode prog_9_method_16_code 49 = .ok (.iload 5, 2) := by decide +kernel
theorem d_Mo_findWhole_51 : decode prog_9_method_16_code 51 = .ok (.iaload, 1) := by decide +kernel
theorem d_Mo_findWhole_52 : decode prog_9_method_16_code 52 = .ok (.iload 5, 2) := by decide +kernel
theorem d_Mo_findWhole_54 : decode prog_9_method_16_code 54 = .ok (.aload_n 0, 1) := by decide +kernel
theorem d_Mo_findWhole_55 : decode prog_9_method_16_code 55 = .ok (.getfield 64, 3) := by decide +kernel
theorem d_Mo_findWhole_58 : decode prog_9_method_16_code 58 = .ok (.if_icmp .ge 13, 3) := by decide +kernel
theorem d_Mo_findWhole_61 : decode prog_9_method_16_code 61 = .ok (.aload_n 0, 1) := by decide +kernel
theorem d_Mo_findWhole_62 : decode prog_9_method_16_code 62 = .ok (.getfield 7, 3) := by decide +kernel
theorem d_Mo_findWhole_65 : decode prog_9_method_16_code 65 = .ok (.iload 5, 2) := by decide +kernel
theorem d_Mo_findWhole_67 : decode prog_9_method_16_code 67 = .ok (.iaload, 1) := by decide +kernel
theorem d_Mo_findWhole_68 : decode prog_9_method_16_code 68 = .ok (.goto 4, 3) := by decide +kernel
theorem d_Mo_findWhole_71 : decode prog_9_method_16_code 71 = .ok (.iconst 0, 1) := by decide +kernel
theorem d_Mo_findWhole_72 : decode prog_9_method_16_code 72 = .ok (.if_icmp .gt 7, 3) := by decide +kernel
theorem d_Mo_findWhole_75 : decode prog_9_method_16_code 75 = .ok (.iconst 1, 1) := by decide +kernel
theorem d_Mo_findWhole_76 : decode prog_9_method_16_code 76 = .ok (.goto 4, 3) := by decide +kernel
theorem d_Mo_findWhole_79 : decode prog_9_method_16_code 79 = .ok (.iconst 0, 1) := by decide +kernel
theorem d_Mo_findWhole_80 : decode prog_9_method_16_code 80 = .ok (.istore 4, 2) := by decide +kernel
theorem d_Mo_findWhole_82 : decode prog_9_method_16_code 82 = .ok (.iinc 5 (-1), 3) := by decide +kernel
theorem d_Mo_findWhole_85 : decode prog_9_method_16_code 85 = .ok (.goto (-66), 3) := by decide +kernel
theorem d_Mo_findWhole_88 : decode prog_9_method_16_code 88 = .ok (.iload 4, 2) := by decide +kernel
theorem d_Mo_findWhole_90 : decode prog_9_method_16_code 90 = .ok (.ifCond .eq 103, 3) := by decide +kernel
theorem d_Mo_findWhole_93 : decode prog_9_method_16_code 93 = .ok (.aload_n 0, 1) := by decide +kernel
theorem d_Mo_findWhole_94 : decode prog_9_method_16_code 94 = .ok (.invokevirtual 102, 3) := by decide +kernel
theorem d_Mo_findWhole_97 : decode prog_9_method_16_code 97 = .ok (.bipush 8, 2) := by decide +kernel
theorem d_Mo_findWhole_99 : decode prog_9_method_16_code 99 = .ok (.if_icmp .ne 94, 3) := by decide +kernel
theorem d_Mo_findWhole_102 : decode prog_9_method_16_code 102 = .ok (.lconst 0, 1) := by decide +kernel
theorem d_Mo_findWhole_103 : decode prog_9_method_16_code 103 = .ok (.lstore 5, 2) := by decide +kernel
theorem d_Mo_findWhole_105 : decode prog_9_method_16_code 105 = .ok (.iconst 0, 1) := by decide +kernel
theorem d_Mo_findWhole_106 : decode prog_9_method_16_code 106 = .ok (.istore 7, 2) := by decide +kernel
theorem d_Mo_findWhole_108 : decode prog_9_method_16_code 108 = .ok (.iload 7, 2) := by decide +kernel
theorem d_Mo_findWhole_110 : decode prog_9_method_16_code 110 = .ok (.iconst 4, 1) := by decide +kernel
theorem d_Mo_findWhole_111 : decode prog_9_method_16_code 111 = .ok (.if_icmp .ge 31, 3) := by decide +kernel
theorem d_Mo_findWhole_114 : decode prog_9_method_16_code 114 = .ok (.lload 5, 2) := by decide +kernel
theorem d_Mo_findWhole_116 : decode prog_9_method_16_code 116 = .ok (.aload_n 0, 1) := by decide +kernel
theorem d_Mo_findWhole_117 : decode prog_9_method_16_code 117 = .ok (.getfield 45, 3) := by decide +kernel
theorem d_Mo_findWhole_120 : decode prog_9_method_16_code 120 = .ok (.iload 7, 2) := by decide +kernel
theorem d_Mo_findWhole_122 : decode prog_9_method_16_code 122 = .ok (.iaload, 1) := by decide +kernel
theorem d_Mo_findWhole_123 : decode prog_9_method_16_code 123 = .ok (.i2l, 1) := by decide +kernel
theorem d_Mo_findWhole_124 : decode prog_9_method_16_code 124 = .ok (.aload_n 0, 1) := by decide +kernel
theorem d_Mo_findWhole_125 : decode prog_9_method_16_code 125 = .ok (.getfield 13, 3) := by decide +kernel
theorem d_Mo_findWhole_128 : decode prog_9_method_16_code 128 = .ok (.iload 7, 2) := by decide +kernel
theorem d_Mo_findWhole_130 : decode prog_9_method_16_code 130 = .ok (.iaload, 1) := by decide +kernel
theorem d_Mo_findWhole_131 : decode prog_9_method_16_code 131 = .ok (.i2l, 1) := by decide +kernel
theorem d_Mo_findWhole_132 : decode prog_9_method_16_code 132 = .ok (.lmul, 1) := by decide +kernel
theorem d_Mo_findWhole_133 : decode prog_9_method_16_code 133 = .ok (.ladd, 1) := by decide +kernel
theorem d_Mo_findWhole_134 : decode prog_9_method_16_code 134 = .ok (.lstore 5, 2) := by decide +kernel
theorem d_Mo_findWhole_136 : decode prog_9_method_16_code 136 = .ok (.iinc 7 1, 3) := by decide +kernel
theorem d_Mo_findWhole_139 : decode prog_9_method_16_code 139 = .ok (.goto (-31), 3) := by decide +kernel
theorem d_Mo_findWhole_142 : decode prog_9_method_16_code 142 = .ok (.iload_n 1, 1) := by decide +kernel
theorem d_Mo_findWhole_143 : decode prog_9_method_16_code 143 = .ok (.ifCond .eq 13, 3) := by decide +kernel
theorem d_Mo_findWhole_146 : decode prog_9_method_16_code 146 = .ok (.lload 5, 2) := by decide +kernel
theorem d_Mo_findWhole_148 : decode prog_9_method_16_code 148 = .ok (.aload_n 0, 1) := by decide +kernel
theorem d_Mo_findWhole_149 : decode prog_9_method_16_code 149 = .ok (.getfield 106, 3) := by decide +kernel
theorem d_Mo_findWhole_152 : decode prog_9_method_16_code 152 = .ok (.lcmp, 1) := by decide +kernel
theorem d_Mo_findWhole_153 : decode prog_9_method_16_code 153 = .ok (.ifCond .ge 40, 3) := by decide +kernel
theorem d_Mo_findWhole_156 : decode prog_9_method_16_code 156 = .ok (.iconst 1, 1) := by decide +kernel
theorem d_Mo_findWhole_157 : decode prog_9_method_16_code 157 = .ok (.istore_n 1, 1) := by decide +kernel
theorem d_Mo_findWhole_158 : decode prog_9_method_16_code 158 = .ok (.aload_n 0, 1) := by decide +kernel
theorem d_Mo_findWhole_159 : decode prog_9_method_16_code 159 = .ok (.lload 5, 2) := by decide +kernel
theorem d_Mo_findWhole_161 : decode prog_9_method_16_code 161 = .ok (.putfield 106, 3) := by decide +kernel
theorem d_Mo_findWhole_164 : decode prog_9_method_16_code 164 = .ok (.iconst 0, 1) := by decide +kernel
theorem d_Mo_findWhole_165 : decode prog_9_method_16_code 165 = .ok (.istore 7, 2) := by decide +kernel
theorem d_Mo_findWhole_167 : decode prog_9_method_16_code 167 = .ok (.iload 7, 2) := by decide +kernel
theorem d_Mo_findWhole_169 : decode prog_9_method_16_code 169 = .ok (.iconst 4, 1) := by decide +kernel
theorem d_Mo_findWhole_170 : decode prog_9_method_16_code 170 = .ok (.if_icmp .ge 23, 3) := by decide +kernel
theorem d_Mo_findWhole_173 : decode prog_9_method_16_code 173 = .ok (.aload_n 0, 1) := by decide +kernel
theorem d_Mo_findWhole_174 : decode prog_9_method_16_code 174 = .ok (.getfield 42, 3) := by decide +kernel
theorem d_Mo_findWhole_177 : decode prog_9_method_16_code 177 = .ok (.iload 7, 2) := by decide +kernel
theorem d_Mo_findWhole_179 : decode prog_9_method_16_code 179 = .ok (.aload_n 0, 1) := by decide +kernel
theorem d_Mo_findWhole_180 : decode prog_9_method_16_code 180 = .ok (.getfield 45, 3) := by decide +kernel
theorem d_Mo_findWhole_183 : decode prog_9_method_16_code 183 = .ok (.iload 7, 2) := by decide +kernel
theorem d_Mo_findWhole_185 : decode prog_9_method_16_code 185 = .ok (.iaload, 1) := by decide +kernel
theorem d_Mo_findWhole_186 : decode prog_9_method_16_code 186 = .ok (.iastore, 1) := by decide +kernel
theorem d_Mo_findWhole_187 : decode prog_9_method_16_code 187 = .ok (.iinc 7 1, 3) := by decide +kernel
theorem d_Mo_findWhole_190 : decode prog_9_method_16_code 190 = .ok (.goto (-23), 3) := by decide +kernel
theorem d_Mo_findWhole_193 : decode prog_9_method_16_code 193 = .ok (.iinc 2 1, 3) := by decide +kernel
theorem d_Mo_findWhole_196 : decode prog_9_method_16_code 196 = .ok (.goto (-192), 3) := by decide +kernel
theorem d_Mo_findWhole_199 : decode prog_9_method_16_code 199 = .ok (.iload_n 1, 1) := by decide +kernel
theorem d_Mo_findWhole_200 : decode prog_9_method_16_code 200 = .ok (.ireturn, 1) := by decide +kernel
theorem d_Mo_setLimit_0 : decode prog_9_method_17_code 0 = .ok (.iload_n 3, 1) := by decide +kernel
theorem d_Mo_setLimit_1 : decode prog_9_method_17_code 1 = .ok (.ifCond .eq 7, 3) := by decide +kernel
theorem d_Mo_setLimit_4 : decode prog_9_method_17_code 4 = .ok (.iconst (-1), 1) := by decide +kernel
theorem d_Mo_setLimit_5 : decode prog_9_method_17_code 5 = .ok (.goto 4, 3) := by decide +kernel
theorem d_Mo_setLimit_8 : decode prog_9_method_17_code 8 = .ok (.iconst 1, 1) := by decide +kernel
theorem d_Mo_setLimit_9 : decode prog_9_method_17_code 9 = .ok (.istore 4, 2) := by decide +kernel
theorem d_Mo_setLimit_11 : decode prog_9_method_17_code 11 = .ok (.iload_n 3, 1) := by decide +kernel
theorem d_Mo_setLimit_12 : decode prog_9_method_17_code 12 = .ok (.ifCond .eq 12, 3) := by decide +kernel
theorem d_Mo_setLimit_15 : decode prog_9_method_17_code 15 = .ok (.aload_n 0, 1) := by decide +kernel
theorem d_Mo_setLimit_16 : decode prog_9_method_17_code 16 = .ok (.getfield 26, 3) := by decide +kernel
theorem d_Mo_setLimit_19 : decode prog_9_method_17_code 19 = .ok (.iload_n 2, 1) := by decide +kernel
theorem d_Mo_setLimit_20 : decode prog_9_method_17_code 20 = .ok (.iaload, 1) := by decide +kernel
theorem d_Mo_setLimit_21 : decode prog_9_method_17_code 21 = .ok (.goto 9, 3) := by decide +kernel
theorem d_Mo_setLimit_24 : decode prog_9_method_17_code 24 = .ok (.aload_n 0, 1) := by decide +kernel
theorem d_Mo_setLimit_25 : decode prog_9_method_17_code 25 = .ok (.getfield 23, 3) := by decide +kernel
theorem d_Mo_setLimit_28 : decode prog_9_method_17_code 28 = .ok (.iload_n 2, 1) := by decide +kernel
theorem d_Mo_setLimit_29 : decode prog_9_method_17_code 29 = .ok (.iaload, 1) := by decide +kernel
theorem d_Mo_setLimit_30 : decode prog_9_method_17_code 30 = .ok (.istore 5, 2) := by decide +kernel
theorem d_Mo_setLimit_32 : decode prog_9_method_17_code 32 = .ok (.aload_n 0, 1) := by decide +kernel
theorem d_Mo_setLimit_33 : decode prog_9_method_17_code 33 = .ok (.getfield 51, 3) := by decide +kernel
theorem d_Mo_setLimit_36 : decode prog_9_method_17_code 36 = .ok (.iload_n 1, 1) := by decide +kernel
theorem d_Mo_setLimit_37 : decode prog_9_method_17_code 37 = .ok (.aload_n 0, 1) := by decide +kernel
theorem d_Mo_setLimit_38 : decode prog_9_method_17_code 38 = .ok (.getfield 19, 3) := by decide +kernel
theorem d_Mo_setLimit_41 : decode prog_9_method_17_code 41 = .ok (.iload_n 2, 1) := by decide +kernel
theorem d_Mo_setLimit_42 : decode prog_9_method_17_code 42 = .ok (.baload, 1) := by decide +kernel
theorem d_Mo_setLimit_43 : decode prog_9_method_17_code 43 = .ok (.bastore, 1) := by decide +kernel
theorem d_Mo_setLimit_44 : decode prog_9_method_17_code 44 = .ok (.iconst 0, 1) := by decide +kernel
theorem d_Mo_setLimit_45 : decode prog_9_method_17_code 45 = .ok (.istore 6, 2) := by decide +kernel
theorem d_Mo_setLimit_47 : decode prog_9_method_17_code 47 = .ok (.iload 6, 2) := by decide +kernel
theorem d_Mo_setLimit_49 : decode prog_9_method_17_code 49 = .ok (.iconst 4, 1) := by decide +kernel
theorem d_Mo_setLimit_50 : decode prog_9_method_17_code 50 = .ok (.if_icmp .ge 116, 3) := by decide +kernel
theorem d_Mo_setLimit_53 : decode prog_9_method_17_code 53 = .ok (.iload_n 2, 1) := by decide +kernel
theorem d_Mo_setLimit_54 : decode prog_9_method_17_code 54 = .ok (.iconst 5, 1) := by decide +kernel
theorem d_Mo_setLimit_55 : decode prog_9_method_17_code 55 = .ok (.if_icmp .ge 19, 3) := by decide +kernel
theorem d_Mo_setLimit_58 : decode prog_9_method_17_code 58 = .ok (.aload_n 0, 1) := by decide +kernel
theorem d_Mo_setLimit_59 : decode prog_9_method_17_code 59 = .ok (.getfield 16, 3) := by decide +kernel
theorem d_Mo_setLimit_62 : decode prog_9_method_17_code 62 = .ok (.iconst 5, 1) := by decide +kernel
theorem d_Mo_setLimit_63 : decode prog_9_method_17_code 63 = .ok (.iload 6, 2) := by decide +kernel
theorem d_Mo_setLimit_65 : decode prog_9_method_17_code 65 = .ok (.imul, 1) := by decide +kernel
theorem d_Mo_setLimit_66 : decode prog_9_method_17_code 66 = .ok (.iload_n 2, 1) := by decide +kernel
theorem d_Mo_setLimit_67 : decode prog_9_method_17_code 67 = .ok (.iadd, 1) := by decide +kernel
theorem d_Mo_setLimit_68 : decode prog_9_method_17_code 68 = .ok (.iaload, 1) := by decide +kernel
theorem d_Mo_setLimit_69 : decode prog_9_method_17_code 69 = .ok (.istore 7, 2) := by decide +kernel
theorem d_Mo_setLimit_71 : decode prog_9_method_17_code 71 = .ok (.goto 60, 3) := by decide +kernel
theorem d_Mo_setLimit_74 : decode prog_9_method_17_code 74 = .ok (.iload_n 2, 1) := by decide +kernel
theorem d_Mo_setLimit_75 : decode prog_9_method_17_code 75 = .ok (.bipush 7, 2) := by decide +kernel
theorem d_Mo_setLimit_77 : decode prog_9_method_17_code 77 = .ok (.if_icmp .ge 51, 3) := by decide +kernel
theorem d_Mo_setLimit_80 : decode prog_9_method_17_code 80 = .ok (.aload_n 0, 1) := by decide +kernel
theorem d_Mo_setLimit_81 : decode prog_9_method_17_code 81 = .ok (.getfield 29, 3) := by decide +kernel
theorem d_Mo_setLimit_84 : decode prog_9_method_17_code 84 = .ok (.iload_n 2, 1) := by decide +kernel
theorem d_Mo_setLimit_85 : decode prog_9_method_17_code 85 = .ok (.iaload, 1) := by decide +kernel
theorem d_Mo_setLimit_86 : decode prog_9_method_17_code 86 = .ok (.aload_n 0, 1) := by decide +kernel
theorem d_Mo_setLimit_87 : decode prog_9_method_17_code 87 = .ok (.getfield 16, 3) := by decide +kernel
theorem d_Mo_setLimit_90 : decode prog_9_method_17_code 90 = .ok (.iconst 5, 1) := by decide +kernel
theorem d_Mo_setLimit_91 : decode prog_9_method_17_code 91 = .ok (.iload 6, 2) := by decide +kernel
theorem d_Mo_setLimit_93 : decode prog_9_method_17_code 93 = .ok (.imul, 1) := by decide +kernel
theorem d_Mo_setLimit_94 : decode prog_9_method_17_code 94 = .ok (.aload_n 0, 1) := by decide +kernel
theorem d_Mo_setLimit_95 : decode prog_9_method_17_code 95 = .ok (.getfield 32, 3) := by decide +kernel
theorem d_Mo_setLimit_98 : decode prog_9_method_17_code 98 = .ok (.iload_n 2, 1) := by decide +kernel
theorem d_Mo_setLimit_99 : decode prog_9_method_17_code 99 = .ok (.iaload, 1) := by decide +kernel
theorem d_Mo_setLimit_100 : decode prog_9_method_17_code 100 = .ok (.iadd, 1) := by decide +kernel
theorem d_Mo_setLimit_101 : decode prog_9_method_17_code 101 = .ok (.iaload, 1) := by decide +kernel
theorem d_Mo_setLimit_102 : decode prog_9_method_17_code 102 = .ok (.imul, 1) := by decide +kernel
theorem d_Mo_setLimit_103 : decode prog_9_method_17_code 103 = .ok (.iload 5, 2) := by decide +kernel
theorem d_Mo_setLimit_105 : decode prog_9_method_17_code 105 = .ok (.aload_n 0, 1) := by decide +kernel
theorem d_Mo_setLimit_106 : decode prog_9_method_17_code 106 = .ok (.getfield 16, 3) := by decide +kernel
theorem d_Mo_setLimit_109 : decode prog_9_method_17_code 109 = .ok (.iconst 5, 1) := by decide +kernel
theorem d_Mo_setLimit_110 : decode prog_9_method_17_code 110 = .ok (.iload 6, 2) := by decide +kernel
theorem d_Mo_setLimit_112 : decode prog_9_method_17_code 112 = .ok (.imul, 1) := by decide +kernel
theorem d_Mo_setLimit_113 : decode prog_9_method_17_code 113 = .ok (.aload_n 0, 1) := by decide +kernel
theorem d_Mo_setLimit_114 : decode prog_9_method_17_code 114 = .ok (.getfield 35, 3) := by decide +kernel
theorem d_Mo_setLimit_117 : decode prog_9_method_17_code 117 = .ok (.iload_n 2, 1) := by decide +kernel
theorem d_Mo_setLimit_118 : decode prog_9_method_17_code 118 = .ok (.iaload, 1) := by decide +kernel
theorem d_Mo_setLimit_119 : decode prog_9_method_17_code 119 = .ok (.iadd, 1) := by decide +kernel
theorem d_Mo_setLimit_120 : decode prog_9_method_17_code 120 = .ok (.iaload, 1) := by decide +kernel
theorem d_Mo_setLimit_121 : decode prog_9_method_17_code 121 = .ok (.imul, 1) := by decide +kernel
theorem d_Mo_setLimit_122 : decode prog_9_method_17_code 122 = .ok (.isub, 1) := by decide +kernel
theorem d_Mo_setLimit_123 : decode prog_9_method_17_code 123 = .ok (.istore 7, 2) := by decide +kernel
theorem d_Mo_setLimit_125 : decode prog_9_method_17_code 125 = .ok (.goto 6, 3) := by decide +kernel
theorem d_Mo_setLimit_128 : decode prog_9_method_17_code 128 = .ok (.iconst 1, 1) := by decide +kernel
theorem d_Mo_setLimit_129 : decode prog_9_method_17_code 129 = .ok (.istore 7, 2) := by decide +kernel
theorem d_Mo_setLimit_131 : decode prog_9_method_17_code 131 = .ok (.aload_n 0, 1) := by decide +kernel
theorem d_Mo_setLimit_132 : decode prog_9_method_17_code 132 = .ok (.getfield 48, 3) := by decide +kernel
theorem d_Mo_setLimit_135 : decode prog_9_method_17_code 135 = .ok (.iconst 5, 1) := by decide +kernel
theorem d_Mo_setLimit_136 : decode prog_9_method_17_code 136 = .ok (.iload_n 1, 1) := by decide +kernel
theorem d_Mo_setLimit_137 : decode prog_9_method_17_code 137 = .ok (.imul, 1) := by decide +kernel
theorem d_Mo_setLimit_138 : decode prog_9_method_17_code 138 = .ok (.iload 6, 2) := by decide +kernel
theorem d_Mo_setLimit_140 : decode prog_9_method_17_code 140 = .ok (.iadd, 1) := by decide +kernel
theorem d_Mo_setLimit_141 : decode prog_9_method_17_code 141 = .ok (.iload 6, 2) := by decide +kernel
theorem d_Mo_setLimit_143 : decode prog_9_method_17_code 143 = .ok (.aload_n 0, 1) := by decide +kernel
theorem d_Mo_setLimit_144 : decode prog_9_method_17_code 144 = .ok (.getfield 64, 3) := by decide +kernel
theorem d_Mo_setLimit_147 : decode prog_9_method_17_code 147 = .ok (.if_icmp .ge 11, 3) := by decide +kernel
theorem d_Mo_setLimit_150 : decode prog_9_method_17_code 150 = .ok (.iload 4, 2) := by decide +kernel
theorem d_Mo_setLimit_152 : decode prog_9_method_17_code 152 = .ok (.iload 7, 2) := by decide +kernel
theorem d_Mo_setLimit_154 : decode prog_9_method_17_code 154 = .ok (.imul, 1) := by decide +kernel
theorem d_Mo_setLimit_155 : decode prog_9_method_17_code 155 = .ok (.goto 4, 3) := by decide +kernel
theorem d_Mo_setLimit_158 : decode prog_9_method_17_code 158 = .ok (.iconst 0, 1) := by decide +kernel
theorem d_Mo_setLimit_159 : decode prog_9_method_17_code 159 = .ok (.iastore, 1) := by decide +kernel
theorem d_Mo_setLimit_160 : decode prog_9_method_17_code 160 = .ok (.iinc 6 1, 3) := by decide +kernel
theorem d_Mo_setLimit_163 : decode prog_9_method_17_code 163 = .ok (.goto (-116), 3) := by decide +kernel
theorem d_Mo_setLimit_166 : decode prog_9_method_17_code 166 = .ok (.aload_n 0, 1) := by decide +kernel
theorem d_Mo_setLimit_167 : decode prog_9_method_17_code 167 = .ok (.getfield 48, 3) := by decide +kernel
theorem d_Mo_setLimit_170 : decode prog_9_method_17_code 170 = .ok (.iconst 5, 1) := by decide +kernel
theorem d_Mo_setLimit_171 : decode prog_9_method_17_code 171 = .ok (.iload_n 1, 1) := by decide +kernel
theorem d_Mo_setLimit_172 : decode prog_9_method_17_code 172 = .ok (.imul, 1) := by decide +kernel
theorem d_Mo_setLimit_173 : decode prog_9_method_17_code 173 = .ok (.iconst 4, 1) := by decide +kernel
theorem d_Mo_setLimit_174 : decode prog_9_method_17_code 174 = .ok (.iadd, 1) := by decide +kernel
theorem d_Mo_setLimit_175 : decode prog_9_method_17_code 175 = .ok (.iload_n 2, 1) := by decide +kernel
theorem d_Mo_setLimit_176 : decode prog_9_method_17_code 176 = .ok (.iconst 5, 1) := by decide +kernel
theorem d_Mo_setLimit_177 : decode prog_9_method_17_code 177 = .ok (.if_icmp .lt 13, 3) := by decide +kernel
theorem d_Mo_setLimit_180 : decode prog_9_method_17_code 180 = .ok (.iload_n 2, 1) := by decide +kernel
theorem d_Mo_setLimit_181 : decode prog_9_method_17_code 181 = .ok (.bipush 7, 2) := by decide +kernel
theorem d_Mo_setLimit_183 : decode prog_9_method_17_code 183 = .ok (.if_icmp .ge 7, 3) := by decide +kernel
theorem d_Mo_setLimit_186 : decode prog_9_method_17_code 186 = .ok (.iconst 0, 1) := by decide +kernel
theorem d_Mo_setLimit_187 : decode prog_9_method_17_code 187 = .ok (.goto 8, 3) := by decide +kernel
theorem d_Mo_setLimit_190 : decode prog_9_method_17_code 190 = .ok (.iload 4, 2) := by decide +kernel
theorem d_Mo_setLimit_192 : decode prog_9_method_17_code 192 = .ok (.iload 5, 2) := by decide +kernel
theorem d_Mo_setLimit_194 : decode prog_9_method_17_code 194 = .ok (.imul, 1) := by decide +kernel
theorem d_Mo_setLimit_195 : decode prog_9_method_17_code 195 = .ok (.iastore, 1) := by decide +kernel
theorem d_Mo_setLimit_196 : decode prog_9_method_17_code 196 = .ok (.return_, 1) := by decide +kernel
theorem d_Mo_setLimits_0 : decode prog_9_method_18_code 0 = .ok (.iconst 0, 1) := by decide +kernel
theorem d_Mo_setLimits_1 : decode prog_9_method_18_code 1 = .ok (.istore_n 1, 1) := by decide +kernel
theorem d_Mo_setLimits_2 : decode prog_9_method_18_code 2 = .ok (.iload_n 1, 1) := by decide +kernel
theorem d_Mo_setLimits_3 : decode prog_9_method_18_code 3 = .ok (.bipush 8, 2) := by decide +kernel
theorem d_Mo_setLimits_5 : decode prog_9_method_18_code 5 = .ok (.if_icmp .ge 29, 3) := by decide +kernel
theorem d_Mo_setLimits_8 : decode prog_9_method_18_code 8 = .ok (.aload_n 0, 1) := by decide +kernel
theorem d_Mo_setLimits_9 : decode prog_9_method_18_code 9 = .ok (.iconst 2, 1) := by decide +kernel
theorem d_Mo_setLimits_10 : decode prog_9_method_18_code 10 = .ok (.iload_n 1, 1) := by decide +kernel
theorem d_Mo_setLimits_11 : decode prog_9_method_18_code 11 = .ok (.imul, 1) := by decide +kernel
theorem d_Mo_setLimits_12 : decode prog_9_method_18_code 12 = .ok (.iload_n 1, 1) := by decide +kernel
theorem d_Mo_setLimits_13 : decode prog_9_method_18_code 13 = .ok (.iconst 0, 1) := by decide +kernel
theorem d_Mo_setLimits_14 : decode prog_9_method_18_code 14 = .ok (.invokevirtual 110, 3) := by decide +kernel
theorem d_Mo_setLimits_17 : decode prog_9_method_18_code 17 = .ok (.aload_n 0, 1) := by decide +kernel
theorem d_Mo_setLimits_18 : decode prog_9_method_18_code 18 = .ok (.iconst 2, 1) := by decide +kernel
theorem d_Mo_setLimits_19 : decode prog_9_method_18_code 19 = .ok (.iload_n 1, 1) := by decide +kernel
theorem d_Mo_setLimits_20 : decode prog_9_method_18_code 20 = .ok (.imul, 1) := by decide +kernel
theorem d_Mo_setLimits_21 : decode prog_9_method_18_code 21 = .ok (.iconst 1, 1) := by decide +kernel
theorem d_Mo_setLimits_22 : decode prog_9_method_18_code 22 = .ok (.iadd, 1) := by decide +kernel
theorem d_Mo_setLimits_23 : decode prog_9_method_18_code 23 = .ok (.iload_n 1, 1) := by decide +kernel
theorem d_Mo_setLimits_24 : decode prog_9_method_18_code 24 = .ok (.iconst 1, 1) := by decide +kernel
theorem d_Mo_setLimits_25 : decode prog_9_method_18_code 25 = .ok (.invokevirtual 110, 3) := by decide +kernel
theorem d_Mo_setLimits_28 : decode prog_9_method_18_code 28 = .ok (.iinc 1 1, 3) := by decide +kernel
theorem d_Mo_setLimits_31 : decode prog_9_method_18_code 31 = .ok (.goto (-29), 3) := by decide +kernel
theorem d_Mo_setLimits_34 : decode prog_9_method_18_code 34 = .ok (.iconst 0, 1) := by decide +kernel
theorem d_Mo_setLimits_35 : decode prog_9_method_18_code 35 = .ok (.istore_n 1, 1) := by decide +kernel
theorem d_Mo_setLimits_36 : decode prog_9_method_18_code 36 = .ok (.iload_n 1, 1) := by decide +kernel
theorem d_Mo_setLimits_37 : decode prog_9_method_18_code 37 = .ok (.iconst 4, 1) := by decide +kernel
theorem d_Mo_setLimits_38 : decode prog_9_method_18_code 38 = .ok (.if_icmp .ge 128, 3) := by decide +kernel
theorem d_Mo_setLimits_41 : decode prog_9_method_18_code 41 = .ok (.iconst 0, 1) := by decide +kernel
theorem d_Mo_setLimits_42 : decode prog_9_method_18_code 42 = .ok (.istore_n 2, 1) := by decide +kernel
theorem d_Mo_setLimits_43 : decode prog_9_method_18_code 43 = .ok (.iload_n 2, 1) := by decide +kernel
theorem d_Mo_setLimits_44 : decode prog_9_method_18_code 44 = .ok (.iconst 2, 1) := by decide +kernel
theorem d_Mo_setLimits_45 : decode prog_9_method_18_code 45 = .ok (.if_icmp .ge 115, 3) := by decide +kernel
theorem d_Mo_setLimits_48 : decode prog_9_method_18_code 48 = .ok (.bipush 16, 2) := by decide +kernel
theorem d_Mo_setLimits_50 : decode prog_9_method_18_code 50 = .ok (.iconst 2, 1) := by decide +kernel
theorem d_Mo_setLimits_51 : decode prog_9_method_18_code 51 = .ok (.iload_n 1, 1) := by decide +kernel
theorem d_Mo_setLimits_52 : decode prog_9_method_18_code 52 = .ok (.imul, 1) := by decide +kernel
theorem d_Mo_setLimits_53 : decode prog_9_method_18_code 53 = .ok (.iadd, 1) := by decide +kernel
theorem d_Mo_setLimits_54 : decode prog_9_method_18_code 54 = .ok (.iload_n 2, 1) := by decide +kernel
theorem d_Mo_setLimits_55 : decode prog_9_method_18_code 55 = .ok (.iadd, 1) := by decide +kernel
theorem d_Mo_setLimits_56 : decode prog_9_method_18_code 56 = .ok (.istore_n 3, 1) := by decide +kernel
theorem d_Mo_setLimits_57 : decode prog_9_method_18_code 57 = .ok (.aload_n 0, 1) := by decide +kernel
theorem d_Mo_setLimits_58 : decode prog_9_method_18_code 58 = .ok (.getfield 51, 3) := by decide +kernel
theorem d_Mo_setLimits_61 : decode prog_9_method_18_code 61 = .ok (.iload_n 3, 1) := by decide +kernel
theorem d_Mo_setLimits_62 : decode prog_9_method_18_code 62 = .ok (.iload_n 1, 1) := by decide +kernel
theorem d_Mo_setLimits_63 : decode prog_9_method_18_code 63 = .ok (.aload_n 0, 1) := by decide +kernel
theorem d_Mo_setLimits_64 : decode prog_9_method_18_code 64 = .ok (.getfield 64, 3) := by decide +kernel
theorem d_Mo_setLimits_67 : decode prog_9_method_18_code 67 = .ok (.if_icmp .lt 7, 3) := by decide +kernel
theorem d_Mo_setLimits_70 : decode prog_9_method_18_code 70 = .ok (.iload_n 2, 1) := by decide +kernel
theorem d_Mo_setLimits_71 : decode prog_9_method_18_code 71 = .ok (.ifCond .ne 7, 3) := by decide +kernel
theorem d_Mo_setLimits_74 : decode prog_9_method_18_code 74 = .ok (.iconst 1, 1) := by decide +kernel
theorem d_Mo_setLimits_75 : decode prog_9_method_18_code 75 = .ok (.goto 4, 3) := by decide +kernel
theorem d_Mo_setLimits_78 : decode prog_9_method_18_code 78 = .ok (.iconst 0, 1) := by decide +kernel
theorem d_Mo_setLimits_79 : decode prog_9_method_18_code 79 = .ok (.bastore, 1) := by decide +kernel
theorem d_Mo_setLimits_80 : decode prog_9_method_18_code 80 = .ok (.iconst 0, 1) := by decide +kernel
theorem d_Mo_setLimits_81 : decode prog_9_method_18_code 81 = .ok (.istore 4, 2) := by decide +kernel
theorem d_Mo_setLimits_83 : decode prog_9_method_18_code 83 = .ok (.iload 4, 2) := by decide +kernel
theorem d_Mo_setLimits_85 : decode prog_9_method_18_code 85 = .ok (.iconst 4, 1) := by decide +kernel
theorem d_Mo_setLimits_86 : decode prog_9_method_18_code 86 = .ok (.if_icmp .ge 35, 3) := by decide +kernel
theorem d_Mo_setLimits_89 : decode prog_9_method_18_code 89 = .ok (.aload_n 0, 1) := by decide +kernel
theorem d_Mo_setLimits_90 : decode prog_9_method_18_code 90 = .ok (.getfield 48, 3) := by decide +kernel
theorem d_Mo_setLimits_93 : decode prog_9_method_18_code 93 = .ok (.iconst 5, 1) := by decide +kernel
theorem d_Mo_setLimits_94 : decode prog_9_method_18_code 94 = .ok (.iload_n 3, 1) := by decide +kernel
theorem d_Mo_setLimits_95 : decode prog_9_method_18_code 95 = .ok (.imul, 1) := by decide +kernel
theorem d_Mo_setLimits_96 : decode prog_9_method_18_code 96 = .ok (.iload 4, 2) := by decide +kernel
theorem d_Mo_setLimits_98 : decode prog_9_method_18_code 98 = .ok (.iadd, 1) := by decide +kernel
theorem d_Mo_setLimits_99 : decode prog_9_method_18_code 99 = .ok (.iload 4, 2) := by decide +kernel
theorem d_Mo_setLimits_101 : decode prog_9_method_18_code 101 = .ok (.iload_n 1, 1) := by decide +kernel
theorem d_Mo_setLimits_102 : decode prog_9_method_18_code 102 = .ok (.if_icmp .ne 11, 3) := by decide +kernel
theorem d_Mo_setLimits_105 : decode prog_9_method_18_code 105 = .ok (.iconst 1, 1) := by decide +kernel
theorem d_Mo_setLimits_106 : decode prog_9_method_18_code 106 = .ok (.iconst 2, 1) := by decide +kernel
theorem d_Mo_setLimits_107 : decode prog_9_method_18_code 107 = .ok (.iload_n 2, 1) := by decide +kernel
theorem d_Mo_setLimits_108 : decode prog_9_method_18_code 108 = .ok (.imul, 1) := by decide +kernel
theorem d_Mo_setLimits_109 : decode prog_9_method_18_code 109 = .ok (.isub, 1) := by decide +kernel
theorem d_Mo_setLimits_110 : decode prog_9_method_18_code 110 = .ok (.goto 4, 3) := by decide +kernel
theorem d_Mo_setLimits_113 : decode prog_9_method_18_code 113 = .ok (.iconst 0, 1) := by decide +kernel
theorem d_Mo_setLimits_114 : decode prog_9_method_18_code 114 = .ok (.iastore, 1) := by decide +kernel
theorem d_Mo_setLimits_115 : decode prog_9_method_18_code 115 = .ok (.iinc 4 1, 3) := by decide +kernel
theorem d_Mo_setLimits_118 : decode prog_9_method_18_code 118 = .ok (.goto (-35), 3) := by decide +kernel
theorem d_Mo_setLimits_121 : decode prog_9_method_18_code 121 = .ok (.aload_n 0, 1) := by decide +kernel
theorem d_Mo_setLimits_122 : decode prog_9_method_18_code 122 = .ok (.getfield 48, 3) := by decide +kernel
theorem d_Mo_setLimits_125 : decode prog_9_method_18_code 125 = .ok (.iconst 5, 1) := by decide +kernel
theorem d_Mo_setLimits_126 : decode prog_9_method_18_code 126 = .ok (.iload_n 3, 1) := by decide +kernel
theorem d_Mo_setLimits_127 : decode prog_9_method_18_code 127 = .ok (.imul, 1) := by decide +kernel
theorem d_Mo_setLimits_128 : decode prog_9_method_18_code 128 = .ok (.iconst 4, 1) := by decide +kernel
theorem d_Mo_setLimits_129 : decode prog_9_method_18_code 129 = .ok (.iadd, 1) := by decide +kernel
theorem d_Mo_setLimits_130 : decode prog_9_method_18_code 130 = .ok (.iload_n 2, 1) := by decide +kernel
theorem d_Mo_setLimits_131 : decode prog_9_method_18_code 131 = .ok (.ifCond .eq 11, 3) := by decide +kernel
theorem d_Mo_setLimits_134 : decode prog_9_method_18_code 134 = .ok (.iload_n 1, 1) := by decide +kernel
theorem d_Mo_setLimits_135 : decode prog_9_method_18_code 135 = .ok (.aload_n 0, 1) := by decide +kernel
theorem d_Mo_setLimits_136 : decode prog_9_method_18_code 136 = .ok (.getfield 64, 3) := by decide +kernel
theorem d_Mo_setLimits_139 : decode prog_9_method_18_code 139 = .ok (.if_icmp .lt 7, 3) := by decide +kernel
theorem d_Mo_setLimits_142 : decode prog_9_method_18_code 142 = .ok (.iconst 0, 1) := by decide +kernel
theorem d_Mo_setLimits_143 : decode prog_9_method_18_code 143 = .ok (.goto 10, 3) := by decide +kernel
theorem d_Mo_setLimits_146 : decode prog_9_method_18_code 146 = .ok (.aload_n 0, 1) := by decide +kernel
theorem d_Mo_setLimits_147 : decode prog_9_method_18_code 147 = .ok (.getfield 7, 3) := by decide +kernel
theorem d_Mo_setLimits_150 : decode prog_9_method_18_code 150 = .ok (.iload_n 1, 1) := by decide +kernel
theorem d_Mo_setLimits_151 : decode prog_9_method_18_code 151 = .ok (.iaload, 1) := by decide +kernel
theorem d_Mo_setLimits_152 : decode prog_9_method_18_code 152 = .ok (.ineg, 1) := by decide +kernel
theorem d_Mo_setLimits_153 : decode prog_9_method_18_code 153 = .ok (.iastore, 1) := by decide +kernel
theorem d_Mo_setLimits_154 : decode prog_9_method_18_code 154 = .ok (.iinc 2 1, 3) := by decide +kernel
theorem d_Mo_setLimits_157 : decode prog_9_method_18_code 157 = .ok (.goto (-114), 3) := by decide +kernel
theorem d_Mo_setLimits_160 : decode prog_9_method_18_code 160 = .ok (.iinc 1 1, 3) := by decide +kernel
theorem d_Mo_setLimits_163 : decode prog_9_method_18_code 163 = .ok (.goto (-127), 3) := by decide +kernel
theorem d_Mo_setLimits_166 : decode prog_9_method_18_code 166 = .ok (.return_, 1) := by decide +kernel
theorem d_Mo_at_0 : decode prog_9_method_19_code 0 = .ok (.aload_n 0, 1) := by decide +kernel
theorem d_Mo_at_1 : decode prog_9_method_19_code 1 = .ok (.getfield 48, 3) := by decide +kernel
theorem d_Mo_at_4 : decode prog_9_method_19_code 4 = .ok (.iconst 5, 1) := by decide +kernel
theorem d_Mo_at_5 : decode prog_9_method_19_code 5 = .ok (.aload_n 0, 1) := by decide +kernel
theorem d_Mo_at_6 : decode prog_9_method_19_code 6 = .ok (.getfield 54, 3) := by decide +kernel
theorem d_Mo_at_9 : decode prog_9_method_19_code 9 = .ok (.iload_n 1, 1) := by decide +kernel
theorem d_Mo_at_10 : decode prog_9_method_19_code 10 = .ok (.iaload, 1) := by decide +kernel
theorem d_Mo_at_11 : decode prog_9_method_19_code 11 = .ok (.imul, 1) := by decide +kernel
theorem d_Mo_at_12 : decode prog_9_method_19_code 12 = .ok (.iload_n 2, 1) := by decide +kernel
theorem d_Mo_at_13 : decode prog_9_method_19_code 13 = .ok (.iload_n 3, 1) := by decide +kernel
theorem d_Mo_at_14 : decode prog_9_method_19_code 14 = .ok (.if_icmp .ne 7, 3) := by decide +kernel
theorem d_Mo_at_17 : decode prog_9_method_19_code 17 = .ok (.iconst 4, 1) := by decide +kernel
theorem d_Mo_at_18 : decode prog_9_method_19_code 18 = .ok (.goto 4, 3) := by decide +kernel
theorem d_Mo_at_21 : decode prog_9_method_19_code 21 = .ok (.iload_n 2, 1) := by decide +kernel
theorem d_Mo_at_22 : decode prog_9_method_19_code 22 = .ok (.iadd, 1) := by decide +kernel
theorem d_Mo_at_23 : decode prog_9_method_19_code 23 = .ok (.iaload, 1) := by decide +kernel
theorem d_Mo_at_24 : decode prog_9_method_19_code 24 = .ok (.i2l, 1) := by decide +kernel
theorem d_Mo_at_25 : decode prog_9_method_19_code 25 = .ok (.lreturn, 1) := by decide +kernel
theorem d_Mo_minor_0 : decode prog_9_method_20_code 0 = .ok (.aload_n 0, 1) := by decide +kernel
theorem d_Mo_minor_1 : decode prog_9_method_20_code 1 = .ok (.iload_n 1, 1) := by decide +kernel
theorem d_Mo_minor_2 : decode prog_9_method_20_code 2 = .ok (.iload_n 3, 1) := by decide +kernel
theorem d_Mo_minor_3 : decode prog_9_method_20_code 3 = .ok (.iload 5, 2) := by decide +kernel
theorem d_Mo_minor_5 : decode prog_9_method_20_code 5 = .ok (.invokevirtual 114, 3) := by decide +kernel
theorem d_Mo_minor_8 : decode prog_9_method_20_code 8 = .ok (.aload_n 0, 1) := by decide +kernel
theorem d_Mo_minor_9 : decode prog_9_method_20_code 9 = .ok (.iload_n 2, 1) := by decide +kernel
theorem d_Mo_minor_10 : decode prog_9_method_20_code 10 = .ok (.iload 4, 2) := by decide +kernel
theorem d_Mo_minor_12 : decode prog_9_method_20_code 12 = .ok (.iload 5, 2) := by decide +kernel
theorem d_Mo_minor_14 : decode prog_9_method_20_code 14 = .ok (.invokevirtual 114, 3) := by decide +kernel
theorem d_Mo_minor_17 : decode prog_9_method_20_code 17 = .ok (.lmul, 1) := by decide +kernel
theorem d_Mo_minor_18 : decode prog_9_method_20_code 18 = .ok (.aload_n 0, 1) := by decide +kernel
theorem d_Mo_minor_19 : decode prog_9_method_20_code 19 = .ok (.iload_n 1, 1) := by decide +kernel
theorem d_Mo_minor_20 : decode prog_9_method_20_code 20 = .ok (.iload 4, 2) := by decide +kernel
theorem d_Mo_minor_22 : decode prog_9_method_20_code 22 = .ok (.iload 5, 2) := by decide +kernel
theorem d_Mo_minor_24 : decode prog_9_method_20_code 24 = .ok (.invokevirtual 114, 3) := by decide +kernel
theorem d_Mo_minor_27 : decode prog_9_method_20_code 27 = .ok (.aload_n 0, 1) := by decide +kernel
theorem d_Mo_minor_28 : decode prog_9_method_20_code 28 = .ok (.iload_n 2, 1) := by decide +kernel
theorem d_Mo_minor_29 : decode prog_9_method_20_code 29 = .ok (.iload_n 3, 1) := by decide +kernel
theorem d_Mo_minor_30 : decode prog_9_method_20_code 30 = .ok (.iload 5, 2) := by decide +kernel
theorem d_Mo_minor_32 : decode prog_9_method_20_code 32 = .ok (.invokevirtual 114, 3) := by decide +kernel
theorem d_Mo_minor_35 : decode prog_9_method_20_code 35 = .ok (.lmul, 1) := by decide +kernel
theorem d_Mo_minor_36 : decode prog_9_method_20_code 36 = .ok (.lsub, 1) := by decide +kernel
theorem d_Mo_minor_37 : decode prog_9_method_20_code 37 = .ok (.lreturn, 1) := by decide +kernel
theorem d_Mo_determinant_0 : decode prog_9_method_21_code 0 = .ok (.aload_n 0, 1) := by decide +kernel
theorem d_Mo_determinant_1 : decode prog_9_method_21_code 1 = .ok (.iconst 0, 1) := by decide +kernel
theorem d_Mo_determinant_2 : decode prog_9_method_21_code 2 = .ok (.iconst 1, 1) := by decide +kernel
theorem d_Mo_determinant_3 : decode prog_9_method_21_code 3 = .ok (.iconst 0, 1) := by decide +kernel
theorem d_Mo_determinant_4 : decode prog_9_method_21_code 4 = .ok (.iconst 1, 1) := by decide +kernel
theorem d_Mo_determinant_5 : decode prog_9_method_21_code 5 = .ok (.iload_n 1, 1) := by decide +kernel
theorem d_Mo_determinant_6 : decode prog_9_method_21_code 6 = .ok (.invokevirtual 118, 3) := by decide +kernel
theorem d_Mo_determinant_9 : decode prog_9_method_21_code 9 = .ok (.aload_n 0, 1) := by decide +kernel
theorem d_Mo_determinant_10 : decode prog_9_method_21_code 10 = .ok (.iconst 2, 1) := by decide +kernel
theorem d_Mo_determinant_11 : decode prog_9_method_21_code 11 = .ok (.iconst 3, 1) := by decide +kernel
theorem d_Mo_determinant_12 : decode prog_9_method_21_code 12 = .ok (.iconst 2, 1) := by decide +kernel
theorem d_Mo_determinant_13 : decode prog_9_method_21_code 13 = .ok (.iconst 3, 1) := by decide +kernel
theorem d_Mo_determinant_14 : decode prog_9_method_21_code 14 = .ok (.iload_n 1, 1) := by decide +kernel
theorem d_Mo_determinant_15 : decode prog_9_method_21_code 15 = .ok (.invokevirtual 118, 3) := by decide +kernel
theorem d_Mo_determinant_18 : decode prog_9_method_21_code 18 = .ok (.lmul, 1) := by decide +kernel
theorem d_Mo_determinant_19 : decode prog_9_method_21_code 19 = .ok (.aload_n 0, 1) := by decide +kernel
theorem d_Mo_determinant_20 : decode prog_9_method_21_code 20 = .ok (.iconst 0, 1) := by decide +kernel
theorem d_Mo_determinant_21 : decode prog_9_method_21_code 21 = .ok (.iconst 1, 1) := by decide +kernel
theorem d_Mo_determinant_22 : decode prog_9_method_21_code 22 = .ok (.iconst 0, 1) := by decide +kernel
theorem d_Mo_determinant_23 : decode prog_9_method_21_code 23 = .ok (.iconst 2, 1) := by decide +kernel
theorem d_Mo_determinant_24 : decode prog_9_method_21_code 24 = .ok (.iload_n 1, 1) := by decide +kernel
theorem d_Mo_determinant_25 : decode prog_9_method_21_code 25 = .ok (.invokevirtual 118, 3) := by decide +kernel
theorem d_Mo_determinant_28 : decode prog_9_method_21_code 28 = .ok (.aload_n 0, 1) := by decide +kernel
theorem d_Mo_determinant_29 : decode prog_9_method_21_code 29 = .ok (.iconst 2, 1) := by decide +kernel
theorem d_Mo_determinant_30 : decode prog_9_method_21_code 30 = .ok (.iconst 3, 1) := by decide +kernel
theorem d_Mo_determinant_31 : decode prog_9_method_21_code 31 = .ok (.iconst 1, 1) := by decide +kernel
theorem d_Mo_determinant_32 : decode prog_9_method_21_code 32 = .ok (.iconst 3, 1) := by decide +kernel
theorem d_Mo_determinant_33 : decode prog_9_method_21_code 33 = .ok (.iload_n 1, 1) := by decide +kernel
theorem d_Mo_determinant_34 : decode prog_9_method_21_code 34 = .ok (.invokevirtual 118, 3) := by decide +kernel
theorem d_Mo_determinant_37 : decode prog_9_method_21_code 37 = .ok (.lmul, 1) := by decide +kernel
theorem d_Mo_determinant_38 : decode prog_9_method_21_code 38 = .ok (.lsub, 1) := by decide +kernel
theorem d_Mo_determinant_39 : decode prog_9_method_21_code 39 = .ok (.aload_n 0, 1) := by decide +kernel
theorem d_Mo_determinant_40 : decode prog_9_method_21_code 40 = .ok (.iconst 0, 1) := by decide +kernel
theorem d_Mo_determinant_41 : decode prog_9_method_21_code 41 = .ok (.iconst 1, 1) := by decide +kernel
theorem d_Mo_determinant_42 : decode prog_9_method_21_code 42 = .ok (.iconst 0, 1) := by decide +kernel
theorem d_Mo_determinant_43 : decode prog_9_method_21_code 43 = .ok (.iconst 3, 1) := by decide +kernel
theorem d_Mo_determinant_44 : decode prog_9_method_21_code 44 = .ok (.iload_n 1, 1) := by decide +kernel
theorem d_Mo_determinant_45 : decode prog_9_method_21_code 45 = .ok (.invokevirtual 118, 3) := by decide +kernel
theorem d_Mo_determinant_48 : decode prog_9_method_21_code 48 = .ok (.aload_n 0, 1) := by decide +kernel
theorem d_Mo_determinant_49 : decode prog_9_method_21_code 49 = .ok (.iconst 2, 1) := by decide +kernel
theorem d_Mo_determinant_50 : decode prog_9_method_21_code 50 = .ok (.iconst 3, 1) := by decide +kernel
theorem d_Mo_determinant_51 : decode prog_9_method_21_code 51 = .ok (.iconst 1, 1) := by decide +kernel
theorem d_Mo_determinant_52 : decode prog_9_method_21_code 52 = .ok (.iconst 2, 1) := by decide +kernel
theorem d_Mo_determinant_53 : decode prog_9_method_21_code 53 = .ok (.iload_n 1, 1) := by decide +kernel
theorem d_Mo_determinant_54 : decode prog_9_method_21_code 54 = .ok (.invokevirtual 118, 3) := by decide +kernel
theorem d_Mo_determinant_57 : decode prog_9_method_21_code 57 = .ok (.lmul, 1) := by decide +kernel
theorem d_Mo_determinant_58 : decode prog_9_method_21_code 58 = .ok (.ladd, 1) := by decide +kernel
theorem d_Mo_determinant_59 : decode prog_9_method_21_code 59 = .ok (.aload_n 0, 1) := by decide +kernel
theorem d_Mo_determinant_60 : decode prog_9_method_21_code 60 = .ok (.iconst 0, 1) := by decide +kernel
theorem d_Mo_determinant_61 : decode prog_9_method_21_code 61 = .ok (.iconst 1, 1) := by decide +kernel
theorem d_Mo_determinant_62 : decode prog_9_method_21_code 62 = .ok (.iconst 1, 1) := by decide +kernel
theorem d_Mo_determinant_63 : decode prog_9_method_21_code 63 = .ok (.iconst 2, 1) := by decide +kernel
theorem d_Mo_determinant_64 : decode prog_9_method_21_code 64 = .ok (.iload_n 1, 1) := by decide +kernel
theorem d_Mo_determinant_65 : decode prog_9_method_21_code 65 = .ok (.invokevirtual 118, 3) := by decide +kernel
theorem d_Mo_determinant_68 : decode prog_9_method_21_code 68 = .ok (.aload_n 0, 1) := by decide +kernel
theorem d_Mo_determinant_69 : decode prog_9_method_21_code 69 = .ok (.iconst 2, 1) := by decide +kernel
theorem d_Mo_determinant_70 : decode prog_9_method_21_code 70 = .ok (.iconst 3, 1) := by decide +kernel
theorem d_Mo_determinant_71 : decode prog_9_method_21_code 71 = .ok (.iconst 0, 1) := by decide +kernel
theorem d_Mo_determinant_72 : decode prog_9_method_21_code 72 = .ok (.iconst 3, 1) := by decide +kernel
theorem d_Mo_determinant_73 : decode prog_9_method_21_code 73 = .ok (.iload_n 1, 1) := by decide +kernel
theorem d_Mo_determinant_74 : decode prog_9_method_21_code 74 = .ok (.invokevirtual 118, 3) := by decide +kernel
theorem d_Mo_determinant_77 : decode prog_9_method_21_code 77 = .ok (.lmul, 1) := by decide +kernel
theorem d_Mo_determinant_78 : decode prog_9_method_21_code 78 = .ok (.ladd, 1) := by decide +kernel
theorem d_Mo_determinant_79 : decode prog_9_method_21_code 79 = .ok (.aload_n 0, 1) := by decide +kernel
theorem d_Mo_determinant_80 : decode prog_9_method_21_code 80 = .ok (.iconst 0, 1) := by decide +kernel
theorem d_Mo_determinant_81 : decode prog_9_method_21_code 81 = .ok (.iconst 1, 1) := by decide +kernel
theorem d_Mo_determinant_82 : decode prog_9_method_21_code 82 = .ok (.iconst 1, 1) := by decide +kernel
theorem d_Mo_determinant_83 : decode prog_9_method_21_code 83 = .ok (.iconst 3, 1) := by decide +kernel
theorem d_Mo_determinant_84 : decode prog_9_method_21_code 84 = .ok (.iload_n 1, 1) := by decide +kernel
theorem d_Mo_determinant_85 : decode prog_9_method_21_code 85 = .ok (.invokevirtual 118, 3) := by decide +kernel
theorem d_Mo_determinant_88 : decode prog_9_method_21_code 88 = .ok (.aload_n 0, 1) := by decide +kernel
theorem d_Mo_determinant_89 : decode prog_9_method_21_code 89 = .ok (.iconst 2, 1) := by decide +kernel
theorem d_Mo_determinant_90 : decode prog_9_method_21_code 90 = .ok (.iconst 3, 1) := by decide +kernel
theorem d_Mo_determinant_91 : decode prog_9_method_21_code 91 = .ok (.iconst 0, 1) := by decide +kernel
theorem d_Mo_determinant_92 : decode prog_9_method_21_code 92 = .ok (.iconst 2, 1) := by decide +kernel
theorem d_Mo_determinant_93 : decode prog_9_method_21_code 93 = .ok (.iload_n 1, 1) := by decide +kernel
theorem d_Mo_determinant_94 : decode prog_9_method_21_code 94 = .ok (.invokevirtual 118, 3) := by decide +kernel
theorem d_Mo_determinant_97 : decode prog_9_method_21_code 97 = .ok (.lmul, 1) := by decide +kernel
theorem d_Mo_determinant_98 : decode prog_9_method_21_code 98 = .ok (.lsub, 1) := by decide +kernel
theorem d_Mo_determinant_99 : decode prog_9_method_21_code 99 = .ok (.aload_n 0, 1) := by decide +kernel
theorem d_Mo_determinant_100 : decode prog_9_method_21_code 100 = .ok (.iconst 0, 1) := by decide +kernel
theorem d_Mo_determinant_101 : decode prog_9_method_21_code 101 = .ok (.iconst 1, 1) := by decide +kernel
theorem d_Mo_determinant_102 : decode prog_9_method_21_code 102 = .ok (.iconst 2, 1) := by decide +kernel
theorem d_Mo_determinant_103 : decode prog_9_method_21_code 103 = .ok (.iconst 3, 1) := by decide +kernel
theorem d_Mo_determinant_104 : decode prog_9_method_21_code 104 = .ok (.iload_n 1, 1) := by decide +kernel
theorem d_Mo_determinant_105 : decode prog_9_method_21_code 105 = .ok (.invokevirtual 118, 3) := by decide +kernel
theorem d_Mo_determinant_108 : decode prog_9_method_21_code 108 = .ok (.aload_n 0, 1) := by decide +kernel
theorem d_Mo_determinant_109 : decode prog_9_method_21_code 109 = .ok (.iconst 2, 1) := by decide +kernel
theorem d_Mo_determinant_110 : decode prog_9_method_21_code 110 = .ok (.iconst 3, 1) := by decide +kernel
theorem d_Mo_determinant_111 : decode prog_9_method_21_code 111 = .ok (.iconst 0, 1) := by decide +kernel
theorem d_Mo_determinant_112 : decode prog_9_method_21_code 112 = .ok (.iconst 1, 1) := by decide +kernel
theorem d_Mo_determinant_113 : decode prog_9_method_21_code 113 = .ok (.iload_n 1, 1) := by decide +kernel
theorem d_Mo_determinant_114 : decode prog_9_method_21_code 114 = .ok (.invokevirtual 118, 3) := by decide +kernel
theorem d_Mo_determinant_117 : decode prog_9_method_21_code 117 = .ok (.lmul, 1) := by decide +kernel
theorem d_Mo_determinant_118 : decode prog_9_method_21_code 118 = .ok (.ladd, 1) := by decide +kernel
theorem d_Mo_determinant_119 : decode prog_9_method_21_code 119 = .ok (.lreturn, 1) := by decide +kernel
theorem d_Mo_common_0 : decode prog_9_method_22_code 0 = .ok (.lload_n 0, 1) := by decide +kernel
theorem d_Mo_common_1 : decode prog_9_method_22_code 1 = .ok (.lconst 0, 1) := by decide +kernel
theorem d_Mo_common_2 : decode prog_9_method_22_code 2 = .ok (.lcmp, 1) := by decide +kernel
theorem d_Mo_common_3 : decode prog_9_method_22_code 3 = .ok (.ifCond .ge 8, 3) := by decide +kernel
theorem d_Mo_common_6 : decode prog_9_method_22_code 6 = .ok (.lload_n 0, 1) := by decide +kernel
theorem d_Mo_common_7 : decode prog_9_method_22_code 7 = .ok (.lneg, 1) := by decide +kernel
theorem d_Mo_common_8 : decode prog_9_method_22_code 8 = .ok (.goto 4, 3) := by decide +kernel
theorem d_Mo_common_11 : decode prog_9_method_22_code 11 = .ok (.lload_n 0, 1) := by decide +kernel
theorem d_Mo_common_12 : decode prog_9_method_22_code 12 = .ok (.lstore 4, 2) := by decide +kernel
theorem d_Mo_common_14 : decode prog_9_method_22_code 14 = .ok (.lload_n 2, 1) := by decide +kernel
theorem d_Mo_common_15 : decode prog_9_method_22_code 15 = .ok (.lconst 0, 1) := by decide +kernel
theorem d_Mo_common_16 : decode prog_9_method_22_code 16 = .ok (.lcmp, 1) := by decide +kernel
theorem d_Mo_common_17 : decode prog_9_method_22_code 17 = .ok (.ifCond .ge 8, 3) := by decide +kernel
theorem d_Mo_common_20 : decode prog_9_method_22_code 20 = .ok (.lload_n 2, 1) := by decide +kernel
theorem d_Mo_common_21 : decode prog_9_method_22_code 21 = .ok (.lneg, 1) := by decide +kernel
theorem d_Mo_common_22 : decode prog_9_method_22_code 22 = .ok (.goto 4, 3) := by decide +kernel
theorem d_Mo_common_25 : decode prog_9_method_22_code 25 = .ok (.lload_n 2, 1) := by decide +kernel
theorem d_Mo_common_26 : decode prog_9_method_22_code 26 = .ok (.lstore 6, 2) := by decide +kernel
theorem d_Mo_common_28 : decode prog_9_method_22_code 28 = .ok (.lload 4, 2) := by decide +kernel
theorem d_Mo_common_30 : decode prog_9_method_22_code 30 = .ok (.lconst 0, 1) := by decide +kernel
theorem d_Mo_common_31 : decode prog_9_method_22_code 31 = .ok (.lcmp, 1) := by decide +kernel
theorem d_Mo_common_32 : decode prog_9_method_22_code 32 = .ok (.ifCond .eq 21, 3) := by decide +kernel
theorem d_Mo_common_35 : decode prog_9_method_22_code 35 = .ok (.lload 6, 2) := by decide +kernel
theorem d_Mo_common_37 : decode prog_9_method_22_code 37 = .ok (.lload 4, 2) := by decide +kernel
theorem d_Mo_common_39 : decode prog_9_method_22_code 39 = .ok (.lrem, 1) := by decide +kernel
theorem d_Mo_common_40 : decode prog_9_method_22_code 40 = .ok (.lstore 8, 2) := by decide +kernel
theorem d_Mo_common_42 : decode prog_9_method_22_code 42 = .ok (.lload 4, 2) := by decide +kernel
theorem d_Mo_common_44 : decode prog_9_method_22_code 44 = .ok (.lstore 6, 2) := by decide +kernel
theorem d_Mo_common_46 : decode prog_9_method_22_code 46 = .ok (.lload 8, 2) := by decide +kernel
theorem d_Mo_common_48 : decode prog_9_method_22_code 48 = .ok (.lstore 4, 2) := by decide +kernel
theorem d_Mo_common_50 : decode prog_9_method_22_code 50 = .ok (.goto (-22), 3) := by decide +kernel
theorem d_Mo_common_53 : decode prog_9_method_22_code 53 = .ok (.lload 6, 2) := by decide +kernel
theorem d_Mo_common_55 : decode prog_9_method_22_code 55 = .ok (.lreturn, 1) := by decide +kernel
theorem d_Mo_meet_0 : decode prog_9_method_23_code 0 = .ok (.aload_n 0, 1) := by decide +kernel
theorem d_Mo_meet_1 : decode prog_9_method_23_code 1 = .ok (.aload_n 0, 1) := by decide +kernel
theorem d_Mo_meet_2 : decode prog_9_method_23_code 2 = .ok (.iconst 4, 1) := by decide +kernel
theorem d_Mo_meet_3 : decode prog_9_method_23_code 3 = .ok (.invokevirtual 122, 3) := by decide +kernel
theorem d_Mo_meet_6 : decode prog_9_method_23_code 6 = .ok (.putfield 126, 3) := by decide +kernel
theorem d_Mo_meet_9 : decode prog_9_method_23_code 9 = .ok (.aload_n 0, 1) := by decide +kernel
theorem d_Mo_meet_10 : decode prog_9_method_23_code 10 = .ok (.getfield 126, 3) := by decide +kernel
theorem d_Mo_meet_13 : decode prog_9_method_23_code 13 = .ok (.lconst 0, 1) := by decide +kernel
theorem d_Mo_meet_14 : decode prog_9_method_23_code 14 = .ok (.lcmp, 1) := by decide +kernel
theorem d_Mo_meet_15 : decode prog_9_method_23_code 15 = .ok (.ifCond .ne 5, 3) := by decide +kernel
theorem d_Mo_meet_18 : decode prog_9_method_23_code 18 = .ok (.iconst 0, 1) := by decide +kernel
theorem d_Mo_meet_19 : decode prog_9_method_23_code 19 = .ok (.ireturn, 1) := by decide +kernel
theorem d_Mo_meet_20 : decode prog_9_method_23_code 20 = .ok (.aload_n 0, 1) := by decide +kernel
theorem d_Mo_meet_21 : decode prog_9_method_23_code 21 = .ok (.getfield 126, 3) := by decide +kernel
theorem d_Mo_meet_24 : decode prog_9_method_23_code 24 = .ok (.lstore_n 1, 1) := by decide +kernel
theorem d_Mo_meet_25 : decode prog_9_method_23_code 25 = .ok (.iconst 0, 1) := by decide +kernel
theorem d_Mo_meet_26 : decode prog_9_method_23_code 26 = .ok (.istore_n 3, 1) := by decide +kernel
theorem d_Mo_meet_27 : decode prog_9_method_23_code 27 = .ok (.iload_n 3, 1) := by decide +kernel
theorem d_Mo_meet_28 : decode prog_9_method_23_code 28 = .ok (.iconst 4, 1) := by decide +kernel
theorem d_Mo_meet_29 : decode prog_9_method_23_code 29 = .ok (.if_icmp .ge 31, 3) := by decide +kernel
theorem d_Mo_meet_32 : decode prog_9_method_23_code 32 = .ok (.aload_n 0, 1) := by decide +kernel
theorem d_Mo_meet_33 : decode prog_9_method_23_code 33 = .ok (.getfield 57, 3) := by decide +kernel
theorem d_Mo_meet_36 : decode prog_9_method_23_code 36 = .ok (.iload_n 3, 1) := by decide +kernel
theorem d_Mo_meet_37 : decode prog_9_method_23_code 37 = .ok (.aload_n 0, 1) := by decide +kernel
theorem d_Mo_meet_38 : decode prog_9_method_23_code 38 = .ok (.iload_n 3, 1) := by decide +kernel
theorem d_Mo_meet_39 : decode prog_9_method_23_code 39 = .ok (.invokevirtual 122, 3) := by decide +kernel
theorem d_Mo_meet_42 : decode prog_9_method_23_code 42 = .ok (.lastore, 1) := by decide +kernel
theorem d_Mo_meet_43 : decode prog_9_method_23_code 43 = .ok (.aload_n 0, 1) := by decide +kernel
theorem d_Mo_meet_44 : decode prog_9_method_23_code 44 = .ok (.getfield 57, 3) := by decide +kernel
theorem d_Mo_meet_47 : decode prog_9_method_23_code 47 = .ok (.iload_n 3, 1) := by decide +kernel
theorem d_Mo_meet_48 : decode prog_9_method_23_code 48 = .ok (.laload, 1) := by decide +kernel
theorem d_Mo_meet_49 : decode prog_9_method_23_code 49 = .ok (.lload_n 1, 1) := by decide +kernel
theorem d_Mo_meet_50 : decode prog_9_method_23_code 50 = .ok (.invokestatic 129, 3) := by decide +kernel
theorem d_Mo_meet_53 : decode prog_9_method_23_code 53 = .ok (.lstore_n 1, 1) := by decide +kernel
theorem d_Mo_meet_54 : decode prog_9_method_23_code 54 = .ok (.iinc 3 1, 3) := by decide +kernel
theorem d_Mo_meet_57 : decode prog_9_method_23_code 57 = .ok (.goto (-30), 3) := by decide +kernel
theorem d_Mo_meet_60 : decode prog_9_method_23_code 60 = .ok (.aload_n 0, 1) := by decide +kernel
theorem d_Mo_meet_61 : decode prog_9_method_23_code 61 = .ok (.getfield 126, 3) := by decide +kernel
theorem d_Mo_meet_64 : decode prog_9_method_23_code 64 = .ok (.lconst 0, 1) := by decide +kernel
theorem d_Mo_meet_65 : decode prog_9_method_23_code 65 = .ok (.lcmp, 1) := by decide +kernel
theorem d_Mo_meet_66 : decode prog_9_method_23_code 66 = .ok (.ifCond .ge 8, 3) := by decide +kernel
theorem d_Mo_meet_69 : decode prog_9_method_23_code 69 = .ok (.lload_n 1, 1) := by decide +kernel
theorem d_Mo_meet_70 : decode prog_9_method_23_code 70 = .ok (.lneg, 1) := by decide +kernel
theorem d_Mo_meet_71 : decode prog_9_method_23_code 71 = .ok (.goto 4, 3) := by decide +kernel
theorem d_Mo_meet_74 : decode prog_9_method_23_code 74 = .ok (.lload_n 1, 1) := by decide +kernel
theorem d_Mo_meet_75 : decode prog_9_method_23_code 75 = .ok (.lstore_n 1, 1) := by decide +kernel
theorem d_Mo_meet_76 : decode prog_9_method_23_code 76 = .ok (.iconst 0, 1) := by decide +kernel
theorem d_Mo_meet_77 : decode prog_9_method_23_code 77 = .ok (.istore_n 3, 1) := by decide +kernel
theorem d_Mo_meet_78 : decode prog_9_method_23_code 78 = .ok (.iload_n 3, 1) := by decide +kernel
theorem d_Mo_meet_79 : decode prog_9_method_23_code 79 = .ok (.iconst 4, 1) := by decide +kernel
theorem d_Mo_meet_80 : decode prog_9_method_23_code 80 = .ok (.if_icmp .ge 19, 3) := by decide +kernel
theorem d_Mo_meet_83 : decode prog_9_method_23_code 83 = .ok (.aload_n 0, 1) := by decide +kernel
theorem d_Mo_meet_84 : decode prog_9_method_23_code 84 = .ok (.getfield 57, 3) := by decide +kernel
theorem d_Mo_meet_87 : decode prog_9_method_23_code 87 = .ok (.iload_n 3, 1) := by decide +kernel
theorem d_Mo_meet_88 : decode prog_9_method_23_code 88 = .ok (.dup2, 1) := by decide +kernel
theorem d_Mo_meet_89 : decode prog_9_method_23_code 89 = .ok (.laload, 1) := by decide +kernel
theorem d_Mo_meet_90 : decode prog_9_method_23_code 90 = .ok (.lload_n 1, 1) := by decide +kernel
theorem d_Mo_meet_91 : decode prog_9_method_23_code 91 = .ok (.ldiv, 1) := by decide +kernel
theorem d_Mo_meet_92 : decode prog_9_method_23_code 92 = .ok (.lastore, 1) := by decide +kernel
theorem d_Mo_meet_93 : decode prog_9_method_23_code 93 = .ok (.iinc 3 1, 3) := by decide +kernel
theorem d_Mo_meet_96 : decode prog_9_method_23_code 96 = .ok (.goto (-18), 3) := by decide +kernel
theorem d_Mo_meet_99 : decode prog_9_method_23_code 99 = .ok (.aload_n 0, 1) := by decide +kernel
theorem d_Mo_meet_100 : decode prog_9_method_23_code 100 = .ok (.dup, 1) := by decide +kernel
theorem d_Mo_meet_101 : decode prog_9_method_23_code 101 = .ok (.getfield 126, 3) := by decide +kernel
theorem d_Mo_meet_104 : decode prog_9_method_23_code 104 = .ok (.lload_n 1, 1) := by decide +kernel
theorem d_Mo_meet_105 : decode prog_9_method_23_code 105 = .ok (.ldiv, 1) := by decide +kernel
theorem d_Mo_meet_106 : decode prog_9_method_23_code 106 = .ok (.putfield 126, 3) := by decide +kernel
theorem d_Mo_meet_109 : decode prog_9_method_23_code 109 = .ok (.iconst 1, 1) := by decide +kernel
theorem d_Mo_meet_110 : decode prog_9_method_23_code 110 = .ok (.ireturn, 1) := by decide +kernel
theorem d_Mo_isKept_0 : decode prog_9_method_24_code 0 = .ok (.lconst 0, 1) := by decide +kernel
theorem d_Mo_isKept_1 : decode prog_9_method_24_code 1 = .ok (.lstore_n 2, 1) := by decide +kernel
theorem d_Mo_isKept_2 : decode prog_9_method_24_code 2 = .ok (.lconst 0, 1) := by decide +kernel
theorem d_Mo_isKept_3 : decode prog_9_method_24_code 3 = .ok (.lstore 4, 2) := by decide +kernel
theorem d_Mo_isKept_5 : decode prog_9_method_24_code 5 = .ok (.iconst 0, 1) := by decide +kernel
theorem d_Mo_isKept_6 : decode prog_9_method_24_code 6 = .ok (.istore 6, 2) := by decide +kernel
theorem d_Mo_isKept_8 : decode prog_9_method_24_code 8 = .ok (.iload 6, 2) := by decide +kernel
theorem d_Mo_isKept_10 : decode prog_9_method_24_code 10 = .ok (.iconst 5, 1) := by decide +kernel
theorem d_Mo_isKept_11 : decode prog_9_method_24_code 11 = .ok (.if_icmp .ge 99, 3) := by decide +kernel
theorem d_Mo_isKept_14 : decode prog_9_method_24_code 14 = .ok (.iload 6, 2) := by decide +kernel
theorem d_Mo_isKept_16 : decode prog_9_method_24_code 16 = .ok (.iconst 4, 1) := by decide +kernel
theorem d_Mo_isKept_17 : decode prog_9_method_24_code 17 = .ok (.if_icmp .ge 13, 3) := by decide +kernel
theorem d_Mo_isKept_20 : decode prog_9_method_24_code 20 = .ok (.aload_n 0, 1) := by decide +kernel
theorem d_Mo_isKept_21 : decode prog_9_method_24_code 21 = .ok (.getfield 57, 3) := by decide +kernel
theorem d_Mo_isKept_24 : decode prog_9_method_24_code 24 = .ok (.iload 6, 2) := by decide +kernel
theorem d_Mo_isKept_26 : decode prog_9_method_24_code 26 = .ok (.laload, 1) := by decide +kernel
theorem d_Mo_isKept_27 : decode prog_9_method_24_code 27 = .ok (.goto 8, 3) := by decide +kernel
theorem d_Mo_isKept_30 : decode prog_9_method_24_code 30 = .ok (.aload_n 0, 1) := by decide +kernel
theorem d_Mo_isKept_31 : decode prog_9_method_24_code 31 = .ok (.getfield 126, 3) := by decide +kernel
theorem d_Mo_isKept_34 : decode prog_9_method_24_code 34 = .ok (.lneg, 1) := by decide +kernel
theorem d_Mo_isKept_35 : decode prog_9_method_24_code 35 = .ok (.lstore 7, 2) := by decide +kernel
theorem d_Mo_isKept_37 : decode prog_9_method_24_code 37 = .ok (.aload_n 0, 1) := by decide +kernel
theorem d_Mo_isKept_38 : decode prog_9_method_24_code 38 = .ok (.getfield 48, 3) := by decide +kernel
theorem d_Mo_isKept_41 : decode prog_9_method_24_code 41 = .ok (.iconst 5, 1) := by decide +kernel
theorem d_Mo_isKept_42 : decode prog_9_method_24_code 42 = .ok (.iload_n 1, 1) := by decide +kernel
theorem d_Mo_isKept_43 : decode prog_9_method_24_code 43 = .ok (.imul, 1) := by decide +kernel
theorem d_Mo_isKept_44 : decode prog_9_method_24_code 44 = .ok (.iload 6, 2) := by decide +kernel
theorem d_Mo_isKept_46 : decode prog_9_method_24_code 46 = .ok (.iadd, 1) := by decide +kernel
theorem d_Mo_isKept_47 : decode prog_9_method_24_code 47 = .ok (.iaload, 1) := by decide +kernel
theorem d_Mo_isKept_48 : decode prog_9_method_24_code 48 = .ok (.i2l, 1) := by decide +kernel
theorem d_Mo_isKept_49 : decode prog_9_method_24_code 49 = .ok (.lstore 9, 2) := by decide +kernel
theorem d_Mo_isKept_51 : decode prog_9_method_24_code 51 = .ok (.lload 7, 2) := by decide +kernel
theorem d_Mo_isKept_53 : decode prog_9_method_24_code 53 = .ok (.ldc2_w 133, 3) := by decide +kernel
theorem d_Mo_isKept_56 : decode prog_9_method_24_code 56 = .ok (.lrem, 1) := by decide +kernel
theorem d_Mo_isKept_57 : decode prog_9_method_24_code 57 = .ok (.lstore 11, 2) := by decide +kernel
theorem d_Mo_isKept_59 : decode prog_9_method_24_code 59 = .ok (.lload 11, 2) := by decide +kernel
theorem d_Mo_isKept_61 : decode prog_9_method_24_code 61 = .ok (.lconst 0, 1) := by decide +kernel
theorem d_Mo_isKept_62 : decode prog_9_method_24_code 62 = .ok (.lcmp, 1) := by decide +kernel
theorem d_Mo_isKept_63 : decode prog_9_method_24_code 63 = .ok (.ifCond .ge 12, 3) := by decide +kernel
theorem d_Mo_isKept_66 : decode prog_9_method_24_code 66 = .ok (.lload 11, 2) := by decide +kernel
theorem d_Mo_isKept_68 : decode prog_9_method_24_code 68 = .ok (.ldc2_w 133, 3) := by decide +kernel
theorem d_Mo_isKept_71 : decode prog_9_method_24_code 71 = .ok (.ladd, 1) := by decide +kernel
theorem d_Mo_isKept_72 : decode prog_9_method_24_code 72 = .ok (.goto 5, 3) := by decide +kernel
theorem d_Mo_isKept_75 : decode prog_9_method_24_code 75 = .ok (.lload 11, 2) := by decide +kernel
theorem d_Mo_isKept_77 : decode prog_9_method_24_code 77 = .ok (.lstore 11, 2) := by decide +kernel
theorem d_Mo_isKept_79 : decode prog_9_method_24_code 79 = .ok (.lload_n 2, 1) := by decide +kernel
theorem d_Mo_isKept_80 : decode prog_9_method_24_code 80 = .ok (.lload 9, 2) := by decide +kernel
theorem d_Mo_isKept_82 : decode prog_9_method_24_code 82 = .ok (.lload 7, 2) := by decide +kernel
theorem d_Mo_isKept_84 : decode prog_9_method_24_code 84 = .ok (.lload 11, 2) := by decide +kernel
theorem d_Mo_isKept_86 : decode prog_9_method_24_code 86 = .ok (.lsub, 1) := by decide +kernel
theorem d_Mo_isKept_87 : decode prog_9_method_24_code 87 = .ok (.ldc2_w 133, 3) := by decide +kernel
theorem d_Mo_isKept_90 : decode prog_9_method_24_code 90 = .ok (.ldiv, 1) := by decide +kernel
theorem d_Mo_isKept_91 : decode prog_9_method_24_code 91 = .ok (.lmul, 1) := by decide +kernel
theorem d_Mo_isKept_92 : decode prog_9_method_24_code 92 = .ok (.ladd, 1) := by decide +kernel
theorem d_Mo_isKept_93 : decode prog_9_method_24_code 93 = .ok (.lstore_n 2, 1) := by decide +kernel
theorem d_Mo_isKept_94 : decode prog_9_method_24_code 94 = .ok (.lload 4, 2) := by decide +kernel
theorem d_Mo_isKept_96 : decode prog_9_method_24_code 96 = .ok (.lload 9, 2) := by decide +kernel
theorem d_Mo_isKept_98 : decode prog_9_method_24_code 98 = .ok (.lload 11, 2) := by decide +kernel
theorem d_Mo_isKept_100 : decode prog_9_method_24_code 100 = .ok (.lmul, 1) := by decide +kernel
theorem d_Mo_isKept_101 : decode prog_9_method_24_code 101 = .ok (.ladd, 1) := by decide +kernel
theorem d_Mo_isKept_102 : decode prog_9_method_24_code 102 = .ok (.lstore 4, 2) := by decide +kernel
theorem d_Mo_isKept_104 : decode prog_9_method_24_code 104 = .ok (.iinc 6 1, 3) := by decide +kernel
theorem d_Mo_isKept_107 : decode prog_9_method_24_code 107 = .ok (.goto (-99), 3) := by decide +kernel
theorem d_Mo_isKept_110 : decode prog_9_method_24_code 110 = .ok (.lload 4, 2) := by decide +kernel
theorem d_Mo_isKept_112 : decode prog_9_method_24_code 112 = .ok (.ldc2_w 133, 3) := by decide +kernel
theorem d_Mo_isKept_115 : decode prog_9_method_24_code 115 = .ok (.lrem, 1) := by decide +kernel
theorem d_Mo_isKept_116 : decode prog_9_method_24_code 116 = .ok (.lstore 6, 2) := by decide +kernel
theorem d_Mo_isKept_118 : decode prog_9_method_24_code 118 = .ok (.lload 6, 2) := by decide +kernel
theorem d_Mo_isKept_120 : decode prog_9_method_24_code 120 = .ok (.lconst 0, 1) := by decide +kernel
theorem d_Mo_isKept_121 : decode prog_9_method_24_code 121 = .ok (.lcmp, 1) := by decide +kernel
theorem d_Mo_isKept_122 : decode prog_9_method_24_code 122 = .ok (.ifCond .ge 12, 3) := by decide +kernel
theorem d_Mo_isKept_125 : decode prog_9_method_24_code 125 = .ok (.lload 6, 2) := by decide +kernel
theorem d_Mo_isKept_127 : decode prog_9_method_24_code 127 = .ok (.ldc2_w 133, 3) := by decide +kernel
theorem d_Mo_isKept_130 : decode prog_9_method_24_code 130 = .ok (.ladd, 1) := by decide +kernel
theorem d_Mo_isKept_131 : decode prog_9_method_24_code 131 = .ok (.goto 5, 3) := by decide +kernel
theorem d_Mo_isKept_134 : decode prog_9_method_24_code 134 = .ok (.lload 6, 2) := by decide +kernel
theorem d_Mo_isKept_136 : decode prog_9_method_24_code 136 = .ok (.lstore 6, 2) := by decide +kernel
theorem d_Mo_isKept_138 : decode prog_9_method_24_code 138 = .ok (.lload_n 2, 1) := by decide +kernel
theorem d_Mo_isKept_139 : decode prog_9_method_24_code 139 = .ok (.lload 4, 2) := by decide +kernel
theorem d_Mo_isKept_141 : decode prog_9_method_24_code 141 = .ok (.lload 6, 2) := by decide +kernel
theorem d_Mo_isKept_143 : decode prog_9_method_24_code 143 = .ok (.lsub, 1) := by decide +kernel
theorem d_Mo_isKept_144 : decode prog_9_method_24_code 144 = .ok (.ldc2_w 133, 3) := by decide +kernel
theorem d_Mo_isKept_147 : decode prog_9_method_24_code 147 = .ok (.ldiv, 1) := by decide +kernel
theorem d_Mo_isKept_148 : decode prog_9_method_24_code 148 = .ok (.ladd, 1) := by decide +kernel
theorem d_Mo_isKept_149 : decode prog_9_method_24_code 149 = .ok (.lconst 0, 1) := by decide +kernel
theorem d_Mo_isKept_150 : decode prog_9_method_24_code 150 = .ok (.lcmp, 1) := by decide +kernel
theorem d_Mo_isKept_151 : decode prog_9_method_24_code 151 = .ok (.ifCond .lt 7, 3) := by decide +kernel
theorem d_Mo_isKept_154 : decode prog_9_method_24_code 154 = .ok (.iconst 1, 1) := by decide +kernel
theorem d_Mo_isKept_155 : decode prog_9_method_24_code 155 = .ok (.goto 4, 3) := by decide +kernel
theorem d_Mo_isKept_158 : decode prog_9_method_24_code 158 = .ok (.iconst 0, 1) := by decide +kernel
theorem d_Mo_isKept_159 : decode prog_9_method_24_code 159 = .ok (.ireturn, 1) := by decide +kernel
theorem d_Mo_keptRules_0 : decode prog_9_method_25_code 0 = .ok (.bipush 16, 2) := by decide +kernel
theorem d_Mo_keptRules_2 : decode prog_9_method_25_code 2 = .ok (.istore_n 1, 1) := by decide +kernel
theorem d_Mo_keptRules_3 : decode prog_9_method_25_code 3 = .ok (.iload_n 1, 1) := by decide +kernel
theorem d_Mo_keptRules_4 : decode prog_9_method_25_code 4 = .ok (.bipush 24, 2) := by decide +kernel
theorem d_Mo_keptRules_6 : decode prog_9_method_25_code 6 = .ok (.if_icmp .ge 19, 3) := by decide +kernel
theorem d_Mo_keptRules_9 : decode prog_9_method_25_code 9 = .ok (.aload_n 0, 1) := by decide +kernel
theorem d_Mo_keptRules_10 : decode prog_9_method_25_code 10 = .ok (.iload_n 1, 1) := by decide +kernel
theorem d_Mo_keptRules_11 : decode prog_9_method_25_code 11 = .ok (.invokevirtual 135, 3) := by decide +kernel
theorem d_Mo_keptRules_14 : decode prog_9_method_25_code 14 = .ok (.ifCond .ne 5, 3) := by decide +kernel
theorem d_Mo_keptRules_17 : decode prog_9_method_25_code 17 = .ok (.iconst (-1), 1) := by decide +kernel
theorem d_Mo_keptRules_18 : decode prog_9_method_25_code 18 = .ok (.ireturn, 1) := by decide +kernel
theorem d_Mo_keptRules_19 : decode prog_9_method_25_code 19 = .ok (.iinc 1 1, 3) := by decide +kernel
theorem d_Mo_keptRules_22 : decode prog_9_method_25_code 22 = .ok (.goto (-19), 3) := by decide +kernel
theorem d_Mo_keptRules_25 : decode prog_9_method_25_code 25 = .ok (.iconst 0, 1) := by decide +kernel
theorem d_Mo_keptRules_26 : decode prog_9_method_25_code 26 = .ok (.istore_n 1, 1) := by decide +kernel
theorem d_Mo_keptRules_27 : decode prog_9_method_25_code 27 = .ok (.iconst 0, 1) := by decide +kernel
theorem d_Mo_keptRules_28 : decode prog_9_method_25_code 28 = .ok (.istore_n 2, 1) := by decide +kernel
theorem d_Mo_keptRules_29 : decode prog_9_method_25_code 29 = .ok (.iload_n 2, 1) := by decide +kernel
theorem d_Mo_keptRules_30 : decode prog_9_method_25_code 30 = .ok (.bipush 8, 2) := by decide +kernel
theorem d_Mo_keptRules_32 : decode prog_9_method_25_code 32 = .ok (.if_icmp .ge 50, 3) := by decide +kernel
theorem d_Mo_keptRules_35 : decode prog_9_method_25_code 35 = .ok (.iload_n 1, 1) := by decide +kernel
theorem d_Mo_keptRules_36 : decode prog_9_method_25_code 36 = .ok (.aload_n 0, 1) := by decide +kernel
theorem d_Mo_keptRules_37 : decode prog_9_method_25_code 37 = .ok (.getfield 19, 3) := by decide +kernel
theorem d_Mo_keptRules_40 : decode prog_9_method_25_code 40 = .ok (.iload_n 2, 1) := by decide +kernel
theorem d_Mo_keptRules_41 : decode prog_9_method_25_code 41 = .ok (.baload, 1) := by decide +kernel
theorem d_Mo_keptRules_42 : decode prog_9_method_25_code 42 = .ok (.ifCond .eq 25, 3) := by decide +kernel
theorem d_Mo_keptRules_45 : decode prog_9_method_25_code 45 = .ok (.aload_n 0, 1) := by decide +kernel
theorem d_Mo_keptRules_46 : decode prog_9_method_25_code 46 = .ok (.iconst 2, 1) := by decide +kernel
theorem d_Mo_keptRules_47 : decode prog_9_method_25_code 47 = .ok (.iload_n 2, 1) := by decide +kernel
theorem d_Mo_keptRules_48 : decode prog_9_method_25_code 48 = .ok (.imul, 1) := by decide +kernel
theorem d_Mo_keptRules_49 : decode prog_9_method_25_code 49 = .ok (.invokevirtual 135, 3) := by decide +kernel
theorem d_Mo_keptRules_52 : decode prog_9_method_25_code 52 = .ok (.ifCond .eq 21, 3) := by decide +kernel
theorem d_Mo_keptRules_55 : decode prog_9_method_25_code 55 = .ok (.aload_n 0, 1) := by decide +kernel
theorem d_Mo_keptRules_56 : decode prog_9_method_25_code 56 = .ok (.iconst 2, 1) := by decide +kernel
theorem d_Mo_keptRules_57 : decode prog_9_method_25_code 57 = .ok (.iload_n 2, 1) := by decide +kernel
theorem d_Mo_keptRules_58 : decode prog_9_method_25_code 58 = .ok (.imul, 1) := by decide +kernel
theorem d_Mo_keptRules_59 : decode prog_9_method_25_code 59 = .ok (.iconst 1, 1) := by decide +kernel
theorem d_Mo_keptRules_60 : decode prog_9_method_25_code 60 = .ok (.iadd, 1) := by decide +kernel
theorem d_Mo_keptRules_61 : decode prog_9_method_25_code 61 = .ok (.invokevirtual 135, 3) := by decide +kernel
theorem d_Mo_keptRules_64 : decode prog_9_method_25_code 64 = .ok (.ifCond .eq 9, 3) := by decide +kernel
theorem d_Mo_keptRules_67 : decode prog_9_method_25_code 67 = .ok (.iconst 1, 1) := by decide +kernel
theorem d_Mo_keptRules_68 : decode prog_9_method_25_code 68 = .ok (.iload_n 2, 1) := by decide +kernel
theorem d_Mo_keptRules_69 : decode prog_9_method_25_code 69 = .ok (.ishl, 1) := by decide +kernel
theorem d_Mo_keptRules_70 : decode prog_9_method_25_code 70 = .ok (.goto 4, 3) := by decide +kernel
theorem d_Mo_keptRules_73 : decode prog_9_method_25_code 73 = .ok (.iconst 0, 1) := by decide +kernel
theorem d_Mo_keptRules_74 : decode prog_9_method_25_code 74 = .ok (.ior, 1) := by decide +kernel
theorem d_Mo_keptRules_75 : decode prog_9_method_25_code 75 = .ok (.istore_n 1, 1) := by decide +kernel
theorem d_Mo_keptRules_76 : decode prog_9_method_25_code 76 = .ok (.iinc 2 1, 3) := by decide +kernel
theorem d_Mo_keptRules_79 : decode prog_9_method_25_code 79 = .ok (.goto (-50), 3) := by decide +kernel
theorem d_Mo_keptRules_82 : decode prog_9_method_25_code 82 = .ok (.iload_n 1, 1) := by decide +kernel
theorem d_Mo_keptRules_83 : decode prog_9_method_25_code 83 = .ok (.ireturn, 1) := by decide +kernel
theorem d_Mo_isLess_0 : decode prog_9_method_26_code 0 = .ok (.lload_n 0, 1) := by decide +kernel
theorem d_Mo_isLess_1 : decode prog_9_method_26_code 1 = .ok (.lstore 8, 2) := by decide +kernel
theorem d_Mo_isLess_3 : decode prog_9_method_26_code 3 = .ok (.lload_n 2, 1) := by decide +kernel
theorem d_Mo_isLess_4 : decode prog_9_method_26_code 4 = .ok (.lstore 10, 2) := by decide +kernel
theorem d_Mo_isLess_6 : decode prog_9_method_26_code 6 = .ok (.lload 4, 2) := by decide +kernel
theorem d_Mo_isLess_8 : decode prog_9_method_26_code 8 = .ok (.lstore 12, 2) := by decide +kernel
theorem d_Mo_isLess_10 : decode prog_9_method_26_code 10 = .ok (.lload 6, 2) := by decide +kernel
theorem d_Mo_isLess_12 : decode prog_9_method_26_code 12 = .ok (.lstore 14, 2) := by decide +kernel
theorem d_Mo_isLess_14 : decode prog_9_method_26_code 14 = .ok (.iconst 0, 1) := by decide +kernel
theorem d_Mo_isLess_15 : decode prog_9_method_26_code 15 = .ok (.istore 16, 2) := by decide +kernel
theorem d_Mo_isLess_17 : decode prog_9_method_26_code 17 = .ok (.lload 8, 2) := by decide +kernel
theorem d_Mo_isLess_19 : decode prog_9_method_26_code 19 = .ok (.lload 10, 2) := by decide +kernel
theorem d_Mo_isLess_21 : decode prog_9_method_26_code 21 = .ok (.lrem, 1) := by decide +kernel
theorem d_Mo_isLess_22 : decode prog_9_method_26_code 22 = .ok (.lstore 17, 2) := by decide +kernel
theorem d_Mo_isLess_24 : decode prog_9_method_26_code 24 = .ok (.lload 17, 2) := by decide +kernel
theorem d_Mo_isLess_26 : decode prog_9_method_26_code 26 = .ok (.lconst 0, 1) := by decide +kernel
theorem d_Mo_isLess_27 : decode prog_9_method_26_code 27 = .ok (.lcmp, 1) := by decide +kernel
theorem d_Mo_isLess_28 : decode prog_9_method_26_code 28 = .ok (.ifCond .ge 11, 3) := by decide +kernel
theorem d_Mo_isLess_31 : decode prog_9_method_26_code 31 = .ok (.lload 17, 2) := by decide +kernel
theorem d_Mo_isLess_33 : decode prog_9_method_26_code 33 = .ok (.lload 10, 2) := by decide +kernel
theorem d_Mo_isLess_35 : decode prog_9_method_26_code 35 = .ok (.ladd, 1) := by decide +kernel
theorem d_Mo_isLess_36 : decode prog_9_method_26_code 36 = .ok (.goto 5, 3) := by decide +kernel
theorem d_Mo_isLess_39 : decode prog_9_method_26_code 39 = .ok (.lload 17, 2) := by decide +kernel
theorem d_Mo_isLess_41 : decode prog_9_method_26_code 41 = .ok (.lstore 17, 2) := by decide +kernel
theorem d_Mo_isLess_43 : decode prog_9_method_26_code 43 = .ok (.lload 12, 2) := by decide +kernel
theorem d_Mo_isLess_45 : decode prog_9_method_26_code 45 = .ok (.lload 14, 2) := by decide +kernel
theorem d_Mo_isLess_47 : decode prog_9_method_26_code 47 = .ok (.lrem, 1) := by decide +kernel
theorem d_Mo_isLess_48 : decode prog_9_method_26_code 48 = .ok (.lstore 19, 2) := by decide +kernel
theorem d_Mo_isLess_50 : decode prog_9_method_26_code 50 = .ok (.lload 19, 2) := by decide +kernel
theorem d_Mo_isLess_52 : decode prog_9_method_26_code 52 = .ok (.lconst 0, 1) := by decide +kernel
theorem d_Mo_isLess_53 : decode prog_9_method_26_code 53 = .ok (.lcmp, 1) := by decide +kernel
theorem d_Mo_isLess_54 : decode prog_9_method_26_code 54 = .ok (.ifCond .ge 11, 3) := by decide +kernel
theorem d_Mo_isLess_57 : decode prog_9_method_26_code 57 = .ok (.lload 19, 2) := by decide +kernel
theorem d_Mo_isLess_59 : decode prog_9_method_26_code 59 = .ok (.lload 14, 2) := by decide +kernel
theorem d_Mo_isLess_61 : decode prog_9_method_26_code 61 = .ok (.ladd, 1) := by decide +kernel
theorem d_Mo_isLess_62 : decode prog_9_method_26_code 62 = .ok (.goto 5, 3) := by decide +kernel
theorem d_Mo_isLess_65 : decode prog_9_method_26_code 65 = .ok (.lload 19, 2) := by decide +kernel
theorem d_Mo_isLess_67 : decode prog_9_method_26_code 67 = .ok (.lstore 19, 2) := by decide +kernel
theorem d_Mo_isLess_69 : decode prog_9_method_26_code 69 = .ok (.lload 8, 2) := by decide +kernel
theorem d_Mo_isLess_71 : decode prog_9_method_26_code 71 = .ok (.lload 17, 2) := by decide +kernel
theorem d_Mo_isLess_73 : decode prog_9_method_26_code 73 = .ok (.lsub, 1) := by decide +kernel
theorem d_Mo_isLess_74 : decode prog_9_method_26_code 74 = .ok (.lload 10, 2) := by decide +kernel
theorem d_Mo_isLess_76 : decode prog_9_method_26_code 76 = .ok (.ldiv, 1) := by decide +kernel
theorem d_Mo_isLess_77 : decode prog_9_method_26_code 77 = .ok (.lstore 21, 2) := by decide +kernel
theorem d_Mo_isLess_79 : decode prog_9_method_26_code 79 = .ok (.lload 12, 2) := by decide +kernel
theorem d_Mo_isLess_81 : decode prog_9_method_26_code 81 = .ok (.lload 19, 2) := by decide +kernel
theorem d_Mo_isLess_83 : decode prog_9_method_26_code 83 = .ok (.lsub, 1) := by decide +kernel
theorem d_Mo_isLess_84 : decode prog_9_method_26_code 84 = .ok (.lload 14, 2) := by decide +kernel
theorem d_Mo_isLess_86 : decode prog_9_method_26_code 86 = .ok (.ldiv, 1) := by decide +kernel
theorem d_Mo_isLess_87 : decode prog_9_method_26_code 87 = .ok (.lstore 23, 2) := by decide +kernel
theorem d_Mo_isLess_89 : decode prog_9_method_26_code 89 = .ok (.lload 21, 2) := by decide +kernel
theorem d_Mo_isLess_91 : decode prog_9_method_26_code 91 = .ok (.lload 23, 2) := by decide +kernel
theorem d_Mo_isLess_93 : decode prog_9_method_26_code 93 = .ok (.lcmp, 1) := by decide +kernel
theorem d_Mo_isLess_94 : decode prog_9_method_26_code 94 = .ok (.ifCond .eq 27, 3) := by decide +kernel
theorem d_Mo_isLess_97 : decode prog_9_method_26_code 97 = .ok (.lload 21, 2) := by decide +kernel
theorem d_Mo_isLess_99 : decode prog_9_method_26_code 99 = .ok (.lload 23, 2) := by decide +kernel
theorem d_Mo_isLess_101 : decode prog_9_method_26_code 101 = .ok (.lcmp, 1) := by decide +kernel
theorem d_Mo_isLess_102 : decode prog_9_method_26_code 102 = .ok (.ifCond .ge 7, 3) := by decide +kernel
theorem d_Mo_isLess_105 : decode prog_9_method_26_code 105 = .ok (.iconst 1, 1) := by decide +kernel
theorem d_Mo_isLess_106 : decode prog_9_method_26_code 106 = .ok (.goto 4, 3) := by decide +kernel
theorem d_Mo_isLess_109 : decode prog_9_method_26_code 109 = .ok (.iconst 0, 1) := by decide +kernel
theorem d_Mo_isLess_110 : decode prog_9_method_26_code 110 = .ok (.iload 16, 2) := by decide +kernel
theorem d_Mo_isLess_112 : decode prog_9_method_26_code 112 = .ok (.if_icmp .eq 7, 3) := by decide +kernel
theorem d_Mo_isLess_115 : decode prog_9_method_26_code 115 = .ok (.iconst 1, 1) := by decide +kernel
theorem d_Mo_isLess_116 : decode prog_9_method_26_code 116 = .ok (.goto 4, 3) := by decide +kernel
theorem d_Mo_isLess_119 : decode prog_9_method_26_code 119 = .ok (.iconst 0, 1) := by decide +kernel
theorem d_Mo_isLess_120 : decode prog_9_method_26_code 120 = .ok (.ireturn, 1) := by decide +kernel
theorem d_Mo_isLess_121 : decode prog_9_method_26_code 121 = .ok (.lload 17, 2) := by decide +kernel
theorem d_Mo_isLess_123 : decode prog_9_method_26_code 123 = .ok (.lconst 0, 1) := by decide +kernel
theorem d_Mo_isLess_124 : decode prog_9_method_26_code 124 = .ok (.lcmp, 1) := by decide +kernel
theorem d_Mo_isLess_125 : decode prog_9_method_26_code 125 = .ok (.ifCond .eq 10, 3) := by decide +kernel
theorem d_Mo_isLess_128 : decode prog_9_method_26_code 128 = .ok (.lload 19, 2) := by decide +kernel
theorem d_Mo_isLess_130 : decode prog_9_method_26_code 130 = .ok (.lconst 0, 1) := by decide +kernel
theorem d_Mo_isLess_131 : decode prog_9_method_26_code 131 = .ok (.lcmp, 1) := by decide +kernel
theorem d_Mo_isLess_132 : decode prog_9_method_26_code 132 = .ok (.ifCond .ne 34, 3) := by decide +kernel
theorem d_Mo_isLess_135 : decode prog_9_method_26_code 135 = .ok (.lload 17, 2) := by decide +kernel
theorem d_Mo_isLess_137 : decode prog_9_method_26_code 137 = .ok (.lload 19, 2) := by decide +kernel
theorem d_Mo_isLess_139 : decode prog_9_method_26_code 139 = .ok (.lcmp, 1) := by decide +kernel
theorem d_Mo_isLess_140 : decode prog_9_method_26_code 140 = .ok (.ifCond .eq 24, 3) := by decide +kernel
theorem d_Mo_isLess_143 : decode prog_9_method_26_code 143 = .ok (.lload 17, 2) := by decide +kernel
theorem d_Mo_isLess_145 : decode prog_9_method_26_code 145 = .ok (.lconst 0, 1) := by decide +kernel
theorem d_Mo_isLess_146 : decode prog_9_method_26_code 146 = .ok (.lcmp, 1) := by decide +kernel
theorem d_Mo_isLess_147 : decode prog_9_method_26_code 147 = .ok (.ifCond .ne 7, 3) := by decide +kernel
theorem d_Mo_isLess_150 : decode prog_9_method_26_code 150 = .ok (.iconst 1, 1) := by decide +kernel
theorem d_Mo_isLess_151 : decode prog_9_method_26_code 151 = .ok (.goto 4, 3) := by decide +kernel
theorem d_Mo_isLess_154 : decode prog_9_method_26_code 154 = .ok (.iconst 0, 1) := by decide +kernel
theorem d_Mo_isLess_155 : decode prog_9_method_26_code 155 = .ok (.iload 16, 2) := by decide +kernel
theorem d_Mo_isLess_157 : decode prog_9_method_26_code 157 = .ok (.if_icmp .eq 7, 3) := by decide +kernel
theorem d_Mo_isLess_160 : decode prog_9_method_26_code 160 = .ok (.iconst 1, 1) := by decide +kernel
theorem d_Mo_isLess_161 : decode prog_9_method_26_code 161 = .ok (.goto 4, 3) := by decide +kernel
theorem d_Mo_isLess_164 : decode prog_9_method_26_code 164 = .ok (.iconst 0, 1) := by decide +kernel
theorem d_Mo_isLess_165 : decode prog_9_method_26_code 165 = .ok (.ireturn, 1) := by decide +kernel
theorem d_Mo_isLess_166 : decode prog_9_method_26_code 166 = .ok (.lload 10, 2) := by decide +kernel
theorem d_Mo_isLess_168 : decode prog_9_method_26_code 168 = .ok (.lstore 8, 2) := by decide +kernel
theorem d_Mo_isLess_170 : decode prog_9_method_26_code 170 = .ok (.lload 17, 2) := by decide +kernel
theorem d_Mo_isLess_172 : decode prog_9_method_26_code 172 = .ok (.lstore 10, 2) := by decide +kernel
theorem d_Mo_isLess_174 : decode prog_9_method_26_code 174 = .ok (.lload 14, 2) := by decide +kernel
theorem d_Mo_isLess_176 : decode prog_9_method_26_code 176 = .ok (.lstore 12, 2) := by decide +kernel
theorem d_Mo_isLess_178 : decode prog_9_method_26_code 178 = .ok (.lload 19, 2) := by decide +kernel
theorem d_Mo_isLess_180 : decode prog_9_method_26_code 180 = .ok (.lstore 14, 2) := by decide +kernel
theorem d_Mo_isLess_182 : decode prog_9_method_26_code 182 = .ok (.iload 16, 2) := by decide +kernel
theorem d_Mo_isLess_184 : decode prog_9_method_26_code 184 = .ok (.ifCond .ne 7, 3) := by decide +kernel
theorem d_Mo_isLess_187 : decode prog_9_method_26_code 187 = .ok (.iconst 1, 1) := by decide +kernel
theorem d_Mo_isLess_188 : decode prog_9_method_26_code 188 = .ok (.goto 4, 3) := by decide +kernel
theorem d_Mo_isLess_191 : decode prog_9_method_26_code 191 = .ok (.iconst 0, 1) := by decide +kernel
theorem d_Mo_isLess_192 : decode prog_9_method_26_code 192 = .ok (.istore 16, 2) := by decide +kernel
theorem d_Mo_isLess_194 : decode prog_9_method_26_code 194 = .ok (.goto (-177), 3) := by decide +kernel
theorem d_Mo_lookAtCorner_0 : decode prog_9_method_27_code 0 = .ok (.aload_n 0, 1) := by decide +kernel
theorem d_Mo_lookAtCorner_1 : decode prog_9_method_27_code 1 = .ok (.invokevirtual 138, 3) := by decide +kernel
theorem d_Mo_lookAtCorner_4 : decode prog_9_method_27_code 4 = .ok (.ifCond .eq 10, 3) := by decide +kernel
theorem d_Mo_lookAtCorner_7 : decode prog_9_method_27_code 7 = .ok (.aload_n 0, 1) := by decide +kernel
theorem d_Mo_lookAtCorner_8 : decode prog_9_method_27_code 8 = .ok (.invokevirtual 142, 3) := by decide +kernel
theorem d_Mo_lookAtCorner_11 : decode prog_9_method_27_code 11 = .ok (.goto 4, 3) := by decide +kernel
theorem d_Mo_lookAtCorner_14 : decode prog_9_method_27_code 14 = .ok (.iconst (-1), 1) := by decide +kernel
theorem d_Mo_lookAtCorner_15 : decode prog_9_method_27_code 15 = .ok (.istore_n 1, 1) := by decide +kernel
theorem d_Mo_lookAtCorner_16 : decode prog_9_method_27_code 16 = .ok (.iload_n 1, 1) := by decide +kernel
theorem d_Mo_lookAtCorner_17 : decode prog_9_method_27_code 17 = .ok (.ifCond .ge 4, 3) := by decide +kernel
theorem d_Mo_lookAtCorner_20 : decode prog_9_method_27_code 20 = .ok (.return_, 1) := by decide +kernel
theorem d_Mo_lookAtCorner_21 : decode prog_9_method_27_code 21 = .ok (.aload_n 0, 1) := by decide +kernel
theorem d_Mo_lookAtCorner_22 : decode prog_9_method_27_code 22 = .ok (.getfield 61, 3) := by decide +kernel
theorem d_Mo_lookAtCorner_25 : decode prog_9_method_27_code 25 = .ok (.iload_n 1, 1) := by decide +kernel
theorem d_Mo_lookAtCorner_26 : decode prog_9_method_27_code 26 = .ok (.iconst 1, 1) := by decide +kernel
theorem d_Mo_lookAtCorner_27 : decode prog_9_method_27_code 27 = .ok (.bastore, 1) := by decide +kernel
theorem d_Mo_lookAtCorner_28 : decode prog_9_method_27_code 28 = .ok (.iload_n 1, 1) := by decide +kernel
theorem d_Mo_lookAtCorner_29 : decode prog_9_method_27_code 29 = .ok (.sipush 255, 3) := by decide +kernel
theorem d_Mo_lookAtCorner_32 : decode prog_9_method_27_code 32 = .ok (.if_icmp .ne 99, 3) := by decide +kernel
theorem d_Mo_lookAtCorner_35 : decode prog_9_method_27_code 35 = .ok (.lconst 0, 1) := by decide +kernel
theorem d_Mo_lookAtCorner_36 : decode prog_9_method_27_code 36 = .ok (.lstore_n 2, 1) := by decide +kernel
theorem d_Mo_lookAtCorner_37 : decode prog_9_method_27_code 37 = .ok (.iconst 0, 1) := by decide +kernel
theorem d_Mo_lookAtCorner_38 : decode prog_9_method_27_code 38 = .ok (.istore 4, 2) := by decide +kernel
theorem d_Mo_lookAtCorner_40 : decode prog_9_method_27_code 40 = .ok (.iload 4, 2) := by decide +kernel
theorem d_Mo_lookAtCorner_42 : decode prog_9_method_27_code 42 = .ok (.aload_n 0, 1) := by decide +kernel
theorem d_Mo_lookAtCorner_43 : decode prog_9_method_27_code 43 = .ok (.getfield 64, 3) := by decide +kernel
theorem d_Mo_lookAtCorner_46 : decode prog_9_method_27_code 46 = .ok (.if_icmp .ge 28, 3) := by decide +kernel
theorem d_Mo_lookAtCorner_49 : decode prog_9_method_27_code 49 = .ok (.lload_n 2, 1) := by decide +kernel
theorem d_Mo_lookAtCorner_50 : decode prog_9_method_27_code 50 = .ok (.aload_n 0, 1) := by decide +kernel
theorem d_Mo_lookAtCorner_51 : decode prog_9_method_27_code 51 = .ok (.getfield 57, 3) := by decide +kernel
theorem d_Mo_lookAtCorner_54 : decode prog_9_method_27_code 54 = .ok (.iload 4, 2) := by decide +kernel
theorem d_Mo_lookAtCorner_56 : decode prog_9_method_27_code 56 = .ok (.laload, 1) := by decide +kernel
theorem d_Mo_lookAtCorner_57 : decode prog_9_method_27_code 57 = .ok (.aload_n 0, 1) := by decide +kernel
theorem d_Mo_lookAtCorner_58 : decode prog_9_method_27_code 58 = .ok (.getfield 13, 3) := by decide +kernel
theorem d_Mo_lookAtCorner_61 : decode prog_9_method_27_code 61 = .ok (.iload 4, 2) := by decide +kernel
theorem d_Mo_lookAtCorner_63 : decode prog_9_method_27_code 63 = .ok (.iaload, 1) := by decide +kernel
theorem d_Mo_lookAtCorner_64 : decode prog_9_method_27_code 64 = .ok (.i2l, 1) := by decide +kernel
theorem d_Mo_lookAtCorner_65 : decode prog_9_method_27_code 65 = .ok (.lmul, 1) := by decide +kernel
theorem d_Mo_lookAtCorner_66 : decode prog_9_method_27_code 66 = .ok (.ladd, 1) := by decide +kernel
theorem d_Mo_lookAtCorner_67 : decode prog_9_method_27_code 67 = .ok (.lstore_n 2, 1) := by decide +kernel
theorem d_Mo_lookAtCorner_68 : decode prog_9_method_27_code 68 = .ok (.iinc 4 1, 3) := by decide +kernel
theorem d_Mo_lookAtCorner_71 : decode prog_9_method_27_code 71 = .ok (.goto (-31), 3) := by decide +kernel
theorem d_Mo_lookAtCorner_74 : decode prog_9_method_27_code 74 = .ok (.aload_n 0, 1) := by decide +kernel
theorem d_Mo_lookAtCorner_75 : decode prog_9_method_27_code 75 = .ok (.getfield 145, 3) := by decide +kernel
theorem d_Mo_lookAtCorner_78 : decode prog_9_method_27_code 78 = .ok (.lconst 0, 1) := by decide +kernel
theorem d_Mo_lookAtCorner_79 : decode prog_9_method_27_code 79 = .ok (.lcmp, 1) := by decide +kernel
theorem d_Mo_lookAtCorner_80 : decode prog_9_method_27_code 80 = .ok (.ifCond .eq 22, 3) := by decide +kernel
theorem d_Mo_lookAtCorner_83 : decode prog_9_method_27_code 83 = .ok (.lload_n 2, 1) := by decide +kernel
theorem d_Mo_lookAtCorner_84 : decode prog_9_method_27_code 84 = .ok (.aload_n 0, 1) := by decide +kernel
theorem d_Mo_lookAtCorner_85 : decode prog_9_method_27_code 85 = .ok (.getfield 126, 3) := by decide +kernel
theorem d_Mo_lookAtCorner_88 : decode prog_9_method_27_code 88 = .ok (.aload_n 0, 1) := by decide +kernel
theorem d_Mo_lookAtCorner_89 : decode prog_9_method_27_code 89 = .ok (.getfield 148, 3) := by decide +kernel
theorem d_Mo_lookAtCorner_92 : decode prog_9_method_27_code 92 = .ok (.aload_n 0, 1) := by decide +kernel
theorem d_Mo_lookAtCorner_93 : decode prog_9_method_27_code 93 = .ok (.getfield 145, 3) := by decide +kernel
theorem d_Mo_lookAtCorner_96 : decode prog_9_method_27_code 96 = .ok (.invokestatic 151, 3) := by decide +kernel
theorem d_Mo_lookAtCorner_99 : decode prog_9_method_27_code 99 = .ok (.ifCond .eq 32, 3) := by decide +kernel
theorem d_Mo_lookAtCorner_102 : decode prog_9_method_27_code 102 = .ok (.lload_n 2, 1) := by decide +kernel
theorem d_Mo_lookAtCorner_103 : decode prog_9_method_27_code 103 = .ok (.aload_n 0, 1) := by decide +kernel
theorem d_Mo_lookAtCorner_104 : decode prog_9_method_27_code 104 = .ok (.getfield 126, 3) := by decide +kernel
theorem d_Mo_lookAtCorner_107 : decode prog_9_method_27_code 107 = .ok (.invokestatic 129, 3) := by decide +kernel
theorem d_Mo_lookAtCorner_110 : decode prog_9_method_27_code 110 = .ok (.lstore 4, 2) := by decide +kernel
theorem d_Mo_lookAtCorner_112 : decode prog_9_method_27_code 112 = .ok (.aload_n 0, 1) := by decide +kernel
theorem d_Mo_lookAtCorner_113 : decode prog_9_method_27_code 113 = .ok (.lload_n 2, 1) := by decide +kernel
theorem d_Mo_lookAtCorner_114 : decode prog_9_method_27_code 114 = .ok (.lload 4, 2) := by decide +kernel
theorem d_Mo_lookAtCorner_116 : decode prog_9_method_27_code 116 = .ok (.ldiv, 1) := by decide +kernel
theorem d_Mo_lookAtCorner_117 : decode prog_9_method_27_code 117 = .ok (.putfield 148, 3) := by decide +kernel
theorem d_Mo_lookAtCorner_120 : decode prog_9_method_27_code 120 = .ok (.aload_n 0, 1) := by decide +kernel
theorem d_Mo_lookAtCorner_121 : decode prog_9_method_27_code 121 = .ok (.aload_n 0, 1) := by decide +kernel
theorem d_Mo_lookAtCorner_122 : decode prog_9_method_27_code 122 = .ok (.getfield 126, 3) := by decide +kernel
theorem d_Mo_lookAtCorner_125 : decode prog_9_method_27_code 125 = .ok (.lload 4, 2) := by decide +kernel
theorem d_Mo_lookAtCorner_127 : decode prog_9_method_27_code 127 = .ok (.ldiv, 1) := by decide +kernel
theorem d_Mo_lookAtCorner_128 : decode prog_9_method_27_code 128 = .ok (.putfield 145, 3) := by decide +kernel
theorem d_Mo_lookAtCorner_131 : decode prog_9_method_27_code 131 = .ok (.return_, 1) := by decide +kernel
theorem d_Mo_lookAtCorners_0 : decode prog_9_method_28_code 0 = .ok (.iconst 0, 1) := by decide +kernel
theorem d_Mo_lookAtCorners_1 : decode prog_9_method_28_code 1 = .ok (.istore_n 1, 1) := by decide +kernel
theorem d_Mo_lookAtCorners_2 : decode prog_9_method_28_code 2 = .ok (.iload_n 1, 1) := by decide +kernel
theorem d_Mo_lookAtCorners_3 : decode prog_9_method_28_code 3 = .ok (.sipush 256, 3) := by decide +kernel
theorem d_Mo_lookAtCorners_6 : decode prog_9_method_28_code 6 = .ok (.if_icmp .ge 16, 3) := by decide +kernel
theorem d_Mo_lookAtCorners_9 : decode prog_9_method_28_code 9 = .ok (.aload_n 0, 1) := by decide +kernel
theorem d_Mo_lookAtCorners_10 : decode prog_9_method_28_code 10 = .ok (.getfield 61, 3) := by decide +kernel
theorem d_Mo_lookAtCorners_13 : decode prog_9_method_28_code 13 = .ok (.iload_n 1, 1) := by decide +kernel
theorem d_Mo_lookAtCorners_14 : decode prog_9_method_28_code 14 = .ok (.iconst 0, 1) := by decide +kernel
theorem d_Mo_lookAtCorners_15 : decode prog_9_method_28_code 15 = .ok (.bastore, 1) := by decide +kernel
theorem d_Mo_lookAtCorners_16 : decode prog_9_method_28_code 16 = .ok (.iinc 1 1, 3) := by decide +kernel
theorem d_Mo_lookAtCorners_19 : decode prog_9_method_28_code 19 = .ok (.goto (-17), 3) := by decide +kernel
theorem d_Mo_lookAtCorners_22 : decode prog_9_method_28_code 22 = .ok (.aload_n 0, 1) := by decide +kernel
theorem d_Mo_lookAtCorners_23 : decode prog_9_method_28_code 23 = .ok (.lconst 0, 1) := by decide +kernel
theorem d_Mo_lookAtCorners_24 : decode prog_9_method_28_code 24 = .ok (.putfield 145, 3) := by decide +kernel
theorem d_Mo_lookAtCorners_27 : decode prog_9_method_28_code 27 = .ok (.iconst 0, 1) := by decide +kernel
theorem d_Mo_lookAtCorners_28 : decode prog_9_method_28_code 28 = .ok (.istore_n 1, 1) := by decide +kernel
theorem d_Mo_lookAtCorners_29 : decode prog_9_method_28_code 29 = .ok (.iload_n 1, 1) := by decide +kernel
theorem d_Mo_lookAtCorners_30 : decode prog_9_method_28_code 30 = .ok (.bipush 24, 2) := by decide +kernel
theorem d_Mo_lookAtCorners_32 : decode prog_9_method_28_code 32 = .ok (.if_icmp .ge 129, 3) := by decide +kernel
theorem d_Mo_lookAtCorners_35 : decode prog_9_method_28_code 35 = .ok (.iload_n 1, 1) := by decide +kernel
theorem d_Mo_lookAtCorners_36 : decode prog_9_method_28_code 36 = .ok (.iconst 1, 1) := by decide +kernel
theorem d_Mo_lookAtCorners_37 : decode prog_9_method_28_code 37 = .ok (.iadd, 1) := by decide +kernel
theorem d_Mo_lookAtCorners_38 : decode prog_9_method_28_code 38 = .ok (.istore_n 2, 1) := by decide +kernel
theorem d_Mo_lookAtCorners_39 : decode prog_9_method_28_code 39 = .ok (.iload_n 2, 1) := by decide +kernel
theorem d_Mo_lookAtCorners_40 : decode prog_9_method_28_code 40 = .ok (.bipush 24, 2) := by decide +kernel
theorem d_Mo_lookAtCorners_42 : decode prog_9_method_28_code 42 = .ok (.if_icmp .ge 113, 3) := by decide +kernel
theorem d_Mo_lookAtCorners_45 : decode prog_9_method_28_code 45 = .ok (.aload_n 0, 1) := by decide +kernel
theorem d_Mo_lookAtCorners_46 : decode prog_9_method_28_code 46 = .ok (.getfield 51, 3) := by decide +kernel
theorem d_Mo_lookAtCorners_49 : decode prog_9_method_28_code 49 = .ok (.iload_n 1, 1) := by decide +kernel
theorem d_Mo_lookAtCorners_50 : decode prog_9_method_28_code 50 = .ok (.baload, 1) := by decide +kernel
theorem d_Mo_lookAtCorners_51 : decode prog_9_method_28_code 51 = .ok (.ifCond .eq 104, 3) := by decide +kernel
theorem d_Mo_lookAtCorners_54 : decode prog_9_method_28_code 54 = .ok (.iload_n 2, 1) := by decide +kernel
theorem d_Mo_lookAtCorners_55 : decode prog_9_method_28_code 55 = .ok (.iconst 1, 1) := by decide +kernel
theorem d_Mo_lookAtCorners_56 : decode prog_9_method_28_code 56 = .ok (.iadd, 1) := by decide +kernel
theorem d_Mo_lookAtCorners_57 : decode prog_9_method_28_code 57 = .ok (.istore_n 3, 1) := by decide +kernel
theorem d_Mo_lookAtCorners_58 : decode prog_9_method_28_code 58 = .ok (.iload_n 3, 1) := by decide +kernel
theorem d_Mo_lookAtCorners_59 : decode prog_9_method_28_code 59 = .ok (.bipush 24, 2) := by decide +kernel
theorem d_Mo_lookAtCorners_61 : decode prog_9_method_28_code 61 = .ok (.if_icmp .ge 88, 3) := by decide +kernel
theorem d_Mo_lookAtCorners_64 : decode prog_9_method_28_code 64 = .ok (.aload_n 0, 1) := by decide +kernel
theorem d_Mo_lookAtCorners_65 : decode prog_9_method_28_code 65 = .ok (.getfield 51, 3) := by decide +kernel
theorem d_Mo_lookAtCorners_68 : decode prog_9_method_28_code 68 = .ok (.iload_n 2, 1) := by decide +kernel
theorem d_Mo_lookAtCorners_69 : decode prog_9_method_28_code 69 = .ok (.baload, 1) := by decide +kernel
theorem d_Mo_lookAtCorners_70 : decode prog_9_method_28_code 70 = .ok (.ifCond .eq 79, 3) := by decide +kernel
theorem d_Mo_lookAtCorners_73 : decode prog_9_method_28_code 73 = .ok (.iload_n 3, 1) := by decide +kernel
theorem d_Mo_lookAtCorners_74 : decode prog_9_method_28_code 74 = .ok (.iconst 1, 1) := by decide +kernel
theorem d_Mo_lookAtCorners_75 : decode prog_9_method_28_code 75 = .ok (.iadd, 1) := by decide +kernel
theorem d_Mo_lookAtCorners_76 : decode prog_9_method_28_code 76 = .ok (.istore 4, 2) := by decide +kernel
theorem d_Mo_lookAtCorners_78 : decode prog_9_method_28_code 78 = .ok (.iload 4, 2) := by decide +kernel
theorem d_Mo_lookAtCorners_80 : decode prog_9_method_28_code 80 = .ok (.bipush 24, 2) := by decide +kernel
theorem d_Mo_lookAtCorners_82 : decode prog_9_method_28_code 82 = .ok (.if_icmp .ge 61, 3) := by decide +kernel
theorem d_Mo_lookAtCorners_85 : decode prog_9_method_28_code 85 = .ok (.aload_n 0, 1) := by decide +kernel
theorem d_Mo_lookAtCorners_86 : decode prog_9_method_28_code 86 = .ok (.getfield 51, 3) := by decide +kernel
theorem d_Mo_lookAtCorners_89 : decode prog_9_method_28_code 89 = .ok (.iload_n 3, 1) := by decide +kernel
theorem d_Mo_lookAtCorners_90 : decode prog_9_method_28_code 90 = .ok (.baload, 1) := by decide +kernel
theorem d_Mo_lookAtCorners_91 : decode prog_9_method_28_code 91 = .ok (.ifCond .eq 52, 3) := by decide +kernel
theorem d_Mo_lookAtCorners_94 : decode prog_9_method_28_code 94 = .ok (.aload_n 0, 1) := by decide +kernel
theorem d_Mo_lookAtCorners_95 : decode prog_9_method_28_code 95 = .ok (.getfield 51, 3) := by decide +kernel
theorem d_Mo_lookAtCorners_98 : decode prog_9_method_28_code 98 = .ok (.iload 4, 2) := by decide +kernel
theorem d_Mo_lookAtCorners_100 : decode prog_9_method_28_code 100 = .ok (.baload, 1) := by decide +kernel
theorem d_Mo_lookAtCorners_101 : decode prog_9_method_28_code 101 = .ok (.ifCond .eq 36, 3) := by decide +kernel
theorem d_Mo_lookAtCorners_104 : decode prog_9_method_28_code 104 = .ok (.aload_n 0, 1) := by decide +kernel
theorem d_Mo_lookAtCorners_105 : decode prog_9_method_28_code 105 = .ok (.getfield 54, 3) := by decide +kernel
theorem d_Mo_lookAtCorners_108 : decode prog_9_method_28_code 108 = .ok (.iconst 0, 1) := by decide +kernel
theorem d_Mo_lookAtCorners_109 : decode prog_9_method_28_code 109 = .ok (.iload_n 1, 1) := by decide +kernel
theorem d_Mo_lookAtCorners_110 : decode prog_9_method_28_code 110 = .ok (.iastore, 1) := by decide +kernel
theorem d_Mo_lookAtCorners_111 : decode prog_9_method_28_code 111 = .ok (.aload_n 0, 1) := by decide +kernel
theorem d_Mo_lookAtCorners_112 : decode prog_9_method_28_code 112 = .ok (.getfield 54, 3) := by decide +kernel
theorem d_Mo_lookAtCorners_115 : decode prog_9_method_28_code 115 = .ok (.iconst 1, 1) := by decide +kernel
theorem d_Mo_lookAtCorners_116 : decode prog_9_method_28_code 116 = .ok (.iload_n 2, 1) := by decide +kernel
theorem d_Mo_lookAtCorners_117 : decode prog_9_method_28_code 117 = .ok (.iastore, 1) := by decide +kernel
theorem d_Mo_lookAtCorners_118 : decode prog_9_method_28_code 118 = .ok (.aload_n 0, 1) := by decide +kernel
theorem d_Mo_lookAtCorners_119 : decode prog_9_method_28_code 119 = .ok (.getfield 54, 3) := by decide +kernel
theorem d_Mo_lookAtCorners_122 : decode prog_9_method_28_code 122 = .ok (.iconst 2, 1) := by decide +kernel
theorem d_Mo_lookAtCorners_123 : decode prog_9_method_28_code 123 = .ok (.iload_n 3, 1) := by decide +kernel
theorem d_Mo_lookAtCorners_124 : decode prog_9_method_28_code 124 = .ok (.iastore, 1) := by decide +kernel
theorem d_Mo_lookAtCorners_125 : decode prog_9_method_28_code 125 = .ok (.aload_n 0, 1) := by decide +kernel
theorem d_Mo_lookAtCorners_126 : decode prog_9_method_28_code 126 = .ok (.getfield 54, 3) := by decide +kernel
theorem d_Mo_lookAtCorners_129 : decode prog_9_method_28_code 129 = .ok (.iconst 3, 1) := by decide +kernel
theorem d_Mo_lookAtCorners_130 : decode prog_9_method_28_code 130 = .ok (.iload 4, 2) := by decide +kernel
theorem d_Mo_lookAtCorners_132 : decode prog_9_method_28_code 132 = .ok (.iastore, 1) := by decide +kernel
theorem d_Mo_lookAtCorners_133 : decode prog_9_method_28_code 133 = .ok (.aload_n 0, 1) := by decide +kernel
theorem d_Mo_lookAtCorners_134 : decode prog_9_method_28_code 134 = .ok (.invokevirtual 155, 3) := by decide +kernel
theorem d_Mo_lookAtCorners_137 : decode prog_9_method_28_code 137 = .ok (.iinc 4 1, 3) := by decide +kernel
theorem d_Mo_lookAtCorners_140 : decode prog_9_method_28_code 140 = .ok (.goto (-62), 3) := by decide +kernel
theorem d_Mo_lookAtCorners_143 : decode prog_9_method_28_code 143 = .ok (.iinc 3 1, 3) := by decide +kernel
theorem d_Mo_lookAtCorners_146 : decode prog_9_method_28_code 146 = .ok (.goto (-88), 3) := by decide +kernel
theorem d_Mo_lookAtCorners_149 : decode prog_9_method_28_code 149 = .ok (.iinc 2 1, 3) := by decide +kernel
theorem d_Mo_lookAtCorners_152 : decode prog_9_method_28_code 152 = .ok (.goto (-113), 3) := by decide +kernel
theorem d_Mo_lookAtCorners_155 : decode prog_9_method_28_code 155 = .ok (.iinc 1 1, 3) := by decide +kernel
theorem d_Mo_lookAtCorners_158 : decode prog_9_method_28_code 158 = .ok (.goto (-129), 3) := by decide +kernel
theorem d_Mo_lookAtCorners_161 : decode prog_9_method_28_code 161 = .ok (.return_, 1) := by decide +kernel
theorem d_Mo_canBeKept_0 : decode prog_9_method_29_code 0 = .ok (.iconst 0, 1) := by decide +kernel
theorem d_Mo_canBeKept_1 : decode prog_9_method_29_code 1 = .ok (.istore_n 2, 1) := by decide +kernel
theorem d_Mo_canBeKept_2 : decode prog_9_method_29_code 2 = .ok (.iload_n 2, 1) := by decide +kernel
theorem d_Mo_canBeKept_3 : decode prog_9_method_29_code 3 = .ok (.sipush 256, 3) := by decide +kernel
theorem d_Mo_canBeKept_6 : decode prog_9_method_29_code 6 = .ok (.if_icmp .ge 27, 3) := by decide +kernel
theorem d_Mo_canBeKept_9 : decode prog_9_method_29_code 9 = .ok (.aload_n 0, 1) := by decide +kernel
theorem d_Mo_canBeKept_10 : decode prog_9_method_29_code 10 = .ok (.getfield 61, 3) := by decide +kernel
theorem d_Mo_canBeKept_13 : decode prog_9_method_29_code 13 = .ok (.iload_n 2, 1) := by decide +kernel
theorem d_Mo_canBeKept_14 : decode prog_9_method_29_code 14 = .ok (.baload, 1) := by decide +kernel
theorem d_Mo_canBeKept_15 : decode prog_9_method_29_code 15 = .ok (.ifCond .eq 12, 3) := by decide +kernel
theorem d_Mo_canBeKept_18 : decode prog_9_method_29_code 18 = .ok (.iload_n 2, 1) := by decide +kernel
theorem d_Mo_canBeKept_19 : decode prog_9_method_29_code 19 = .ok (.iload_n 1, 1) := by decide +kernel
theorem d_Mo_canBeKept_20 : decode prog_9_method_29_code 20 = .ok (.iand, 1) := by decide +kernel
theorem d_Mo_canBeKept_21 : decode prog_9_method_29_code 21 = .ok (.iload_n 1, 1) := by decide +kernel
theorem d_Mo_canBeKept_22 : decode prog_9_method_29_code 22 = .ok (.if_icmp .ne 5, 3) := by decide +kernel
theorem d_Mo_canBeKept_25 : decode prog_9_method_29_code 25 = .ok (.iconst 1, 1) := by decide +kernel
theorem d_Mo_canBeKept_26 : decode prog_9_method_29_code 26 = .ok (.ireturn, 1) := by decide +kernel
theorem d_Mo_canBeKept_27 : decode prog_9_method_29_code 27 = .ok (.iinc 2 1, 3) := by decide +kernel
theorem d_Mo_canBeKept_30 : decode prog_9_method_29_code 30 = .ok (.goto (-28), 3) := by decide +kernel
theorem d_Mo_canBeKept_33 : decode prog_9_method_29_code 33 = .ok (.iconst 0, 1) := by decide +kernel
theorem d_Mo_canBeKept_34 : decode prog_9_method_29_code 34 = .ok (.ireturn, 1) := by decide +kernel
theorem d_Mo_sizeOf_0 : decode prog_9_method_30_code 0 = .ok (.iconst 0, 1) := by decide +kernel
theorem d_Mo_sizeOf_1 : decode prog_9_method_30_code 1 = .ok (.istore_n 1, 1) := by decide +kernel
theorem d_Mo_sizeOf_2 : decode prog_9_method_30_code 2 = .ok (.iconst 0, 1) := by decide +kernel
theorem d_Mo_sizeOf_3 : decode prog_9_method_30_code 3 = .ok (.istore_n 2, 1) := by decide +kernel
theorem d_Mo_sizeOf_4 : decode prog_9_method_30_code 4 = .ok (.iload_n 2, 1) := by decide +kernel
theorem d_Mo_sizeOf_5 : decode prog_9_method_30_code 5 = .ok (.bipush 8, 2) := by decide +kernel
theorem d_Mo_sizeOf_7 : decode prog_9_method_30_code 7 = .ok (.if_icmp .ge 17, 3) := by decide +kernel
theorem d_Mo_sizeOf_10 : decode prog_9_method_30_code 10 = .ok (.iload_n 1, 1) := by decide +kernel
theorem d_Mo_sizeOf_11 : decode prog_9_method_30_code 11 = .ok (.iload_n 0, 1) := by decide +kernel
theorem d_Mo_sizeOf_12 : decode prog_9_method_30_code 12 = .ok (.iload_n 2, 1) := by decide +kernel
theorem d_Mo_sizeOf_13 : decode prog_9_method_30_code 13 = .ok (.ishr, 1) := by decide +kernel
theorem d_Mo_sizeOf_14 : decode prog_9_method_30_code 14 = .ok (.iconst 1, 1) := by decide +kernel
theorem d_Mo_sizeOf_15 : decode prog_9_method_30_code 15 = .ok (.iand, 1) := by decide +kernel
theorem d_Mo_sizeOf_16 : decode prog_9_method_30_code 16 = .ok (.iadd, 1) := by decide +kernel
theorem d_Mo_sizeOf_17 : decode prog_9_method_30_code 17 = .ok (.istore_n 1, 1) := by decide +kernel
theorem d_Mo_sizeOf_18 : decode prog_9_method_30_code 18 = .ok (.iinc 2 1, 3) := by decide +kernel
theorem d_Mo_sizeOf_21 : decode prog_9_method_30_code 21 = .ok (.goto (-17), 3) := by decide +kernel
theorem d_Mo_sizeOf_24 : decode prog_9_method_30_code 24 = .ok (.iload_n 1, 1) := by decide +kernel
theorem d_Mo_sizeOf_25 : decode prog_9_method_30_code 25 = .ok (.ireturn, 1) := by decide +kernel
theorem d_Mo_findClash_0 : decode prog_9_method_31_code 0 = .ok (.aload_n 0, 1) := by decide +kernel
theorem d_Mo_findClash_1 : decode prog_9_method_31_code 1 = .ok (.iconst 0, 1) := by decide +kernel
theorem d_Mo_findClash_2 : decode prog_9_method_31_code 2 = .ok (.putfield 158, 3) := by decide +kernel
theorem d_Mo_findClash_5 : decode prog_9_method_31_code 5 = .ok (.bipush 9, 2) := by decide +kernel
theorem d_Mo_findClash_7 : decode prog_9_method_31_code 7 = .ok (.istore_n 1, 1) := by decide +kernel
theorem d_Mo_findClash_8 : decode prog_9_method_31_code 8 = .ok (.iconst 0, 1) := by decide +kernel
theorem d_Mo_findClash_9 : decode prog_9_method_31_code 9 = .ok (.istore_n 2, 1) := by decide +kernel
theorem d_Mo_findClash_10 : decode prog_9_method_31_code 10 = .ok (.iconst 0, 1) := by decide +kernel
theorem d_Mo_findClash_11 : decode prog_9_method_31_code 11 = .ok (.istore_n 3, 1) := by decide +kernel
theorem d_Mo_findClash_12 : decode prog_9_method_31_code 12 = .ok (.iload_n 3, 1) := by decide +kernel
theorem d_Mo_findClash_13 : decode prog_9_method_31_code 13 = .ok (.bipush 8, 2) := by decide +kernel
theorem d_Mo_findClash_15 : decode prog_9_method_31_code 15 = .ok (.if_icmp .ge 28, 3) := by decide +kernel
theorem d_Mo_findClash_18 : decode prog_9_method_31_code 18 = .ok (.iload_n 2, 1) := by decide +kernel
theorem d_Mo_findClash_19 : decode prog_9_method_31_code 19 = .ok (.aload_n 0, 1) := by decide +kernel
theorem d_Mo_findClash_20 : decode prog_9_method_31_code 20 = .ok (.getfield 19, 3) := by decide +kernel
theorem d_Mo_findClash_23 : decode prog_9_method_31_code 23 = .ok (.iload_n 3, 1) := by decide +kernel
theorem d_Mo_findClash_24 : decode prog_9_method_31_code 24 = .ok (.baload, 1) := by decide +kernel
theorem d_Mo_findClash_25 : decode prog_9_method_31_code 25 = .ok (.ifCond .eq 9, 3) := by decide +kernel
theorem d_Mo_findClash_28 : decode prog_9_method_31_code 28 = .ok (.iconst 1, 1) := by decide +kernel
theorem d_Mo_findClash_29 : decode prog_9_method_31_code 29 = .ok (.iload_n 3, 1) := by decide +kernel
theorem d_Mo_findClash_30 : decode prog_9_method_31_code 30 = .ok (.ishl, 1) := by decide +kernel
theorem d_Mo_findClash_31 : decode prog_9_method_31_code 31 = .ok (.goto 4, 3) := by decide +kernel
theorem d_Mo_findClash_34 : decode prog_9_method_31_code 34 = .ok (.iconst 0, 1) := by decide +kernel
theorem d_Mo_findClash_35 : decode prog_9_method_31_code 35 = .ok (.ior, 1) := by decide +kernel
theorem d_Mo_findClash_36 : decode prog_9_method_31_code 36 = .ok (.istore_n 2, 1) := by decide +kernel
theorem d_Mo_findClash_37 : decode prog_9_method_31_code 37 = .ok (.iinc 3 1, 3) := by decide +kernel
theorem d_Mo_findClash_40 : decode prog_9_method_31_code 40 = .ok (.goto (-28), 3) := by decide +kernel
theorem d_Mo_findClash_43 : decode prog_9_method_31_code 43 = .ok (.iconst 1, 1) := by decide +kernel
theorem d_Mo_findClash_44 : decode prog_9_method_31_code 44 = .ok (.istore_n 3, 1) := by decide +kernel
theorem d_Mo_findClash_45 : decode prog_9_method_31_code 45 = .ok (.iload_n 3, 1) := by decide +kernel
theorem d_Mo_findClash_46 : decode prog_9_method_31_code 46 = .ok (.sipush 256, 3) := by decide +kernel
theorem d_Mo_findClash_49 : decode prog_9_method_31_code 49 = .ok (.if_icmp .ge 42, 3) := by decide +kernel
theorem d_Mo_findClash_52 : decode prog_9_method_31_code 52 = .ok (.iload_n 3, 1) := by decide +kernel
theorem d_Mo_findClash_53 : decode prog_9_method_31_code 53 = .ok (.iload_n 2, 1) := by decide +kernel
theorem d_Mo_findClash_54 : decode prog_9_method_31_code 54 = .ok (.iand, 1) := by decide +kernel
theorem d_Mo_findClash_55 : decode prog_9_method_31_code 55 = .ok (.iload_n 3, 1) := by decide +kernel
theorem d_Mo_findClash_56 : decode prog_9_method_31_code 56 = .ok (.if_icmp .ne 29, 3) := by decide +kernel
theorem d_Mo_findClash_59 : decode prog_9_method_31_code 59 = .ok (.iload_n 3, 1) := by decide +kernel
theorem d_Mo_findClash_60 : decode prog_9_method_31_code 60 = .ok (.invokestatic 161, 3) := by decide +kernel
theorem d_Mo_findClash_63 : decode prog_9_method_31_code 63 = .ok (.iload_n 1, 1) := by decide +kernel
theorem d_Mo_findClash_64 : decode prog_9_method_31_code 64 = .ok (.if_icmp .ge 21, 3) := by decide +kernel
theorem d_Mo_findClash_67 : decode prog_9_method_31_code 67 = .ok (.aload_n 0, 1) := by decide +kernel
theorem d_Mo_findClash_68 : decode prog_9_method_31_code 68 = .ok (.iload_n 3, 1) := by decide +kernel
theorem d_Mo_findClash_69 : decode prog_9_method_31_code 69 = .ok (.invokevirtual 164, 3) := by decide +kernel
theorem d_Mo_findClash_72 : decode prog_9_method_31_code 72 = .ok (.ifCond .ne 13, 3) := by decide +kernel
theorem d_Mo_findClash_75 : decode prog_9_method_31_code 75 = .ok (.aload_n 0, 1) := by decide +kernel
theorem d_Mo_findClash_76 : decode prog_9_method_31_code 76 = .ok (.iload_n 3, 1) := by decide +kernel
theorem d_Mo_findClash_77 : decode prog_9_method_31_code 77 = .ok (.putfield 158, 3) := by decide +kernel
theorem d_Mo_findClash_80 : decode prog_9_method_31_code 80 = .ok (.iload_n 3, 1) := by decide +kernel
theorem d_Mo_findClash_81 : decode prog_9_method_31_code 81 = .ok (.invokestatic 161, 3) := by decide +kernel
theorem d_Mo_findClash_84 : decode prog_9_method_31_code 84 = .ok (.istore_n 1, 1) := by decide +kernel
theorem d_Mo_findClash_85 : decode prog_9_method_31_code 85 = .ok (.iinc 3 1, 3) := by decide +kernel
theorem d_Mo_findClash_88 : decode prog_9_method_31_code 88 = .ok (.goto (-43), 3) := by decide +kernel
theorem d_Mo_findClash_91 : decode prog_9_method_31_code 91 = .ok (.return_, 1) := by decide +kernel
theorem d_Mo_run_0 : decode prog_9_method_32_code 0 = .ok (.aload_n 0, 1) := by decide +kernel
theorem d_Mo_run_1 : decode prog_9_method_32_code 1 = .ok (.invokevirtual 167, 3) := by decide +kernel
theorem d_Mo_run_4 : decode prog_9_method_32_code 4 = .ok (.istore_n 1, 1) := by decide +kernel
theorem d_Mo_run_5 : decode prog_9_method_32_code 5 = .ok (.aload_n 0, 1) := by decide +kernel
theorem d_Mo_run_6 : decode prog_9_method_32_code 6 = .ok (.invokevirtual 170, 3) := by decide +kernel
theorem d_Mo_run_9 : decode prog_9_method_32_code 9 = .ok (.aload_n 0, 1) := by decide +kernel
theorem d_Mo_run_10 : decode prog_9_method_32_code 10 = .ok (.invokevirtual 173, 3) := by decide +kernel
theorem d_Mo_run_13 : decode prog_9_method_32_code 13 = .ok (.aload_n 0, 1) := by decide +kernel
theorem d_Mo_run_14 : decode prog_9_method_32_code 14 = .ok (.aload_n 0, 1) := by decide +kernel
theorem d_Mo_run_15 : decode prog_9_method_32_code 15 = .ok (.getfield 64, 3) := by decide +kernel
theorem d_Mo_run_18 : decode prog_9_method_32_code 18 = .ok (.putfield 176, 3) := by decide +kernel
theorem d_Mo_run_21 : decode prog_9_method_32_code 21 = .ok (.aload_n 0, 1) := by decide +kernel
theorem d_Mo_run_22 : decode prog_9_method_32_code 22 = .ok (.iconst 0, 1) := by decide +kernel
theorem d_Mo_run_23 : decode prog_9_method_32_code 23 = .ok (.putfield 158, 3) := by decide +kernel
theorem d_Mo_run_26 : decode prog_9_method_32_code 26 = .ok (.iload_n 1, 1) := by decide +kernel
theorem d_Mo_run_27 : decode prog_9_method_32_code 27 = .ok (.ifCond .eq 11, 3) := by decide +kernel
theorem d_Mo_run_30 : decode prog_9_method_32_code 30 = .ok (.aload_n 0, 1) := by decide +kernel
theorem d_Mo_run_31 : decode prog_9_method_32_code 31 = .ok (.iconst 0, 1) := by decide +kernel
theorem d_Mo_run_32 : decode prog_9_method_32_code 32 = .ok (.putfield 38, 3) := by decide +kernel
theorem d_Mo_run_35 : decode prog_9_method_32_code 35 = .ok (.goto 29, 3) := by decide +kernel
theorem d_Mo_run_38 : decode prog_9_method_32_code 38 = .ok (.aload_n 0, 1) := by decide +kernel
theorem d_Mo_run_39 : decode prog_9_method_32_code 39 = .ok (.getfield 145, 3) := by decide +kernel
theorem d_Mo_run_42 : decode prog_9_method_32_code 42 = .ok (.lconst 0, 1) := by decide +kernel
theorem d_Mo_run_43 : decode prog_9_method_32_code 43 = .ok (.lcmp, 1) := by decide +kernel
theorem d_Mo_run_44 : decode prog_9_method_32_code 44 = .ok (.ifCond .le 11, 3) := by decide +kernel
theorem d_Mo_run_47 : decode prog_9_method_32_code 47 = .ok (.aload_n 0, 1) := by decide +kernel
theorem d_Mo_run_48 : decode prog_9_method_32_code 48 = .ok (.iconst 1, 1) := by decide +kernel
theorem d_Mo_run_49 : decode prog_9_method_32_code 49 = .ok (.putfield 38, 3) := by decide +kernel
theorem d_Mo_run_52 : decode prog_9_method_32_code 52 = .ok (.goto 12, 3) := by decide +kernel
theorem d_Mo_run_55 : decode prog_9_method_32_code 55 = .ok (.aload_n 0, 1) := by decide +kernel
theorem d_Mo_run_56 : decode prog_9_method_32_code 56 = .ok (.iconst 2, 1) := by decide +kernel
theorem d_Mo_run_57 : decode prog_9_method_32_code 57 = .ok (.putfield 38, 3) := by decide +kernel
theorem d_Mo_run_60 : decode prog_9_method_32_code 60 = .ok (.aload_n 0, 1) := by decide +kernel
theorem d_Mo_run_61 : decode prog_9_method_32_code 61 = .ok (.invokevirtual 179, 3) := by decide +kernel
theorem d_Mo_run_64 : decode prog_9_method_32_code 64 = .ok (.aload_n 0, 1) := by decide +kernel
theorem d_Mo_run_65 : decode prog_9_method_32_code 65 = .ok (.getfield 38, 3) := by decide +kernel
theorem d_Mo_run_68 : decode prog_9_method_32_code 68 = .ok (.ireturn, 1) := by decide +kernel
theorem d_Mo_best_0 : decode prog_9_method_33_code 0 = .ok (.aload_n 0, 1) := by decide +kernel
theorem d_Mo_best_1 : decode prog_9_method_33_code 1 = .ok (.getfield 38, 3) := by decide +kernel
theorem d_Mo_best_4 : decode prog_9_method_33_code 4 = .ok (.ifCond .ne 24, 3) := by decide +kernel
theorem d_Mo_best_7 : decode prog_9_method_33_code 7 = .ok (.iload_n 1, 1) := by decide +kernel
theorem d_Mo_best_8 : decode prog_9_method_33_code 8 = .ok (.ifCond .lt 20, 3) := by decide +kernel
theorem d_Mo_best_11 : decode prog_9_method_33_code 11 = .ok (.iload_n 1, 1) := by decide +kernel
theorem d_Mo_best_12 : decode prog_9_method_33_code 12 = .ok (.aload_n 0, 1) := by decide +kernel
theorem d_Mo_best_13 : decode prog_9_method_33_code 13 = .ok (.getfield 176, 3) := by decide +kernel
theorem d_Mo_best_16 : decode prog_9_method_33_code 16 = .ok (.if_icmp .ge 12, 3) := by decide +kernel
theorem d_Mo_best_19 : decode prog_9_method_33_code 19 = .ok (.aload_n 0, 1) := by decide +kernel
theorem d_Mo_best_20 : decode prog_9_method_33_code 20 = .ok (.getfield 42, 3) := by decide +kernel
theorem d_Mo_best_23 : decode prog_9_method_33_code 23 = .ok (.iload_n 1, 1) := by decide +kernel
theorem d_Mo_best_24 : decode prog_9_method_33_code 24 = .ok (.iaload, 1) := by decide +kernel
theorem d_Mo_best_25 : decode prog_9_method_33_code 25 = .ok (.goto 4, 3) := by decide +kernel
theorem d_Mo_best_28 : decode prog_9_method_33_code 28 = .ok (.iconst (-1), 1) := by decide +kernel
theorem d_Mo_best_29 : decode prog_9_method_33_code 29 = .ok (.ireturn, 1) := by decide +kernel
theorem d_Mo_cost_0 : decode prog_9_method_34_code 0 = .ok (.aload_n 0, 1) := by decide +kernel
theorem d_Mo_cost_1 : decode prog_9_method_34_code 1 = .ok (.getfield 38, 3) := by decide +kernel
theorem d_Mo_cost_4 : decode prog_9_method_34_code 4 = .ok (.ifCond .ne 10, 3) := by decide +kernel
theorem d_Mo_cost_7 : decode prog_9_method_34_code 7 = .ok (.aload_n 0, 1) := by decide +kernel
theorem d_Mo_cost_8 : decode prog_9_method_34_code 8 = .ok (.getfield 106, 3) := by decide +kernel
theorem d_Mo_cost_11 : decode prog_9_method_34_code 11 = .ok (.goto 6, 3) := by decide +kernel
theorem d_Mo_cost_14 : decode prog_9_method_34_code 14 = .ok (.ldc2_w 182, 3) := by decide +kernel
theorem d_Mo_cost_17 : decode prog_9_method_34_code 17 = .ok (.lreturn, 1) := by decide +kernel
theorem d_Mo_cut_0 : decode prog_9_method_35_code 0 = .ok (.aload_n 0, 1) := by decide +kernel
theorem d_Mo_cut_1 : decode prog_9_method_35_code 1 = .ok (.getfield 38, 3) := by decide +kernel
theorem d_Mo_cut_4 : decode prog_9_method_35_code 4 = .ok (.iconst 2, 1) := by decide +kernel
theorem d_Mo_cut_5 : decode prog_9_method_35_code 5 = .ok (.if_icmp .ge 14, 3) := by decide +kernel
theorem d_Mo_cut_8 : decode prog_9_method_35_code 8 = .ok (.iload_n 1, 1) := by decide +kernel
theorem d_Mo_cut_9 : decode prog_9_method_35_code 9 = .ok (.ifCond .ne 10, 3) := by decide +kernel
theorem d_Mo_cut_12 : decode prog_9_method_35_code 12 = .ok (.aload_n 0, 1) := by decide +kernel
theorem d_Mo_cut_13 : decode prog_9_method_35_code 13 = .ok (.getfield 148, 3) := by decide +kernel
theorem d_Mo_cut_16 : decode prog_9_method_35_code 16 = .ok (.goto 26, 3) := by decide +kernel
theorem d_Mo_cut_19 : decode prog_9_method_35_code 19 = .ok (.aload_n 0, 1) := by decide +kernel
theorem d_Mo_cut_20 : decode prog_9_method_35_code 20 = .ok (.getfield 38, 3) := by decide +kernel
theorem d_Mo_cut_23 : decode prog_9_method_35_code 23 = .ok (.iconst 2, 1) := by decide +kernel
theorem d_Mo_cut_24 : decode prog_9_method_35_code 24 = .ok (.if_icmp .ge 15, 3) := by decide +kernel
theorem d_Mo_cut_27 : decode prog_9_method_35_code 27 = .ok (.iload_n 1, 1) := by decide +kernel
theorem d_Mo_cut_28 : decode prog_9_method_35_code 28 = .ok (.iconst 1, 1) := by decide +kernel
theorem d_Mo_cut_29 : decode prog_9_method_35_code 29 = .ok (.if_icmp .ne 10, 3) := by decide +kernel
theorem d_Mo_cut_32 : decode prog_9_method_35_code 32 = .ok (.aload_n 0, 1) := by decide +kernel
theorem d_Mo_cut_33 : decode prog_9_method_35_code 33 = .ok (.getfield 145, 3) := by decide +kernel
theorem d_Mo_cut_36 : decode prog_9_method_35_code 36 = .ok (.goto 6, 3) := by decide +kernel
theorem d_Mo_cut_39 : decode prog_9_method_35_code 39 = .ok (.ldc2_w 182, 3) := by decide +kernel
theorem d_Mo_cut_42 : decode prog_9_method_35_code 42 = .ok (.lreturn, 1) := by decide +kernel
theorem d_Mo_clashes_0 : decode prog_9_method_36_code 0 = .ok (.aload_n 0, 1) := by decide +kernel
theorem d_Mo_clashes_1 : decode prog_9_method_36_code 1 = .ok (.getfield 38, 3) := by decide +kernel
theorem d_Mo_clashes_4 : decode prog_9_method_36_code 4 = .ok (.iconst 2, 1) := by decide +kernel
theorem d_Mo_clashes_5 : decode prog_9_method_36_code 5 = .ok (.if_icmp .ne 13, 3) := by decide +kernel
theorem d_Mo_clashes_8 : decode prog_9_method_36_code 8 = .ok (.aload_n 0, 1) := by decide +kernel
theorem d_Mo_clashes_9 : decode prog_9_method_36_code 9 = .ok (.getfield 158, 3) := by decide +kernel
theorem d_Mo_clashes_12 : decode prog_9_method_36_code 12 = .ok (.invokestatic 161, 3) := by decide +kernel
theorem d_Mo_clashes_15 : decode prog_9_method_36_code 15 = .ok (.goto 4, 3) := by decide +kernel
theorem d_Mo_clashes_18 : decode prog_9_method_36_code 18 = .ok (.iconst (-1), 1) := by decide +kernel
theorem d_Mo_clashes_19 : decode prog_9_method_36_code 19 = .ok (.ireturn, 1) := by decide +kernel
theorem d_Mo_clash_0 : decode prog_9_method_37_code 0 = .ok (.aload_n 0, 1) := by decide +kernel
theorem d_Mo_clash_1 : decode prog_9_method_37_code 1 = .ok (.getfield 38, 3) := by decide +kernel
theorem d_Mo_clash_4 : decode prog_9_method_37_code 4 = .ok (.iconst 2, 1) := by decide +kernel
theorem d_Mo_clash_5 : decode prog_9_method_37_code 5 = .ok (.if_icmp .ne 29, 3) := by decide +kernel
theorem d_Mo_clash_8 : decode prog_9_method_37_code 8 = .ok (.iload_n 1, 1) := by decide +kernel
theorem d_Mo_clash_9 : decode prog_9_method_37_code 9 = .ok (.ifCond .lt 25, 3) := by decide +kernel
theorem d_Mo_clash_12 : decode prog_9_method_37_code 12 = .ok (.iload_n 1, 1) := by decide +kernel
theorem d_Mo_clash_13 : decode prog_9_method_37_code 13 = .ok (.bipush 8, 2) := by decide +kernel
theorem d_Mo_clash_15 : decode prog_9_method_37_code 15 = .ok (.if_icmp .ge 19, 3) := by decide +kernel
theorem d_Mo_clash_18 : decode prog_9_method_37_code 18 = .ok (.aload_n 0, 1) := by decide +kernel
theorem d_Mo_clash_19 : decode prog_9_method_37_code 19 = .ok (.getfield 158, 3) := by decide +kernel
theorem d_Mo_clash_22 : decode prog_9_method_37_code 22 = .ok (.iload_n 1, 1) := by decide +kernel
theorem d_Mo_clash_23 : decode prog_9_method_37_code 23 = .ok (.ishr, 1) := by decide +kernel
theorem d_Mo_clash_24 : decode prog_9_method_37_code 24 = .ok (.iconst 1, 1) := by decide +kernel
theorem d_Mo_clash_25 : decode prog_9_method_37_code 25 = .ok (.iand, 1) := by decide +kernel
theorem d_Mo_clash_26 : decode prog_9_method_37_code 26 = .ok (.iconst 1, 1) := by decide +kernel
theorem d_Mo_clash_27 : decode prog_9_method_37_code 27 = .ok (.if_icmp .ne 7, 3) := by decide +kernel
theorem d_Mo_clash_30 : decode prog_9_method_37_code 30 = .ok (.iconst 1, 1) := by decide +kernel
theorem d_Mo_clash_31 : decode prog_9_method_37_code 31 = .ok (.goto 4, 3) := by decide +kernel
theorem d_Mo_clash_34 : decode prog_9_method_37_code 34 = .ok (.iconst 0, 1) := by decide +kernel
theorem d_Mo_clash_35 : decode prog_9_method_37_code 35 = .ok (.ireturn, 1) := by decide +kernel
end
section
/-! THE MEMORY. Every cell of one RecipePlans object has a number and so has every cell of one RecipePlansModel (0 .. 7 the objects, 8 .. 12 arrays of arrays, 13 .. 16 booleans, 17 .. 39 arrays of ints, 40 .. 84 arrays of longs); what it holds are two functions of cell and place. -/
abbrev Mem : Type := (Nat → Nat → Int32) × (Nat → Nat → Int64)
/-- tables, addresses, the array classes (int, long, boolean, long[]), the static arrays SETS and STARTS -/
abbrev Gw : Type := va_G × (Nat → Nat) × (ClassId × ClassId × ClassId × ClassId) × (Nat × Nat)
def upI (f : Nat → Nat → Int32) (k j : Nat) (v : Int32) : Nat → Nat → Int32 := fun a b => if a = k ∧ b = j then v else f a b
def upJ (f : Nat → Nat → Int64) (k j : Nat) (v : Int64) : Nat → Nat → Int64 := fun a b => if a = k ∧ b = j then v else f a b
def lnI (k : Nat) : Nat := if k < 14 then 256 else if k < 15 then 8 else if k < 16 then 24 else if k < 17 then 256 else if k < 18 then 4 else if k < 24 then 8 else if k < 25 then 256 else if k < 30 then 4 else if k < 31 then 20 else if k < 36 then 8 else if k < 38 then 4 else if k < 39 then 120 else 4
def lnJ (k : Nat) : Nat := if k < 41 then 5 else if k < 42 then 7 else if k < 43 then 4 else if k < 44 then 5 else if k < 45 then 7 else if k < 46 then 5 else if k < 47 then 4 else if k < 70 then 5 else if k < 75 then 32 else 16
def outN (k : Nat) : Nat := if k < 9 then 7 else if k < 10 then 16 else 5
def outB (k : Nat) : Nat := if k < 9 then 47 else if k < 10 then 54 else if k < 11 then 70 else if k < 12 then 75 else 80
def obC (k : Nat) : Nat := k
def obF (G : Gw) (μ : Mem) : Nat → List Value
  | 0 => [.ref (G.2.1 1), .ref (G.2.1 2), .ref (G.2.1 3), .ref (G.2.1 4), .ref (G.2.1 5), .ref (G.2.1 6), .ref (G.2.1 40), .ref (G.2.1 41)]
  | 1 => [.int (μ.1 1 0), .ref (G.2.1 17), .ref (G.2.1 42), .ref (G.2.1 8)]
  | 2 => [.int (μ.1 2 0), .ref (G.2.1 18), .ref (G.2.1 19), .ref (G.2.1 20), .ref (G.2.1 21), .ref (G.2.1 22)]
  | 3 => [.int (μ.1 3 0), .ref (G.2.1 23), .ref (G.2.1 9)]
  | 4 => [.ref (G.2.1 1), .ref (G.2.1 2), .ref (G.2.1 3), .ref (G.2.1 10), .ref (G.2.1 43), .ref (G.2.1 44), .ref (G.2.1 13), .ref (G.2.1 24), .int (μ.1 4 8), .int (μ.1 4 9), .int (μ.1 4 10), .long (μ.2 4 11), .long (μ.2 4 12)]
  | 5 => [.ref (G.2.1 1), .ref (G.2.1 3), .ref (G.2.1 11), .ref (G.2.1 12), .ref (G.2.1 45), .ref (G.2.1 25), .int (μ.1 5 6), .long (μ.2 5 7), .ref (G.2.1 26)]
  | 6 => [.int (μ.1 6 0), .int (μ.1 6 1), .ref (G.2.1 27), .long (μ.2 6 3), .int (μ.1 6 4), .long (μ.2 6 5), .long (μ.2 6 6), .int (μ.1 6 7)]
  | _ => [.int (μ.1 7 0), .ref (G.2.1 28), .ref (G.2.1 29), .ref (G.2.1 30), .ref (G.2.1 14), .ref (G.2.1 31), .ref (G.2.1 32), .ref (G.2.1 33), .ref (G.2.1 34), .ref (G.2.1 35), .int (μ.1 7 10), .int (μ.1 7 11), .ref (G.2.1 36), .long (μ.2 7 13), .long (μ.2 7 14), .long (μ.2 7 15), .int (μ.1 7 16), .ref (G.2.1 37), .ref (G.2.1 38), .ref (G.2.1 15), .ref (G.2.1 39), .ref (G.2.1 46), .long (μ.2 7 22), .ref (G.2.1 16)]
def ent (G : Gw) (μ : Mem) (k : Nat) : va_E :=
  if k < 8 then .inr (obC k, obF G μ k)
  else if k < 13 then .inl (G.2.2.1.2.2.2, outN k, .inr (.inr (.inr (.inr (fun i => some (G.2.1 (outB k + i)))))))
  else if k < 17 then .inl (G.2.2.1.2.2.1, lnI k, .inl (μ.1 k))
  else if k < 40 then .inl (G.2.2.1.1, lnI k, .inl (μ.1 k))
  else .inl (G.2.2.1.2.1, lnJ k, .inr (.inl (μ.2 k)))
def WL (G : Gw) (μ : Mem) : va_W := (List.range 85).map fun k => (G.2.1 k, ent G μ k)
theorem WL_get {G : Gw} {μ : Mem} {k : Nat} (h : k < 85) : (WL G μ)[k]? = some (G.2.1 k, ent G μ k) := by
  simp [WL, h]
theorem WL_len {G : Gw} {μ : Mem} : (WL G μ).length = 85 := by simp [WL]
theorem obF_congr {G : Gw} {μ μ' : Mem} {k : Nat} (h7 : k < 8) (h1 : ∀ b, μ'.1 k b = μ.1 k b) (h2 : ∀ b, μ'.2 k b = μ.2 k b) : obF G μ' k = obF G μ k := by
  match k, h7 with
  | 0, _ => rfl
  | 1, _ => simp [obF, h1]
  | 2, _ => simp [obF, h1]
  | 3, _ => simp [obF, h1]
  | 4, _ => simp [obF, h1, h2]
  | 5, _ => simp [obF, h1, h2]
  | 6, _ => simp [obF, h1, h2]
  | 7, _ => simp [obF, h1, h2]
theorem ent_congr {G : Gw} {μ μ' : Mem} {k : Nat} (h1 : ∀ b, μ'.1 k b = μ.1 k b) (h2 : ∀ b, μ'.2 k b = μ.2 k b) : ent G μ' k = ent G μ k := by
  have e1 : μ'.1 k = μ.1 k := funext h1
  have e2 : μ'.2 k = μ.2 k := funext h2
  unfold ent
  by_cases h7 : k < 8
  · rw [if_pos h7, if_pos h7, obF_congr h7 h1 h2]
  · rw [if_neg h7, if_neg h7, e1, e2]
theorem WL_set {G : Gw} {μ μ' : Mem} {k : Nat} {e : va_E} (hk : k < 85) (he : e = ent G μ' k) (ho : ∀ a, a ≠ k → (∀ b, μ'.1 a b = μ.1 a b) ∧ ∀ b, μ'.2 a b = μ.2 a b) : (WL G μ).set k (G.2.1 k, e) = WL G μ' := by
  apply List.ext_getElem?
  intro j
  rw [List.getElem?_set]
  by_cases hjk : k = j
  · subst hjk
    rw [if_pos rfl, if_pos (by rw [WL_len]; exact hk), WL_get hk, he]
  · rw [if_neg hjk]
    by_cases hj : j < 85
    · rw [WL_get hj, WL_get hj, ent_congr (ho j (fun q => hjk q.symm)).1 (ho j (fun q => hjk q.symm)).2]
    · rw [List.getElem?_eq_none (by rw [WL_len]; omega), List.getElem?_eq_none (by rw [WL_len]; omega)]
/-- the addresses that a call may write: the object's cells, and all new ones -/
def AW (G : Gw) (sz : Nat) : Nat → Prop := fun q => (∃ k, k < 85 ∧ q = G.2.1 k) ∨ sz ≤ q
theorem AW_mono {G : Gw} {a b : Nat} (h : a ≤ b) {q : Nat} (hq : AW G b q) : AW G a q := by
  rcases hq with h1 | h1
  · exact Or.inl h1
  · exact Or.inr (by omega)
abbrev tyG (G : Gw) : List (ClassId × FieldType) := [(G.2.2.1.1, .int), (G.2.2.1.2.1, .long), (G.2.2.1.2.2.1, .boolean), (G.2.2.1.2.2.2, .array .long)]
def tSETS : List Int32 := [0, 1, 2, 4, 8, 16, 3, 5, 6, 9, 10, 12, 17, 18, 20, 24, 7, 11, 13, 14, 19, 21, 22, 25, 26, 28, 15, 23, 27, 29, 30, 31]
def tSTARTS : List Int32 := [0, 1, 6, 16, 26, 31]
/-- the static arrays -/
def StZ (G : Gw) (A : Nat → Prop) (U : State) (H : Heap) : Prop :=
  (va_Z "RecipePlans" "SETS" "[I" (.ref G.2.2.2.1) A U H ∧ va_T .int G.2.2.2.1 32 (fun j => .int (tSETS.getD j 0)) A U H) ∧
  (va_Z "RecipePlans" "STARTS" "[I" (.ref G.2.2.2.2) A U H ∧ va_T .int G.2.2.2.2 6 (fun j => .int (tSTARTS.getD j 0)) A U H)
theorem StZ.moved {G : Gw} {A : Nat → Prop} {u U : State} {H : Heap} (hvm : u.vm.Alike U.vm) (h : StZ G A u H) : StZ G A U H :=
  ⟨⟨h.1.1.moved hvm, h.1.2.moved hvm⟩, ⟨h.2.1.moved hvm, h.2.2.moved hvm⟩⟩
theorem StZ.narrow {G : Gw} {A B : Nat → Prop} {U : State} {H : Heap} (h : StZ G A U H) (hAB : ∀ q, B q → A q) : StZ G B U H :=
  ⟨⟨h.1.1.narrow hAB, h.1.2.narrow hAB⟩, ⟨h.2.1.narrow hAB, h.2.2.narrow hAB⟩⟩
theorem StZ.kept {G : Gw} {A : Nat → Prop} {U : State} {H H1 : Heap} (h : StZ G A U H) (hq : ∀ a : Nat, a < H.size → ¬ A a → H1[a]? = H[a]?) : StZ G A U H1 :=
  ⟨⟨h.1.1.kept hq, h.1.2.kept hq⟩, ⟨h.2.1.kept hq, h.2.2.kept hq⟩⟩
/-- links across the nest: they stay as the machine goes on -/
def isNest : Cond → Bool
  | .fieldLinkNest _ _ _ _ _ _ => true
  | .methodLinkNest _ _ _ _ => true
  | _ => false
theorem nest_warm {w : Cond} (hw : isNest w = true) {s U : State} (hW : s.WarmedH U.vm) (h : va_Nw w s) : va_Nw w U := by
  match w, hw with
  | .fieldLinkNest _ _ _ _ _ _, _ => exact va_Nw.warmF hW h
  | .methodLinkNest _ _ _ _, _ => exact va_Nw.warmM hW h
theorem nest_same {w : Cond} (hw : isNest w = true) {u U : State} (h : u.vm = U.vm) (hZ : va_Nw w u) : va_Nw w U := by
  match w, hw with
  | .fieldLinkNest _ _ _ _ _ _, _ => exact va_Nw.same rfl h hZ
  | .methodLinkNest _ _ _ _, _ => exact va_Nw.same rfl h hZ
def NwA (U : State) : Prop := ∀ w ∈ nestA, va_Nw w U
theorem nestA_ok : ∀ w ∈ nestA, isNest w = true := by decide +kernel
/-- what stands still while a call runs -/
def StA (G : Gw) (A : Nat → Prop) (U : State) (H : Heap) : Prop := StZ G A U H ∧ NwA U
/-- the world at a call's start -/
def Wd (G : Gw) (sz : Nat) (μ : Mem) (U : State) : Prop := U.heap.size = sz ∧ va_P G.1 vwCl (WL G μ) U.heap ∧ va_K G.1 vwCl (tyG G) U ∧ va_D (fun _ => True) (WL G μ) ∧ StA G (AW G sz) U U.heap
/-- the world within a call -/
def Wk (G : Gw) (s : State) (μ : Mem) (H : Heap) (locs : List Loc) : Prop := va_P G.1 vwCl (WL G μ) H ∧ va_D (AW G s.heap.size) (WL G μ) ∧ va_S (AW G s.heap.size) s.heap H locs
def QC (G : Gw) (sz : Nat) (r : Option Value) (μ' : Mem) : Array Value → State → Outcome → State → Prop := fun _ st oc t => (oc = .returned r ∧ va_P G.1 vwCl (WL G μ') t.heap) ∧ va_F (AW G sz) st t
abbrev CT (l : Launch) (y : MethodName) (ws : List Cond) (rm : Room) (av : List Value) (G : Gw) (μ : Mem) (r : Option Value) (μ' : Mem) : Prop :=
  ∀ sz : Nat, Met l y ws rm (va_Pc av (Wd G sz μ)) (QC G sz r μ') 0 0 (AW G sz)
abbrev CTp (l : Launch) (y : MethodName) (ws : List Cond) (rm : Room) (av : List Value) (r : Value) : Prop :=
  Met l y ws rm (fun v _ => v = av.toArray) (k2_QcV r) 0 0 (fun _ => False)
def CxP (p : Program) (s : State) (m : MethodId) (args : Array Value) (meth : Method) (c : Code) (cc : ByteArray) (maxL : Nat) (ret : Option FieldType) (own : String) (ws : List Cond) : Prop :=
  p.tables.exec = Jvm.exec ∧ c.code = cc ∧ meth.sig.returnType = ret ∧ c.maxLocals = maxL ∧ s.vm.findClass own = some m.cls ∧ (∀ w ∈ ws, w.before args s = true) ∧ meth.locks = false
def CxA (G : Gw) (p : Program) (s : State) (m : MethodId) (args : Array Value) (meth : Method) (c : Code) (cc : ByteArray) (maxL : Nat) (ret : Option FieldType) (own : String) (ws : List Cond) : Prop :=
  p.tables.exec = Jvm.exec ∧ c.code = cc ∧ meth.sig.returnType = ret ∧ c.maxLocals = maxL ∧ s.vm.findClass own = some m.cls ∧ (∀ w ∈ ws, w.before args s = true) ∧ meth.locks = false ∧ va_K G.1 vwCl (tyG G) s ∧ StA G (AW G s.heap.size) s s.heap
abbrev WA (G : Gw) (rm : Room) (p : Program) (l : Launch) (e : Env) (s : State) (m : MethodId) (args : Array Value) (below : List Frame) (meth : Method) (c : Code) (r : Option Value) (μ' : Mem) (H : Heap) (locs : List Loc) (pc : Nat) (ls : Array Slot) (st : List Value) : Prop :=
  W p l e rm s m args below meth c H locs 0 0 (MQ below (QC G s.heap.size r μ') args s 0 0 (AW G s.heap.size)) (F0 m pc ls st)
abbrev WP (rm : Room) (p : Program) (l : Launch) (e : Env) (s : State) (m : MethodId) (args : Array Value) (below : List Frame) (meth : Method) (c : Code) (r : Value) (pc : Nat) (ls : Array Slot) (st : List Value) : Prop :=
  W p l e rm s m args below meth c s.heap [] 0 0 (MQ below (k2_QcV r) args s 0 0 (fun _ => False)) (F0 m pc ls st)
-- the model's own steps
def ldI (μ : Mem) (k : Nat) (i : Int32) : Option Int32 := if (17 ≤ k ∧ k < 40) ∧ ¬ (i < 0 ∨ lnI k ≤ i.toNatClampNeg) then some (μ.1 k i.toNatClampNeg) else none
def ldZ (μ : Mem) (k : Nat) (i : Int32) : Option Int32 := if (13 ≤ k ∧ k < 17) ∧ ¬ (i < 0 ∨ lnI k ≤ i.toNatClampNeg) then some (μ.1 k i.toNatClampNeg) else none
def ldJ (μ : Mem) (k : Nat) (i : Int32) : Option Int64 := if (40 ≤ k ∧ k < 85) ∧ ¬ (i < 0 ∨ lnJ k ≤ i.toNatClampNeg) then some (μ.2 k i.toNatClampNeg) else none
def ldA (k : Nat) (i : Int32) : Option Nat := if (8 ≤ k ∧ k < 13) ∧ ¬ (i < 0 ∨ outN k ≤ i.toNatClampNeg) then some (outB k + i.toNatClampNeg) else none
def ldS (t : List Int32) (i : Int32) : Option Int32 := if ¬ (i < 0 ∨ t.length ≤ i.toNatClampNeg) then some (t.getD i.toNatClampNeg 0) else none
def stI (μ : Mem) (k : Nat) (i v : Int32) : Option Mem := if (17 ≤ k ∧ k < 40) ∧ ¬ (i < 0 ∨ lnI k ≤ i.toNatClampNeg) then some (upI μ.1 k i.toNatClampNeg v, μ.2) else none
def stZ (μ : Mem) (k : Nat) (i v : Int32) : Option Mem := if ((13 ≤ k ∧ k < 17) ∧ (v = 0 ∨ v = 1)) ∧ ¬ (i < 0 ∨ lnI k ≤ i.toNatClampNeg) then some (upI μ.1 k i.toNatClampNeg v, μ.2) else none
def stJ (μ : Mem) (k : Nat) (i : Int32) (v : Int64) : Option Mem := if (40 ≤ k ∧ k < 85) ∧ ¬ (i < 0 ∨ lnJ k ≤ i.toNatClampNeg) then some (μ.1, upJ μ.2 k i.toNatClampNeg v) else none
def pI (μ : Mem) (k j : Nat) (v : Int32) : Option Mem := some (upI μ.1 k j v, μ.2)
def pZ (μ : Mem) (k j : Nat) (v : Int32) : Option Mem := if v = 0 ∨ v = 1 then some (upI μ.1 k j v, μ.2) else none
def pJ (μ : Mem) (k j : Nat) (v : Int64) : Option Mem := some (μ.1, upJ μ.2 k j v)
def reZ (v : Int32) (μ : Mem) : Option (Int32 × Mem) := if v = 0 ∨ v = 1 then some (v, μ) else none
def okZ (v : Int32) : Option Int32 := if v = 0 ∨ v = 1 then some v else none
def dvI (x y : Int32) : Option Int32 := if y = 0 then none else some (x / y)
def rmI (x y : Int32) : Option Int32 := if y = 0 then none else some (x - x / y * y)
def dvJ (x y : Int64) : Option Int64 := if y = 0 then none else some (x / y)
def rmJ (x y : Int64) : Option Int64 := if y = 0 then none else some (x - x / y * y)
def nm {α β : Type} (a : α) (f : α → β) : β := f a
def bn2 {α β : Type} (o : Option (α × Mem)) (f : α → Mem → Option β) : Option β := o.bind fun q => f q.1 q.2
theorem bd {α β : Type} {o : Option α} {f : α → Option β} {r : β} (h : o.bind f = some r) : ∃ v, o = some v ∧ f v = some r := by
  cases o with
  | none => cases h
  | some v => exact ⟨v, rfl, h⟩
theorem bd2 {α β : Type} {o : Option (α × Mem)} {f : α → Mem → Option β} {r : β} (h : bn2 o f = some r) : ∃ a μ, o = some (a, μ) ∧ f a μ = some r := by
  cases o with
  | none => cases h
  | some v => exact ⟨v.1, v.2, rfl, h⟩
theorem nmx {α β : Type} {a : α} {f : α → Option β} {r : β} (h : nm a f = some r) : ∃ x, a = x ∧ f x = some r := ⟨a, rfl, h⟩
theorem ifp {α : Type} {c : Prop} [Decidable c] {a b r : α} (hc : c) (h : (if c then a else b) = r) : a = r := by rw [if_pos hc] at h; exact h
theorem ifn {α : Type} {c : Prop} [Decidable c] {a b r : α} (hc : ¬ c) (h : (if c then a else b) = r) : b = r := by rw [if_neg hc] at h; exact h
theorem somx {α : Type} {c : Prop} [Decidable c] {a r : α} (h : (if c then some a else none) = some r) : c ∧ a = r := by
  by_cases hc : c
  · rw [if_pos hc] at h; exact ⟨hc, Option.some.inj h⟩
  · rw [if_neg hc] at h; cases h
theorem somn {α : Type} {c : Prop} [Decidable c] {a r : α} (h : (if c then none else some a) = some r) : ¬ c ∧ a = r := by
  by_cases hc : c
  · rw [if_pos hc] at h; cases h
  · rw [if_neg hc] at h; exact ⟨hc, Option.some.inj h⟩
section MW
variable {p : Program} {l : Launch} {e : Env} {R : Room} {s : State} {m : MethodId} {args : Array Value} {below : List Frame} {meth : Method} {c : Code} {H : Heap} {locs : List Loc} {cells slots : Nat} {Q : State → Prop}
variable {cc : ByteArray} {pc : Nat} {ls : Array Slot} {rest : List Value} {G : Gw} {μ μ1 μ' : Mem}
theorem m_eqi {x y : Int32} (h : x = y) (k : W p l e R s m args below meth c H locs cells slots Q (F0 m pc ls (.int y :: rest))) : W p l e R s m args below meth c H locs cells slots Q (F0 m pc ls (.int x :: rest)) := h ▸ k
theorem m_eql {x y : Int64} (h : x = y) (k : W p l e R s m args below meth c H locs cells slots Q (F0 m pc ls (.long y :: rest))) : W p l e R s m args below meth c H locs cells slots Q (F0 m pc ls (.long x :: rest)) := h ▸ k
theorem m_idiv (hx : p.tables.exec = Jvm.exec) (hb : c.code = cc) {x y v : Int32} (hv : dvI x y = some v) (hdg : decode cc pc = .ok (.idiv, 1)) (k : W p l e R s m args below meth c H locs cells slots Q (F0 m (pc + 1) ls (.int v :: rest))) : W p l e R s m args below meth c H locs cells slots Q (F0 m pc ls (.int y :: .int x :: rest)) := by
  obtain ⟨h1, rfl⟩ := somn hv
  exact lv_idiv hx hb hdg h1 k
theorem m_irem (hx : p.tables.exec = Jvm.exec) (hb : c.code = cc) {x y v : Int32} (hv : rmI x y = some v) (hdg : decode cc pc = .ok (.irem, 1)) (k : W p l e R s m args below meth c H locs cells slots Q (F0 m (pc + 1) ls (.int v :: rest))) : W p l e R s m args below meth c H locs cells slots Q (F0 m pc ls (.int y :: .int x :: rest)) := by
  obtain ⟨h1, rfl⟩ := somn hv
  exact lv_irem hx hb hdg h1 k
theorem m_ldiv (hx : p.tables.exec = Jvm.exec) (hb : c.code = cc) {x y v : Int64} (hv : dvJ x y = some v) (hdg : decode cc pc = .ok (.ldiv, 1)) (k : W p l e R s m args below meth c H locs cells slots Q (F0 m (pc + 1) ls (.long v :: rest))) : W p l e R s m args below meth c H locs cells slots Q (F0 m pc ls (.long y :: .long x :: rest)) := by
  obtain ⟨h1, rfl⟩ := somn hv
  exact lv_ldiv hx hb hdg h1 k
theorem m_lrem (hx : p.tables.exec = Jvm.exec) (hb : c.code = cc) {x y v : Int64} (hv : rmJ x y = some v) (hdg : decode cc pc = .ok (.lrem, 1)) (k : W p l e R s m args below meth c H locs cells slots Q (F0 m (pc + 1) ls (.long v :: rest))) : W p l e R s m args below meth c H locs cells slots Q (F0 m pc ls (.long y :: .long x :: rest)) := by
  obtain ⟨h1, rfl⟩ := somn hv
  exact lv_lrem hx hb hdg h1 k
theorem ent_I {k : Nat} (h1 : 17 ≤ k) (h2 : k < 40) : ent G μ k = .inl (G.2.2.1.1, lnI k, .inl (μ.1 k)) := by
  unfold ent
  rw [if_neg (by omega), if_neg (by omega), if_neg (by omega), if_pos h2]
theorem ent_J {k : Nat} (h1 : 40 ≤ k) : ent G μ k = .inl (G.2.2.1.2.1, lnJ k, .inr (.inl (μ.2 k))) := by
  unfold ent
  rw [if_neg (by omega), if_neg (by omega), if_neg (by omega), if_neg (by omega)]
theorem ent_Z {k : Nat} (h1 : 13 ≤ k) (h2 : k < 17) : ent G μ k = .inl (G.2.2.1.2.2.1, lnI k, .inl (μ.1 k)) := by
  unfold ent
  rw [if_neg (by omega), if_neg (by omega), if_pos h2]
theorem ent_A {k : Nat} (h1 : 8 ≤ k) (h2 : k < 13) : ent G μ k = .inl (G.2.2.1.2.2.2, outN k, .inr (.inr (.inr (.inr (fun i => some (G.2.1 (outB k + i))))))) := by
  unfold ent
  rw [if_neg (by omega), if_pos h2]
theorem ent_O {k : Nat} (h1 : k < 8) : ent G μ k = .inr (obC k, obF G μ k) := by
  unfold ent
  rw [if_pos h1]
theorem m_iaload (hx : p.tables.exec = Jvm.exec) (hb : c.code = cc) (hK : va_K G.1 vwCl (tyG G) s) (hw : Wk G s μ H locs) {k : Nat} {i v : Int32} (hv : ldI μ k i = some v) (hdg : decode cc pc = .ok (.iaload, 1)) (kk : W p l e R s m args below meth c H locs cells slots Q (F0 m (pc + 1) ls (.int v :: rest))) : W p l e R s m args below meth c H locs cells slots Q (F0 m pc ls (.int i :: .ref (G.2.1 k) :: rest)) := by
  obtain ⟨⟨⟨h1, h2⟩, h3⟩, rfl⟩ := somx hv
  exact va_iald hx hb hK hw.1 k 0 (by rw [WL_get (by omega), ent_I h1 h2]) rfl h3 hdg kk
theorem m_baload (hx : p.tables.exec = Jvm.exec) (hb : c.code = cc) (hK : va_K G.1 vwCl (tyG G) s) (hw : Wk G s μ H locs) {k : Nat} {i v : Int32} (hv : ldZ μ k i = some v) (hdg : decode cc pc = .ok (.baload, 1)) (kk : W p l e R s m args below meth c H locs cells slots Q (F0 m (pc + 1) ls (.int v :: rest))) : W p l e R s m args below meth c H locs cells slots Q (F0 m pc ls (.int i :: .ref (G.2.1 k) :: rest)) := by
  obtain ⟨⟨⟨h1, h2⟩, h3⟩, rfl⟩ := somx hv
  exact va_zald hx hb hK hw.1 k 2 (by rw [WL_get (by omega), ent_Z h1 h2]) rfl h3 hdg kk
theorem m_laload (hx : p.tables.exec = Jvm.exec) (hb : c.code = cc) (hK : va_K G.1 vwCl (tyG G) s) (hw : Wk G s μ H locs) {k : Nat} {i : Int32} {v : Int64} (hv : ldJ μ k i = some v) (hdg : decode cc pc = .ok (.laload, 1)) (kk : W p l e R s m args below meth c H locs cells slots Q (F0 m (pc + 1) ls (.long v :: rest))) : W p l e R s m args below meth c H locs cells slots Q (F0 m pc ls (.int i :: .ref (G.2.1 k) :: rest)) := by
  obtain ⟨⟨⟨h1, h2⟩, h3⟩, rfl⟩ := somx hv
  exact va_lald hx hb hK hw.1 k 1 (by rw [WL_get (by omega), ent_J h1]) rfl h3 hdg kk
theorem m_aaload (hx : p.tables.exec = Jvm.exec) (hb : c.code = cc) (hK : va_K G.1 vwCl (tyG G) s) (hw : Wk G s μ H locs) {k a : Nat} {i : Int32} (hv : ldA k i = some a) (hdg : decode cc pc = .ok (.aaload, 1)) (kk : W p l e R s m args below meth c H locs cells slots Q (F0 m (pc + 1) ls (.ref (G.2.1 a) :: rest))) : W p l e R s m args below meth c H locs cells slots Q (F0 m pc ls (.int i :: .ref (G.2.1 k) :: rest)) := by
  obtain ⟨⟨⟨h1, h2⟩, h3⟩, rfl⟩ := somx hv
  have hlt : i.toNatClampNeg < outN k := Nat.not_le.mp fun q => h3 (Or.inr q)
  have hc := hw.1 k _ (WL_get (G := G) (μ := μ) (by omega))
  rw [ent_A h1 h2] at hc
  exact W.aald (v := .ref (G.2.1 (outB k + i.toNatClampNeg))) (ty := .array .long) hx hb hc ((hK.2 3 _ rfl).1 (outN k) (fun j => va_rf (some (G.2.1 (outB k + j))))) rfl (fun q => by cases q) (by show ¬ (i < 0 ∨ (arrV _ _ _).slots.size ≤ _); rw [arrV_size]; exact h3) (by show (arrV _ _ _).slots[_]? = _; rw [arrV_read _ _ hlt]; rfl) rfl rfl hdg kk
theorem upI_self {f : Nat → Nat → Int32} {k j : Nat} {v : Int32} : upI f k j v k = upd (f k) j v := by
  funext b
  simp [upI, upd]
theorem upJ_self {f : Nat → Nat → Int64} {k j : Nat} {v : Int64} : upJ f k j v k = vp_updL (f k) j v := by
  funext b
  simp [upJ, vp_updL]
theorem upI_ne {f : Nat → Nat → Int32} {k j a : Nat} {v : Int32} (h : a ≠ k) (b : Nat) : upI f k j v a b = f a b := by simp [upI, h]
theorem upJ_ne {f : Nat → Nat → Int64} {k j a : Nat} {v : Int64} (h : a ≠ k) (b : Nat) : upJ f k j v a b = f a b := by simp [upJ, h]
theorem m_iastore (hx : p.tables.exec = Jvm.exec) (hb : c.code = cc) (hK : va_K G.1 vwCl (tyG G) s) (hw : Wk G s μ H locs) {k : Nat} {i v : Int32} (hm : stI μ k i v = some μ1) (hdg : decode cc pc = .ok (.iastore, 1)) (kk : ∀ (H1 : Heap) (locs1 : List Loc), Wk G s μ1 H1 locs1 → W p l e R s m args below meth c H1 locs1 cells slots Q (F0 m (pc + 1) ls rest)) : W p l e R s m args below meth c H locs cells slots Q (F0 m pc ls (.int v :: .int i :: .ref (G.2.1 k) :: rest)) := by
  obtain ⟨⟨⟨h1, h2⟩, h3⟩, rfl⟩ := somx hm
  refine va_iast hx hb hK hw.1 hw.2.1 hw.2.2 k 0 (by rw [WL_get (by omega), ent_I h1 h2]) rfl h3 hdg (fun H1 locs1 hP hD hS => ?_)
  have e : (WL G μ).set k (G.2.1 k, .inl (G.2.2.1.1, lnI k, .inl (upd (μ.1 k) i.toNatClampNeg v))) = WL G (upI μ.1 k i.toNatClampNeg v, μ.2) := WL_set (by omega) (by rw [ent_I h1 h2]; dsimp only; rw [upI_self]) (fun a ha => ⟨upI_ne ha, fun _ => rfl⟩)
  rw [e] at hP hD
  exact kk H1 locs1 ⟨hP, hD, hS⟩
theorem nar_Z {v : Int32} (h : v = 0 ∨ v = 1) : vp_nar .boolean v = v := by
  rcases h with rfl | rfl <;> rfl
theorem m_bastore (hx : p.tables.exec = Jvm.exec) (hb : c.code = cc) (hK : va_K G.1 vwCl (tyG G) s) (hw : Wk G s μ H locs) {k : Nat} {i v : Int32} (hm : stZ μ k i v = some μ1) (hdg : decode cc pc = .ok (.bastore, 1)) (kk : ∀ (H1 : Heap) (locs1 : List Loc), Wk G s μ1 H1 locs1 → W p l e R s m args below meth c H1 locs1 cells slots Q (F0 m (pc + 1) ls rest)) : W p l e R s m args below meth c H locs cells slots Q (F0 m pc ls (.int v :: .int i :: .ref (G.2.1 k) :: rest)) := by
  obtain ⟨⟨⟨⟨h1, h1'⟩, h2⟩, h3⟩, rfl⟩ := somx hm
  refine va_zast hx hb hK hw.1 hw.2.1 hw.2.2 k 2 (by rw [WL_get (by omega), ent_Z h1 h1']) rfl h3 hdg (fun H1 locs1 hP hD hS => ?_)
  rw [nar_Z h2] at hP hD
  have e : (WL G μ).set k (G.2.1 k, .inl (G.2.2.1.2.2.1, lnI k, .inl (upd (μ.1 k) i.toNatClampNeg v))) = WL G (upI μ.1 k i.toNatClampNeg v, μ.2) := WL_set (by omega) (by rw [ent_Z h1 h1']; dsimp only; rw [upI_self]) (fun a ha => ⟨upI_ne ha, fun _ => rfl⟩)
  rw [e] at hP hD
  exact kk H1 locs1 ⟨hP, hD, hS⟩
theorem m_lastore (hx : p.tables.exec = Jvm.exec) (hb : c.code = cc) (hK : va_K G.1 vwCl (tyG G) s) (hw : Wk G s μ H locs) {k : Nat} {i : Int32} {v : Int64} (hm : stJ μ k i v = some μ1) (hdg : decode cc pc = .ok (.lastore, 1)) (kk : ∀ (H1 : Heap) (locs1 : List Loc), Wk G s μ1 H1 locs1 → W p l e R s m args below meth c H1 locs1 cells slots Q (F0 m (pc + 1) ls rest)) : W p l e R s m args below meth c H locs cells slots Q (F0 m pc ls (.long v :: .int i :: .ref (G.2.1 k) :: rest)) := by
  obtain ⟨⟨⟨h1, h2⟩, h3⟩, rfl⟩ := somx hm
  refine va_last hx hb hK hw.1 hw.2.1 hw.2.2 k 1 (by rw [WL_get (by omega), ent_J h1]) rfl h3 hdg (fun H1 locs1 hP hD hS => ?_)
  have e : (WL G μ).set k (G.2.1 k, .inl (G.2.2.1.2.1, lnJ k, .inr (.inl (vp_updL (μ.2 k) i.toNatClampNeg v)))) = WL G (μ.1, upJ μ.2 k i.toNatClampNeg v) := WL_set (by omega) (by rw [ent_J h1]; dsimp only; rw [upJ_self]) (fun a ha => ⟨fun _ => rfl, upJ_ne ha⟩)
  rw [e] at hP hD
  exact kk H1 locs1 ⟨hP, hD, hS⟩
/-- a field was written -/
theorem wk_put {k j : Nat} {w : Value} (hk : k < 8) (hf : (obF G μ k).set j w = obF G μ1 k) (ho : ∀ a, a ≠ k → (∀ b, μ1.1 a b = μ.1 a b) ∧ ∀ b, μ1.2 a b = μ.2 a b)
    (hP : va_P G.1 vwCl ((WL G μ).set k (G.2.1 k, .inr (obC k, (obF G μ k).set j w))) H) (hD : va_D (AW G s.heap.size) ((WL G μ).set k (G.2.1 k, .inr (obC k, (obF G μ k).set j w)))) (hS : va_S (AW G s.heap.size) s.heap H locs) : Wk G s μ1 H locs := by
  have e : (WL G μ).set k (G.2.1 k, .inr (obC k, (obF G μ k).set j w)) = WL G μ1 := WL_set (by omega) (by rw [ent_O hk, hf]) ho
  rw [e] at hP hD
  exact ⟨hP, hD, hS⟩
theorem wk_pI {k j : Nat} {v : Int32} (hm : pI μ k j v = some μ1) (hk : k < 8) (hf : (obF G μ k).set j (.int v) = obF G (upI μ.1 k j v, μ.2) k)
    (hP : va_P G.1 vwCl ((WL G μ).set k (G.2.1 k, .inr (obC k, (obF G μ k).set j (.int v)))) H) (hD : va_D (AW G s.heap.size) ((WL G μ).set k (G.2.1 k, .inr (obC k, (obF G μ k).set j (.int v))))) (hS : va_S (AW G s.heap.size) s.heap H locs) : Wk G s μ1 H locs := by
  cases hm
  exact wk_put hk hf (fun a ha => ⟨upI_ne ha, fun _ => rfl⟩) hP hD hS
theorem wk_pZ {k j : Nat} {v : Int32} (hm : pZ μ k j v = some μ1) (hk : k < 8) (hf : (obF G μ k).set j (.int v) = obF G (upI μ.1 k j v, μ.2) k)
    (hP : va_P G.1 vwCl ((WL G μ).set k (G.2.1 k, .inr (obC k, (obF G μ k).set j (.int v)))) H) (hD : va_D (AW G s.heap.size) ((WL G μ).set k (G.2.1 k, .inr (obC k, (obF G μ k).set j (.int v))))) (hS : va_S (AW G s.heap.size) s.heap H locs) : Wk G s μ1 H locs := by
  obtain ⟨-, rfl⟩ := somx hm
  exact wk_put hk hf (fun a ha => ⟨upI_ne ha, fun _ => rfl⟩) hP hD hS
theorem wk_pJ {k j : Nat} {v : Int64} (hm : pJ μ k j v = some μ1) (hk : k < 8) (hf : (obF G μ k).set j (.long v) = obF G (μ.1, upJ μ.2 k j v) k)
    (hP : va_P G.1 vwCl ((WL G μ).set k (G.2.1 k, .inr (obC k, (obF G μ k).set j (.long v)))) H) (hD : va_D (AW G s.heap.size) ((WL G μ).set k (G.2.1 k, .inr (obC k, (obF G μ k).set j (.long v))))) (hS : va_S (AW G s.heap.size) s.heap H locs) : Wk G s μ1 H locs := by
  cases hm
  exact wk_put hk hf (fun a ha => ⟨fun _ => rfl, upJ_ne ha⟩) hP hD hS
theorem pZ_ok {k j : Nat} {v : Int32} (hm : pZ μ k j v = some μ1) : narrow .boolean (.int v) = .int v ∧ fits .boolean (.int v) = true := by
  obtain ⟨h, -⟩ := somx hm
  rcases h with rfl | rfl <;> exact ⟨rfl, rfl⟩
-- ends
theorem m_vret (hx : p.tables.exec = Jvm.exec) (hb : c.code = cc) (hr : meth.sig.returnType = none) (hlk : meth.locks = false) (hw : Wk G s μ H locs) (h : some μ = some μ') (hdg : decode cc pc = .ok (.return_, 1)) : WA G R p l e s m args below meth c none μ' H locs pc ls [] := by
  cases h
  exact W.vret hx hb hr (fun t ht hW => ⟨⟨rfl, by rw [ht]; exact hw.1⟩, hw.2.2.F ht⟩) hw.2.2.2.2 hdg hlk
theorem m_iret {v r : Int32} (hx : p.tables.exec = Jvm.exec) (hb : c.code = cc) (hr : meth.sig.returnType = some .int) (hlk : meth.locks = false) (hw : Wk G s μ H locs) (h : some (v, μ) = some (r, μ')) (hdg : decode cc pc = .ok (.ireturn, 1)) : WA G R p l e s m args below meth c (some (.int r)) μ' H locs pc ls [.int v] := by
  cases h
  exact W.iret hx hb hr (fun t ht hW => ⟨⟨rfl, by rw [ht]; exact hw.1⟩, hw.2.2.F ht⟩) hw.2.2.2.2 hdg hlk
theorem m_lret {v r : Int64} (hx : p.tables.exec = Jvm.exec) (hb : c.code = cc) (hr : meth.sig.returnType = some .long) (hlk : meth.locks = false) (hw : Wk G s μ H locs) (h : some (v, μ) = some (r, μ')) (hdg : decode cc pc = .ok (.lreturn, 1)) : WA G R p l e s m args below meth c (some (.long r)) μ' H locs pc ls [.long v] := by
  cases h
  exact W.lret hx hb hr (fun t ht hW => ⟨⟨rfl, by rw [ht]; exact hw.1⟩, hw.2.2.F ht⟩) hw.2.2.2.2 hdg hlk
theorem nar_Z2 {v : Int32} (h : v = 0 ∨ v = 1) : narrow .boolean (.int v) = .int v := by
  rcases h with rfl | rfl <;> rfl
theorem m_zret {v r : Int32} (hx : p.tables.exec = Jvm.exec) (hb : c.code = cc) (hr : meth.sig.returnType = some .boolean) (hlk : meth.locks = false) (hw : Wk G s μ H locs) (h : reZ v μ = some (r, μ')) (hdg : decode cc pc = .ok (.ireturn, 1)) : WA G R p l e s m args below meth c (some (.int r)) μ' H locs pc ls [.int v] := by
  obtain ⟨h1, h2⟩ := somx h
  cases h2
  exact W.zret hx hb hr (nar_Z2 h1) (fun t ht hW => ⟨⟨rfl, by rw [ht]; exact hw.1⟩, hw.2.2.F ht⟩) hw.2.2.2.2 hdg hlk
theorem m_piret {v r : Int32} (hx : p.tables.exec = Jvm.exec) (hb : c.code = cc) (hr : meth.sig.returnType = some .int) (hlk : meth.locks = false) (h : some v = some r) (hdg : decode cc pc = .ok (.ireturn, 1)) : WP R p l e s m args below meth c (.int r) pc ls [.int v] := by
  cases h
  exact W.iret hx hb hr (fun t ht hW => ⟨rfl, ht⟩) (fun q h => by cases h) hdg hlk
theorem m_plret {v r : Int64} (hx : p.tables.exec = Jvm.exec) (hb : c.code = cc) (hr : meth.sig.returnType = some .long) (hlk : meth.locks = false) (h : some v = some r) (hdg : decode cc pc = .ok (.lreturn, 1)) : WP R p l e s m args below meth c (.long r) pc ls [.long v] := by
  cases h
  exact W.lret hx hb hr (fun t ht hW => ⟨rfl, ht⟩) (fun q h => by cases h) hdg hlk
theorem m_pzret {v r : Int32} (hx : p.tables.exec = Jvm.exec) (hb : c.code = cc) (hr : meth.sig.returnType = some .boolean) (hlk : meth.locks = false) (h : okZ v = some r) (hdg : decode cc pc = .ok (.ireturn, 1)) : WP R p l e s m args below meth c (.int r) pc ls [.int v] := by
  obtain ⟨h1, rfl⟩ := somx h
  exact W.zret hx hb hr (nar_Z2 h1) (fun t ht hW => ⟨rfl, ht⟩) (fun q h => by cases h) hdg hlk
-- contracts
theorem WL_D {A : Nat → Prop} (h : va_D A (WL G μ)) : va_D A (WL G μ1) := by
  refine ⟨fun i j p q hi hj e => ?_, fun k q hk => ?_⟩
  · have h1 : i < 85 := by rw [← WL_len (G := G) (μ := μ1)]; exact (List.getElem?_eq_some_iff.mp hi).1
    have h2 : j < 85 := by rw [← WL_len (G := G) (μ := μ1)]; exact (List.getElem?_eq_some_iff.mp hj).1
    rw [WL_get h1] at hi
    rw [WL_get h2] at hj
    cases hi
    cases hj
    exact h.1 i j _ _ (WL_get h1) (WL_get h2) e
  · have h1 : k < 85 := by rw [← WL_len (G := G) (μ := μ1)]; exact (List.getElem?_eq_some_iff.mp hk).1
    rw [WL_get h1] at hk
    cases hk
    exact h.2 k (_, ent G μ k) (WL_get h1)
theorem WL_DA {A : Nat → Prop} {sz : Nat} (h : va_D A (WL G μ)) : va_D (AW G sz) (WL G μ1) := by
  refine ⟨(WL_D (μ1 := μ1) h).1, fun k q hk => ?_⟩
  have h1 : k < 85 := by rw [← WL_len (G := G) (μ := μ1)]; exact (List.getElem?_eq_some_iff.mp hk).1
  rw [WL_get h1] at hk
  cases hk
  exact Or.inl ⟨k, h1, rfl⟩
theorem m_met {y : MethodName} {ws ws' : List Cond} {rm : Room} {maxL : Nat} {ret : Option FieldType} {av : List Value} {r : Option Value} (hy : plainName y.cls = true) (hws : ws = Cond.code y cc maxL ret :: ws') (hlen : (lg_sl av).length ≤ maxL)
    (body : ∀ (p : Program) (e : Env) (s : State) (m : MethodId) (args : Array Value) (below : List Frame) (meth : Method) (c : Code) (ls : Array Slot), CxA G p s m args meth c cc maxL ret y.cls ws → Wk G s μ s.heap [] → lv_has ls maxL (lv_args 0 av) → WA G rm p l e s m args below meth c r μ' s.heap [] 0 ls []) : CT l y ws rm av G μ r μ' := by
  intro sz
  refine Met.ofW (cc := cc) (maxL := maxL) (ret := ret) hy hws ?_
  intro p e s m args below meth c s₁ B hml hv
  obtain ⟨rfl, hsz, hP, hK, hD, hSt⟩ := hv
  subst hsz
  have hl := lv_entry av (n := maxL) hlen
  rw [lg_entry_eq]
  exact body p e s m _ below meth c _ ⟨B.exec, B.bytes, B.returns, hml, findClass_of_methodNamed B.named, atoms_spec (ws := ws) B.pre, B.notSynchronized, hK, hSt⟩ ⟨hP, WL_DA hD, va_S.rf⟩ hl
/-- a contract out of a walk, also for a class of the JDK of which only some methods are the machine's own -/
theorem metF {l : Launch} {y : MethodName} {ws ws' : List Cond} {rm : Room} {Pc : Array Value → State → Prop} {Qc : Array Value → State → Outcome → State → Prop} {mc ms : Nat} {free : Addr → Prop} {maxL : Nat} {ret : Option FieldType} (hy : plainFor y = true) (hw : ws = Cond.code y cc maxL ret :: ws')
    (body : ∀ p e s m args below meth c s₁, BodyLoose p l y (headSpec ws rm) cc maxL ret e s m args below meth c s₁ → c.maxLocals = maxL → Pc args s → W p l e (headSpec ws rm).room s m args below meth c s.heap [] 0 0 (MQ below Qc args s mc ms free) (entryFrame m args maxL)) : Met l y ws rm Pc Qc mc ms free := by
  refine MetFree.of_bodySF (code := cc) (maxLocals := maxL) (ret := ret) hy (fun args s m h hn => ?_) (fun p e s m args below meth c s₁ B hml hP _ => ?_)
  · obtain ⟨meth, c, h1, h2, h3, h4, h5, h6, -, -⟩ := Cond.code_spec hn (atoms_spec (ws := ws) h _ (by rw [hw]; exact List.mem_cons_self))
    exact ⟨meth, c, h1, h2, h3, h4, h5, h6⟩
  · obtain ⟨t, a1, o, b1, b2, b3⟩ := body p e s m args below meth c s₁ B hml hP s₁ (by rw [B.state]; rfl) (Stand.of_body B)
    exact ⟨t, o, a1, b1, b2, ⟨b3.1, b3.2⟩⟩
theorem m_metP {y : MethodName} {ws ws' : List Cond} {rm : Room} {maxL : Nat} {ret : Option FieldType} {av : List Value} {r : Value} (hy : plainFor y = true) (hws : ws = Cond.code y cc maxL ret :: ws') (hlen : (lg_sl av).length ≤ maxL)
    (body : ∀ (p : Program) (e : Env) (s : State) (m : MethodId) (args : Array Value) (below : List Frame) (meth : Method) (c : Code) (ls : Array Slot), CxP p s m args meth c cc maxL ret y.cls ws → lv_has ls maxL (lv_args 0 av) → WP rm p l e s m args below meth c r 0 ls []) : CTp l y ws rm av r := by
  refine metF (cc := cc) (maxL := maxL) (ret := ret) hy hws ?_
  intro p e s m args below meth c s₁ B hml hv
  subst hv
  have hl := lv_entry av (n := maxL) hlen
  rw [lg_entry_eq]
  exact body p e s m _ below meth c _ ⟨B.exec, B.bytes, B.returns, hml, findClass_of_methodNamed B.named, atoms_spec (ws := ws) B.pre, B.notSynchronized⟩ hl
-- calls
theorem wd_blind {sz : Nat} {av : List Value} : FrameBlind (va_Pc av (Wd G sz μ)) := by
  intro a U g mk q
  obtain ⟨q0, q1, qP, qK, qD, qS, qN⟩ := q
  exact ⟨q0, q1, qP, va_K.moved (u := U) (U := U.calling g mk a) (Vm.Alike.refl U.vm) qK, qD, qS.moved (Vm.Alike.refl U.vm), fun w hw => nest_same (u := U) (U := U.calling g mk a) (nestA_ok w hw) rfl (qN w hw)⟩
theorem wd_of (hK : va_K G.1 vwCl (tyG G) s) (hSt : StA G (AW G s.heap.size) s s.heap) (hw : Wk G s μ H locs) {U : State} (hU : U.heap = H) (hW : s.WarmedH U.vm) : Wd G H.size μ U := by
  refine ⟨by rw [hU], by rw [hU]; exact hw.1, va_K.moved hW.alike hK, hw.2.1.weaken (fun _ _ _ _ => trivial), ?_, fun w hq => nest_warm (nestA_ok w hq) hW (hSt.2 w hq)⟩
  have h1 : StZ G (AW G s.heap.size) s H := hSt.1.kept (fun a h1 h2 => hw.2.2.2.1 a h1 h2)
  rw [hU]
  exact (h1.moved hW.alike).narrow (fun q hq => AW_mono hw.2.2.1 hq)
theorem m_preS {As : List Value} (hK : va_K G.1 vwCl (tyG G) s) (hSt : StA G (AW G s.heap.size) s s.heap) (hw : Wk G s μ H locs) : PreS s H (va_Pc As (Wd G H.size μ)) As :=
  ⟨wd_blind, fun _ hU hW => ⟨rfl, wd_of hK hSt hw hU hW⟩⟩
theorem m_preV {As : List Value} {k : Nat} {q : vw_C} (hk : k < 8) (hq : vwCl[obC k]? = some q) (hK : va_K G.1 vwCl (tyG G) s) (hSt : StA G (AW G s.heap.size) s s.heap) (hw : Wk G s μ H locs) : PreV s H q.1 (G.2.1 k) (va_Pc (.ref (G.2.1 k) :: As) (Wd G H.size μ)) As :=
  ⟨wd_blind, va_recv hK hw.1 hq (q0 := k) (by rw [WL_get (k := k) (by omega), ent_O hk]), fun _ hU hW => ⟨rfl, wd_of hK hSt hw hU hW⟩⟩
theorem m_call {a : Array Value} {st0 : List Value} {r : Option Value} (hr : va_Run p l e R s m args below meth c H locs 0 0 0 0 (F0 m pc ls st0) rest (QC G H.size r μ1 a) (AW G H.size)) (hw : Wk G s μ H locs)
    (kk : ∀ (H1 : Heap) (locs1 : List Loc), Wk G s μ1 H1 locs1 → W p l e R s m args below meth c H1 locs1 0 0 Q (F0 m (pc + 3) ls (r.toList ++ rest))) : W p l e R s m args below meth c H locs 0 0 Q (F0 m pc ls st0) := by
  intro T hT X
  obtain ⟨v, st₀, t, T', L, h0, X', hL, e1, e2, ⟨⟨hv, hP1⟩, hz, hk⟩, st⟩ := hr T hT X
  cases hv
  rw [h0] at hz hk
  have hS := hw.2.2
  obtain ⟨t2, a1, b1⟩ := kk T'.heap (locs ++ L) ⟨by rw [e1]; exact hP1, WL_D hw.2.1, Nat.le_trans hS.1 (by rw [e1]; exact hz), fun q h1 h2 => by rw [e1, hk q (Nat.lt_of_lt_of_le h1 hS.1) (fun z => h2 (AW_mono hS.1 z))]; exact hS.2.1 q h1 h2, fun q hq => by
      rcases List.mem_append.mp hq with h | h
      · exact hS.2.2 q h
      · exact AW_mono hS.1 (hL q h)⟩ T' rfl X'
  exact ⟨t2, st t2 a1, b1⟩
theorem m_pcall {a : Array Value} {st0 : List Value} {r : Value} (hr : CallRun p l e R s m args below meth c H locs cells slots 0 0 (F0 m pc ls st0) rest (k2_QcV r a) (fun _ => False)) (kk : W p l e R s m args below meth c H locs cells slots Q (F0 m (pc + 3) ls (r :: rest))) : W p l e R s m args below meth c H locs cells slots Q (F0 m pc ls st0) := W.callV hr kk
theorem m_tab {k N : Nat} {t : List Int32} {i v : Int32} (hx : p.tables.exec = Jvm.exec) (hb : c.code = cc) {A : Nat → Prop} (hT : va_T .int k N (fun j => .int (t.getD j 0)) A s s.heap) (hN : t.length = N) (hS : va_S A s.heap H locs) (hv : ldS t i = some v) (hdg : decode cc pc = .ok (.iaload, 1))
    (kk : W p l e R s m args below meth c H locs cells slots Q (F0 m (pc + 1) ls (.int v :: rest))) : W p l e R s m args below meth c H locs cells slots Q (F0 m pc ls (.int i :: .ref k :: rest)) := by
  obtain ⟨h1, rfl⟩ := somx hv
  subst hN
  exact va_ti hx hb hT hS h1 rfl hdg kk
end MW
end
section
abbrev rm_RP_within : Room := { frames := 0, cells := 0, slots := 0, locals := 0 }
abbrev rm_RP_lot : Room := { frames := 1, cells := 0, slots := 0, locals := 25 }
abbrev rm_RP_isWhat : Room := { frames := 1, cells := 0, slots := 0, locals := 25 }
abbrev rm_RP_amount : Room := { frames := 2, cells := 0, slots := 0, locals := 45 }
abbrev rm_RP_isRange : Room := { frames := 0, cells := 0, slots := 0, locals := 0 }
abbrev rm_Ru_tell : Room := { frames := 0, cells := 0, slots := 0, locals := 0 }
abbrev rm_RP_span : Room := { frames := 2, cells := 0, slots := 0, locals := 45 }
abbrev rm_RP_ratio : Room := { frames := 2, cells := 0, slots := 0, locals := 45 }
abbrev rm_RP_loads : Room := { frames := 1, cells := 0, slots := 0, locals := 26 }
abbrev rm_RP_hasBit : Room := { frames := 0, cells := 0, slots := 0, locals := 0 }
abbrev rm_Ru_isTold : Room := { frames := 1, cells := 0, slots := 0, locals := 21 }
abbrev rm_RP_untell : Room := { frames := 2, cells := 0, slots := 0, locals := 42 }
abbrev rm_Si_fill : Room := { frames := 0, cells := 0, slots := 0, locals := 0 }
abbrev rm_Si_build : Room := { frames := 2, cells := 0, slots := 0, locals := 42 }
abbrev rm_Lo_inStock : Room := { frames := 0, cells := 0, slots := 0, locals := 0 }
abbrev rm_CS_begin : Room := { frames := 1, cells := 0, slots := 0, locals := 22 }
abbrev rm_In_bitCount : Room := { frames := 0, cells := 0, slots := 0, locals := 0 }
abbrev rm_CS_replaced : Room := { frames := 1, cells := 0, slots := 0, locals := 21 }
abbrev rm_CS_meets : Room := { frames := 2, cells := 0, slots := 0, locals := 54 }
abbrev rm_Lo_price : Room := { frames := 0, cells := 0, slots := 0, locals := 0 }
abbrev rm_Ma_floorDiv : Room := { frames := 0, cells := 0, slots := 0, locals := 0 }
abbrev rm_CS_isLess : Room := { frames := 1, cells := 0, slots := 0, locals := 25 }
abbrev rm_Lo_hold : Room := { frames := 0, cells := 0, slots := 0, locals := 0 }
abbrev rm_Ru_atLeast : Room := { frames := 0, cells := 0, slots := 0, locals := 0 }
abbrev rm_Ru_keeps : Room := { frames := 1, cells := 0, slots := 0, locals := 31 }
abbrev rm_CS_weigh : Room := { frames := 2, cells := 0, slots := 0, locals := 61 }
abbrev rm_CS_visitCorners : Room := { frames := 3, cells := 0, slots := 0, locals := 86 }
abbrev rm_CS_expand : Room := { frames := 1, cells := 0, slots := 0, locals := 21 }
abbrev rm_CS_add : Room := { frames := 2, cells := 0, slots := 0, locals := 48 }
abbrev rm_CS_addBoth : Room := { frames := 3, cells := 0, slots := 0, locals := 75 }
abbrev rm_CS_tighten (d : Nat) : Room := { frames := 1 * d + 4, cells := 0, slots := 0, locals := 24 * d + 112 }
abbrev rm_CS_search : Room := { frames := 11, cells := 0, slots := 0, locals := 280 }
abbrev rm_Ma_min : Room := { frames := 0, cells := 0, slots := 0, locals := 0 }
abbrev rm_Ma_max : Room := { frames := 0, cells := 0, slots := 0, locals := 0 }
abbrev rm_WS_begin : Room := { frames := 1, cells := 0, slots := 0, locals := 23 }
abbrev rm_WS_mostLoads : Room := { frames := 1, cells := 0, slots := 0, locals := 25 }
abbrev rm_WS_fewestLoads : Room := { frames := 1, cells := 0, slots := 0, locals := 25 }
abbrev rm_WS_take (d : Nat) : Room := { frames := 2 * d + 3, cells := 0, slots := 0, locals := 51 * d + 79 }
abbrev rm_WS_offer : Room := { frames := 0, cells := 0, slots := 0, locals := 0 }
abbrev rm_WS_place (d : Nat) : Room := { frames := 2 * d + 2, cells := 0, slots := 0, locals := 51 * d + 53 }
abbrev rm_WS_search : Room := { frames := 13, cells := 0, slots := 0, locals := 334 }
abbrev rm_Ma_abs : Room := { frames := 0, cells := 0, slots := 0, locals := 0 }
abbrev rm_CS_commonDivisor : Room := { frames := 1, cells := 0, slots := 0, locals := 21 }
abbrev rm_CS_allBreak : Room := { frames := 0, cells := 0, slots := 0, locals := 0 }
abbrev rm_CS_fewestClashing : Room := { frames := 1, cells := 0, slots := 0, locals := 22 }
abbrev rm_Fo_takeCut : Room := { frames := 2, cells := 0, slots := 0, locals := 48 }
abbrev rm_Fo_takeWhole : Room := { frames := 0, cells := 0, slots := 0, locals := 0 }
abbrev rm_RP_run : Room := { frames := 14, cells := 0, slots := 0, locals := 355 }
abbrev rm_RP_best : Room := { frames := 1, cells := 0, slots := 0, locals := 25 }
abbrev rm_RP_cost : Room := { frames := 0, cells := 0, slots := 0, locals := 0 }
abbrev rm_RP_cut : Room := { frames := 1, cells := 0, slots := 0, locals := 25 }
abbrev rm_RP_clashes : Room := { frames := 1, cells := 0, slots := 0, locals := 20 }
abbrev rm_RP_clash : Room := { frames := 1, cells := 0, slots := 0, locals := 25 }
abbrev rm_RP_broken : Room := { frames := 2, cells := 0, slots := 0, locals := 57 }
abbrev rm_Mo_isIn : Room := { frames := 0, cells := 0, slots := 0, locals := 0 }
abbrev rm_Mo_isWhat : Room := { frames := 0, cells := 0, slots := 0, locals := 0 }
abbrev rm_Mo_lot : Room := { frames := 1, cells := 0, slots := 0, locals := 25 }
abbrev rm_Mo_amount : Room := { frames := 1, cells := 0, slots := 0, locals := 25 }
abbrev rm_Mo_tell : Room := { frames := 0, cells := 0, slots := 0, locals := 0 }
abbrev rm_Mo_span : Room := { frames := 1, cells := 0, slots := 0, locals := 25 }
abbrev rm_Mo_ratio : Room := { frames := 1, cells := 0, slots := 0, locals := 25 }
abbrev rm_Mo_loads : Room := { frames := 1, cells := 0, slots := 0, locals := 25 }
abbrev rm_Mo_untell : Room := { frames := 0, cells := 0, slots := 0, locals := 0 }
abbrev rm_Mo_holds : Room := { frames := 0, cells := 0, slots := 0, locals := 0 }
abbrev rm_Mo_keeps : Room := { frames := 1, cells := 0, slots := 0, locals := 25 }
abbrev rm_Mo_firstBroken : Room := { frames := 2, cells := 0, slots := 0, locals := 50 }
abbrev rm_Mo_broken : Room := { frames := 3, cells := 0, slots := 0, locals := 71 }
abbrev rm_Mo_findWhole : Room := { frames := 3, cells := 0, slots := 0, locals := 71 }
abbrev rm_Mo_setLimit : Room := { frames := 0, cells := 0, slots := 0, locals := 0 }
abbrev rm_Mo_setLimits : Room := { frames := 1, cells := 0, slots := 0, locals := 27 }
abbrev rm_Mo_at : Room := { frames := 0, cells := 0, slots := 0, locals := 0 }
abbrev rm_Mo_minor : Room := { frames := 1, cells := 0, slots := 0, locals := 23 }
abbrev rm_Mo_determinant : Room := { frames := 2, cells := 0, slots := 0, locals := 48 }
abbrev rm_Mo_common : Room := { frames := 0, cells := 0, slots := 0, locals := 0 }
abbrev rm_Mo_meet : Room := { frames := 3, cells := 0, slots := 0, locals := 69 }
abbrev rm_Mo_isKept : Room := { frames := 0, cells := 0, slots := 0, locals := 0 }
abbrev rm_Mo_keptRules : Room := { frames := 1, cells := 0, slots := 0, locals := 32 }
abbrev rm_Mo_isLess : Room := { frames := 0, cells := 0, slots := 0, locals := 0 }
abbrev rm_Mo_lookAtCorner : Room := { frames := 4, cells := 0, slots := 0, locals := 92 }
abbrev rm_Mo_lookAtCorners : Room := { frames := 5, cells := 0, slots := 0, locals := 117 }
abbrev rm_Mo_canBeKept : Room := { frames := 0, cells := 0, slots := 0, locals := 0 }
abbrev rm_Mo_sizeOf : Room := { frames := 0, cells := 0, slots := 0, locals := 0 }
abbrev rm_Mo_findClash : Room := { frames := 1, cells := 0, slots := 0, locals := 22 }
abbrev rm_Mo_run : Room := { frames := 6, cells := 0, slots := 0, locals := 141 }
abbrev rm_Mo_best : Room := { frames := 0, cells := 0, slots := 0, locals := 0 }
abbrev rm_Mo_cost : Room := { frames := 0, cells := 0, slots := 0, locals := 0 }
abbrev rm_Mo_cut : Room := { frames := 0, cells := 0, slots := 0, locals := 0 }
abbrev rm_Mo_clashes : Room := { frames := 1, cells := 0, slots := 0, locals := 22 }
abbrev rm_Mo_clash : Room := { frames := 0, cells := 0, slots := 0, locals := 0 }
def M_RP_within (N : Nat) (x0 : Int64) (x2 : Int64) (x4 : Int64) : Option Int32 := if (0 : Int32) < (lg_cmp x2 x0) then (okZ (0 : Int32)) else (if (0 : Int32) < (lg_cmp x0 x4) then (okZ (0 : Int32)) else (okZ (1 : Int32)))
def M_RP_lot (N : Nat) (x1 : Int32) (x2 : Int64) (μ : Mem) : Option (Int32 × Mem) := if (4 : Int32) ≤ (μ.1 1 0) then (some ((-1 : Int32), μ)) else ((M_RP_within N x1.toInt64 (0 : Int64) (9 : Int64)).bind fun r17 => if r17 = (0 : Int32) then (some ((-1 : Int32), μ)) else ((M_RP_within N x2 (-1000 : Int64) (1000 : Int64)).bind fun r30 => if r30 = (0 : Int32) then (some ((-1 : Int32), μ)) else (nm (μ.1 1 0) fun x4_45 => (stI μ 17 x4_45 x1).bind fun μ57 => (stJ μ57 42 x4_45 x2).bind fun μ68 => (pI μ68 1 0 ((μ68.1 1 0) + (1 : Int32))).bind fun μ79 => some (x4_45, μ79))))
def M_RP_isWhat (N : Nat) (x0 : Int32) : Option Int32 := (M_RP_within N x0.toInt64 (0 : Int64) (4 : Int64)).bind fun r6 => okZ r6
def M_RP_amount (N : Nat) (x1 : Int32) (x2 : Int32) (x3 : Int32) (μ : Mem) : Option (Int32 × Mem) := (M_RP_within N x1.toInt64 (0 : Int64) (((μ.1 1 0) - (1 : Int32)).toInt64)).bind fun r13 => if r13 = (0 : Int32) then (reZ (0 : Int32) μ) else ((M_RP_isWhat N x2).bind fun r20 => if r20 = (0 : Int32) then (reZ (0 : Int32) μ) else ((M_RP_within N x3.toInt64 (-100 : Int64) (100 : Int64)).bind fun r34 => if r34 = (0 : Int32) then (reZ (0 : Int32) μ) else ((ldA 8 x2).bind fun a50 => (stJ μ a50 x1 x3.toInt64).bind fun μ54 => reZ (1 : Int32) μ54)))
def M_RP_isRange (N : Nat) (x0 : Int32) (x1 : Int32) (x2 : Int32) (x3 : Int32) : Option Int32 := if x0 < x2 then (okZ (0 : Int32)) else (if x1 < x0 then (okZ (0 : Int32)) else (if x3 < x1 then (okZ (0 : Int32)) else (okZ (1 : Int32))))
def M_Ru_tell (N : Nat) (x1 : Int32) (x2 : Int32) (x3 : Int32) (x4 : Int32) (x5 : Int32) (x6 : Int32) (μ : Mem) : Option Mem := (stI μ 18 x1 x2).bind fun μ6 => (stI μ6 19 x1 x3).bind fun μ13 => (stI μ13 20 x1 x4).bind fun μ21 => (stI μ21 21 x1 x5).bind fun μ29 => (stI μ29 22 x1 x6).bind fun μ37 => (pI μ37 2 0 ((μ37.1 2 0) ||| ((1 : Int32) <<< (x1 &&& 31)))).bind fun μ47 => some μ47
def M_RP_span (N : Nat) (x1 : Int32) (x2 : Int32) (x3 : Int32) (μ : Mem) : Option (Int32 × Mem) := (M_RP_isWhat N x1).bind fun r1 => if r1 = (0 : Int32) then (reZ (0 : Int32) μ) else ((M_RP_isRange N x2 x3 (-100000 : Int32) (100000 : Int32)).bind fun r13 => if r13 = (0 : Int32) then (reZ (0 : Int32) μ) else ((M_Ru_tell N x1 x1 (6 : Int32) x2 x3 (1 : Int32) μ).bind fun μ32 => reZ (1 : Int32) μ32))
def M_RP_ratio (N : Nat) (x1 : Int32) (x2 : Int32) (x3 : Int32) (x4 : Int32) (x5 : Int32) (x6 : Int32) (μ : Mem) : Option (Int32 × Mem) := (M_RP_within N x1.toInt64 (0 : Int64) (1 : Int64)).bind fun r4 => if r4 = (0 : Int32) then (reZ (0 : Int32) μ) else ((M_RP_isWhat N x2).bind fun r11 => if r11 = (0 : Int32) then (reZ (0 : Int32) μ) else ((M_RP_isWhat N x3).bind fun r18 => if r18 = (0 : Int32) then (reZ (0 : Int32) μ) else ((M_RP_isRange N x4 x5 (0 : Int32) (100 : Int32)).bind fun r33 => if r33 = (0 : Int32) then (reZ (0 : Int32) μ) else ((M_RP_within N x6.toInt64 (1 : Int64) (100 : Int64)).bind fun r46 => if r46 = (0 : Int32) then (reZ (0 : Int32) μ) else ((M_Ru_tell N ((5 : Int32) + x1) x2 x3 x4 x5 x6 μ).bind fun μ69 => reZ (1 : Int32) μ69)))))
def M_RP_loads (N : Nat) (x1 : Int32) (x2 : Int32) (μ : Mem) : Option (Int32 × Mem) := (M_RP_isRange N x1 x2 (0 : Int32) (36 : Int32)).bind fun r5 => if r5 = (0 : Int32) then (reZ (0 : Int32) μ) else ((M_Ru_tell N (7 : Int32) (5 : Int32) (6 : Int32) x1 x2 (1 : Int32) μ).bind fun μ25 => reZ (1 : Int32) μ25)
def M_RP_hasBit (N : Nat) (x0 : Int32) (x1 : Int32) : Option Int32 := if ((x0 >>> (x1 &&& 31)) &&& (1 : Int32)) = (0 : Int32) then (okZ (0 : Int32)) else (okZ (1 : Int32))
def M_Ru_isTold (N : Nat) (x1 : Int32) (μ : Mem) : Option (Int32 × Mem) := (M_RP_hasBit N (μ.1 2 0) x1).bind fun r5 => reZ r5 μ
def M_RP_untell (N : Nat) (x1 : Int32) (μ : Mem) : Option (Int32 × Mem) := (M_RP_within N x1.toInt64 (0 : Int64) (7 : Int64)).bind fun r6 => if r6 = (0 : Int32) then (reZ (0 : Int32) μ) else (bn2 (M_Ru_isTold N x1 μ) fun r17 μ17 => if r17 = (0 : Int32) then (reZ (0 : Int32) μ17) else ((pI μ17 2 0 ((μ17.1 2 0) ^^^ ((1 : Int32) <<< (x1 &&& 31)))).bind fun μ37 => reZ (1 : Int32) μ37))
def M_Si_fill_31 (N : Nat) : Nat → Nat → Nat → Int32 → Nat → Nat → Int32 → Mem → Option Mem
  | 0, _, _, _, _, _, _, _ => none
  | n + 1, k1, k2, x4, k5, k6, x7, μ => if (5 : Int32) ≤ x7 then (some μ) else ((ldI μ 22 x4).bind fun v43 => (ldJ μ k1 x7).bind fun v48 => nm (v43.toInt64 * v48) fun x8_50 => (ldI μ 20 x4).bind fun v64 => (ldJ μ k2 x7).bind fun v69 => (stJ μ k5 x7 (x8_50 - (v64.toInt64 * v69))).bind fun μ72 => (ldI μ72 21 x4).bind fun v83 => (ldJ μ72 k2 x7).bind fun v88 => (stJ μ72 k6 x7 ((v83.toInt64 * v88) - x8_50)).bind fun μ93 => M_Si_fill_31 N n k1 k2 x4 k5 k6 (x7 + 1) μ93)
def M_Si_fill (N : Nat) (k1 : Nat) (k2 : Nat) (x4 : Int32) (μ : Mem) : Option Mem := (ldA 9 ((2 : Int32) * (μ.1 3 0))).bind fun a10 => (ldA 9 (((2 : Int32) * (μ.1 3 0)) + (1 : Int32))).bind fun a25 => M_Si_fill_31 N N k1 k2 x4 a10 a25 (0 : Int32) μ
def M_Si_build_7 (N : Nat) : Nat → Int32 → Mem → Option Mem
  | 0, _, _ => none
  | n + 1, x3, μ => if (8 : Int32) ≤ x3 then (some μ) else (bn2 (M_Ru_isTold N x3 μ) fun r15 μ15 => if r15 = (0 : Int32) then (M_Si_build_7 N n (x3 + 1) μ15) else ((stI μ15 23 (μ15.1 3 0) x3).bind fun μ30 => (ldI μ30 18 x3).bind fun v41 => (ldA 8 v41).bind fun a42 => (ldI μ30 19 x3).bind fun v52 => (ldA 8 v52).bind fun a53 => (M_Si_fill N a42 a53 x3 μ30).bind fun μ56 => (pI μ56 3 0 ((μ56.1 3 0) + (1 : Int32))).bind fun μ66 => M_Si_build_7 N n (x3 + 1) μ66))
def M_Si_build (N : Nat) (μ : Mem) : Option Mem := (pI μ 3 0 (0 : Int32)).bind fun μ2 => M_Si_build_7 N N (0 : Int32) μ2
def M_Lo_inStock_4 (N : Nat) : Nat → Int32 → Int32 → Mem → Option (Int32 × Mem)
  | 0, _, _, _ => none
  | n + 1, x1, x2, μ => if (4 : Int32) ≤ x2 then (some (x1, μ)) else ((ldI μ 17 x2).bind fun v14 => if v14 ≤ (0 : Int32) then (M_Lo_inStock_4 N n x1 (x2 + 1) μ) else (nm (x1 ||| ((1 : Int32) <<< (x2 &&& 31))) fun x1_23 => M_Lo_inStock_4 N n x1_23 (x2 + 1) μ))
def M_Lo_inStock (N : Nat) (μ : Mem) : Option (Int32 × Mem) := M_Lo_inStock_4 N N (0 : Int32) (0 : Int32) μ
def M_CS_begin_2 (N : Nat) : Nat → Int32 → Mem → Option Mem
  | 0, _, _ => none
  | n + 1, x1, μ => if (μ.1 4 8) ≤ x1 then ((pI μ 4 8 (0 : Int32)).bind fun μ30 => (pZ μ30 4 10 (0 : Int32)).bind fun μ35 => (pJ μ35 4 11 (0 : Int64)).bind fun μ40 => (pJ μ40 4 12 (1 : Int64)).bind fun μ45 => bn2 (M_Lo_inStock N μ45) fun r53 μ53 => (pI μ53 4 9 r53).bind fun μ56 => (ldA 10 (0 : Int32)).bind fun a64 => (stJ μ56 a64 (0 : Int32) (1 : Int64)).bind fun μ67 => some μ67) else ((ldI μ 24 x1).bind fun v19 => (stZ μ 13 v19 (0 : Int32)).bind fun μ21 => M_CS_begin_2 N n (x1 + 1) μ21)
def M_CS_begin (N : Nat) (μ : Mem) : Option Mem := M_CS_begin_2 N N (0 : Int32) μ
def M_In_bitCount (N : Nat) (x0 : Int32) : Option Int32 := nm (x0 - (((x0.toUInt32 >>> ((1 : Int32).toUInt32 &&& Int32.toUInt32 31)).toInt32) &&& (1431655765 : Int32))) fun x0_9 => nm ((x0_9 &&& (858993459 : Int32)) + (((x0_9.toUInt32 >>> ((2 : Int32).toUInt32 &&& Int32.toUInt32 31)).toInt32) &&& (858993459 : Int32))) fun x0_23 => nm ((x0_23 + ((x0_23.toUInt32 >>> ((4 : Int32).toUInt32 &&& Int32.toUInt32 31)).toInt32)) &&& (252645135 : Int32)) fun x0_33 => nm (x0_33 + ((x0_33.toUInt32 >>> ((8 : Int32).toUInt32 &&& Int32.toUInt32 31)).toInt32)) fun x0_40 => nm (x0_40 + ((x0_40.toUInt32 >>> ((16 : Int32).toUInt32 &&& Int32.toUInt32 31)).toInt32)) fun x0_47 => some (x0_47 &&& (63 : Int32))
def M_CS_replaced_109 (N : Nat) (K13 : Nat → Int32 → Int32 → Int64 → Int32 → Int32 → Mem → Option (Int64 × Mem)) (k1 : Nat) (x2 : Int32) (x4 : Int32) (x7 : Int32) (x8 : Int32) (y0 : Int64) (y1 : Int64) (μ : Mem) : Option (Int64 × Mem) := nm (y0 + y1) fun x5_110 => K13 k1 x2 x4 x5_110 x7 (x8 + 1) μ
def M_CS_replaced_59 (N : Nat) (K13 : Nat → Int32 → Int32 → Int64 → Int32 → Int32 → Mem → Option (Int64 × Mem)) (k1 : Nat) (x2 : Int32) (x4 : Int32) (x5 : Int64) (x7 : Int32) (x8 : Int32) (y0 : Int64) (μ : Mem) : Option (Int64 × Mem) := nm (x2 &&& (x7 ^^^ (((1 : Int32) <<< (x8 &&& 31)) - (1 : Int32)))) fun x11_72 => (ldJ μ k1 (x2 ||| ((1 : Int32) <<< (x8 &&& 31)))).bind fun v83 => nm (y0 * v83) fun x12_85 => (M_In_bitCount N x11_72).bind fun r91 => (M_RP_hasBit N r91 (0 : Int32)).bind fun r95 => if r95 = (0 : Int32) then (M_CS_replaced_109 N K13 k1 x2 x4 x7 x8 x5 x12_85 μ) else (M_CS_replaced_109 N K13 k1 x2 x4 x7 x8 x5 (-x12_85) μ)
def M_CS_replaced_38 (N : Nat) (K13 : Nat → Int32 → Int32 → Int64 → Int32 → Int32 → Mem → Option (Int64 × Mem)) (k1 : Nat) (x2 : Int32) (x4 : Int32) (x5 : Int64) (x7 : Int32) (x8 : Int32) (μ : Mem) : Option (Int64 × Mem) := if x8 = (4 : Int32) then (M_CS_replaced_59 N K13 k1 x2 x4 x5 x7 x8 (1 : Int64) μ) else ((ldI μ 17 x8).bind fun v57 => M_CS_replaced_59 N K13 k1 x2 x4 x5 x7 x8 v57.toInt64 μ)
def M_CS_replaced_13 (N : Nat) : Nat → Nat → Int32 → Int32 → Int64 → Int32 → Int32 → Mem → Option (Int64 × Mem)
  | 0, _, _, _, _, _, _, _ => none
  | n + 1, k1, x2, x4, x5, x7, x8, μ => if (5 : Int32) ≤ x8 then (some (x5, μ)) else (if x8 = (4 : Int32) then (M_CS_replaced_38 N (M_CS_replaced_13 N n) k1 x2 x4 x5 x7 x8 μ) else ((M_RP_hasBit N x4 x8).bind fun r29 => if r29 = (0 : Int32) then (M_CS_replaced_13 N n k1 x2 x4 x5 x7 (x8 + 1) μ) else (M_CS_replaced_38 N (M_CS_replaced_13 N n) k1 x2 x4 x5 x7 x8 μ)))
def M_CS_replaced (N : Nat) (k1 : Nat) (x2 : Int32) (x3 : Int32) (x4 : Int32) (μ : Mem) : Option (Int64 × Mem) := nm (((1 : Int32) <<< (x3 &&& 31)) - (1 : Int32)) fun x7_8 => M_CS_replaced_13 N N k1 x2 x4 (0 : Int64) x7_8 (0 : Int32) μ
def M_CS_meets_88 (N : Nat) (K36 : Nat → Int32 → Int32 → Int64 → Int64 → Int32 → Mem → Option (Int32 × Mem)) (k1 : Nat) (x2 : Int32) (x3 : Int32) (x4 : Int64) (x6 : Int64) (x8 : Int32) (y1 : Int32) (y2 : Int64) (μ : Mem) : Option (Int32 × Mem) := (stJ μ 43 y1 y2).bind fun μ88 => K36 k1 x2 x3 x4 x6 (x8 + 1) μ88
def M_CS_meets_36 (N : Nat) : Nat → Nat → Int32 → Int32 → Int64 → Int64 → Int32 → Mem → Option (Int32 × Mem)
  | 0, _, _, _, _, _, _, _ => none
  | n + 1, k1, x2, x3, x4, x6, x8, μ => if (4 : Int32) ≤ x8 then (reZ (1 : Int32) μ) else ((ldI μ 17 x8).bind fun v51 => nm (v51.toInt64 * x6) fun x9_56 => (M_RP_hasBit N x2 x8).bind fun r61 => if r61 = (0 : Int32) then ((M_RP_hasBit N x3 x8).bind fun r76 => if r76 = (0 : Int32) then (M_CS_meets_88 N (M_CS_meets_36 N n) k1 x2 x3 x4 x6 x8 x8 (0 : Int64) μ) else (M_CS_meets_88 N (M_CS_meets_36 N n) k1 x2 x3 x4 x6 x8 x8 x9_56 μ)) else (bn2 (M_CS_replaced N k1 (x2 ^^^ ((1 : Int32) <<< (x8 &&& 31))) x8 x3 μ) fun r106 μ106 => nm ((-x4) * r106) fun x11_110 => (M_RP_within N x11_110 (0 : Int64) x9_56).bind fun r117 => if r117 = (0 : Int32) then (reZ (0 : Int32) μ106) else ((stJ μ106 43 x8 x11_110).bind fun μ133 => M_CS_meets_36 N n k1 x2 x3 x4 x6 (x8 + 1) μ133)))
def M_CS_meets_15 (N : Nat) (k1 : Nat) (x2 : Int32) (x3 : Int32) (y0 : Int64) (μ : Mem) : Option (Int32 × Mem) := (ldJ μ k1 x2).bind fun v21 => nm (y0 * v21) fun x6_23 => (stJ μ 43 (4 : Int32) x6_23).bind fun μ32 => M_CS_meets_36 N N k1 x2 x3 y0 x6_23 (0 : Int32) μ32
def M_CS_meets (N : Nat) (k1 : Nat) (x2 : Int32) (x3 : Int32) (μ : Mem) : Option (Int32 × Mem) := (ldJ μ k1 x2).bind fun v2 => if (0 : Int32) ≤ (lg_cmp v2 (0 : Int64)) then (M_CS_meets_15 N k1 x2 x3 (1 : Int64) μ) else (M_CS_meets_15 N k1 x2 x3 (-1 : Int64) μ)
def M_Lo_price_5 (N : Nat) : Nat → Nat → Int64 → Int32 → Mem → Option (Int64 × Mem)
  | 0, _, _, _, _ => none
  | n + 1, k1, x2, x4, μ => if (4 : Int32) ≤ x4 then (some (x2, μ)) else ((ldJ μ 42 x4).bind fun v18 => (ldJ μ k1 x4).bind fun v22 => nm (x2 + (v18 * v22)) fun x2_25 => M_Lo_price_5 N n k1 x2_25 (x4 + 1) μ)
def M_Lo_price (N : Nat) (k1 : Nat) (μ : Mem) : Option (Int64 × Mem) := M_Lo_price_5 N N k1 (0 : Int64) (0 : Int32) μ
def M_Ma_floorDiv (N : Nat) (x0 : Int64) (x2 : Int64) : Option Int64 := (dvJ x0 x2).bind fun v2 => if (0 : Int32) ≤ (lg_cmp (x0 ^^^ x2) (0 : Int64)) then (some v2) else (if (lg_cmp (v2 * x2) x0) = (0 : Int32) then (some v2) else (some (v2 - (1 : Int64))))
def M_CS_isLess_96 (N : Nat) (x15 : Int64) : Option Int32 := if (lg_cmp x15 (0 : Int64)) = (0 : Int32) then (okZ (0 : Int32)) else (okZ (1 : Int32))
def M_CS_isLess_3 (N : Nat) : Nat → Int64 → Int64 → Int64 → Int64 → Int32 → Option Int32
  | 0, _, _, _, _, _ => none
  | n + 1, x0, x2, x4, x6, x8 => if (200 : Int32) ≤ x8 then (okZ (0 : Int32)) else (if (lg_cmp x2 (0 : Int64)) ≤ (0 : Int32) then (okZ (0 : Int32)) else (if (0 : Int32) < (lg_cmp x6 (0 : Int64)) then ((M_Ma_floorDiv N x0 x2).bind fun r28 => (M_Ma_floorDiv N x4 x6).bind fun r37 => if (lg_cmp r28 r37) = (0 : Int32) then (nm (x0 - (r28 * x2)) fun x13_70 => nm (x4 - (r37 * x6)) fun x15_80 => if (lg_cmp x13_70 (0 : Int64)) = (0 : Int32) then (M_CS_isLess_96 N x15_80) else (if (lg_cmp x15_80 (0 : Int64)) = (0 : Int32) then (M_CS_isLess_96 N x15_80) else (M_CS_isLess_3 N n x6 x15_80 x2 x13_70 (x8 + 1)))) else (if (0 : Int32) ≤ (lg_cmp r28 r37) then (okZ (0 : Int32)) else (okZ (1 : Int32)))) else (okZ (0 : Int32))))
def M_CS_isLess (N : Nat) (x0 : Int64) (x2 : Int64) (x4 : Int64) (x6 : Int64) : Option Int32 := M_CS_isLess_3 N N x0 x2 x4 x6 (0 : Int32)
def M_Lo_hold_22 (N : Nat) (K2 : Nat → Nat → Int32 → Mem → Option Mem) : Nat → Nat → Nat → Int32 → Nat → Int64 → Int32 → Mem → Option Mem
  | 0, _, _, _, _, _, _, _ => none
  | n + 1, k1, k2, x3, k4, x5, x7, μ => if (5 : Int32) ≤ x7 then ((stJ μ k2 x3 x5).bind fun μ53 => K2 k1 k2 (x3 + 1) μ53) else ((ldJ μ k4 x7).bind fun v34 => (ldJ μ k1 x7).bind fun v38 => nm (x5 + (v34 * v38)) fun x5_41 => M_Lo_hold_22 N K2 n k1 k2 x3 k4 x5_41 (x7 + 1) μ)
def M_Lo_hold_2 (N : Nat) : Nat → Nat → Nat → Int32 → Mem → Option Mem
  | 0, _, _, _, _ => none
  | n + 1, k1, k2, x3, μ => if (7 : Int32) ≤ x3 then (some μ) else ((ldA 8 x3).bind fun a13 => M_Lo_hold_22 N (M_Lo_hold_2 N n) N k1 k2 x3 a13 (0 : Int64) (0 : Int32) μ)
def M_Lo_hold (N : Nat) (k1 : Nat) (k2 : Nat) (μ : Mem) : Option Mem := M_Lo_hold_2 N N k1 k2 (0 : Int32) μ
def M_Ru_atLeast (N : Nat) (x0 : Int64) (x2 : Int64) (x4 : Int64) (x6 : Int64) : Option Int32 := nm ((x0 * (x2 >>> ((20 : Int32).toInt64 &&& 63))) - (x4 * (x6 >>> ((20 : Int32).toInt64 &&& 63)))) fun x8_15 => nm ((x0 * (x2 &&& (1048575 : Int64))) - (x4 * (x6 &&& (1048575 : Int64)))) fun x10_34 => if (lg_cmp (x8_15 + (x10_34 >>> ((20 : Int32).toInt64 &&& 63))) (0 : Int64)) < (0 : Int32) then (okZ (0 : Int32)) else (okZ (1 : Int32))
def M_Ru_keeps (N : Nat) (x1 : Int32) (k2 : Nat) (μ : Mem) : Option (Int32 × Mem) := (ldI μ 18 x1).bind fun v6 => (ldJ μ k2 v6).bind fun v7 => (ldI μ 19 x1).bind fun v15 => (ldJ μ k2 v15).bind fun v16 => (ldI μ 22 x1).bind fun v24 => (ldI μ 20 x1).bind fun v32 => (M_Ru_atLeast N v24.toInt64 v7 v32.toInt64 v16).bind fun r36 => if r36 = (0 : Int32) then (reZ (0 : Int32) μ) else ((ldI μ 21 x1).bind fun v47 => (ldI μ 22 x1).bind fun v56 => (M_Ru_atLeast N v47.toInt64 v16 v56.toInt64 v7).bind fun r59 => if r59 = (0 : Int32) then (reZ (0 : Int32) μ) else (reZ (1 : Int32) μ))
def M_CS_weigh_61 (N : Nat) : Nat → Int64 → Int32 → Int32 → Mem → Option Mem
  | 0, _, _, _, _ => none
  | n + 1, x1, x3, x4, μ => if (μ.1 3 0) ≤ x4 then (if x3 = (0 : Int32) then ((pZ μ 4 10 (1 : Int32)).bind fun μ124 => (pJ μ124 4 11 x1).bind fun μ129 => (ldJ μ129 43 (4 : Int32)).bind fun v138 => (pJ μ129 4 12 v138).bind fun μ139 => some μ139) else ((ldZ μ 13 x3).bind fun v150 => if v150 = (0 : Int32) then ((stZ μ 13 x3 (1 : Int32)).bind fun μ160 => (stI μ160 24 (μ160.1 4 8) x3).bind fun μ170 => (pI μ170 4 8 ((μ170.1 4 8) + (1 : Int32))).bind fun μ178 => some μ178) else (some μ))) else ((ldI μ 23 x4).bind fun v86 => bn2 (M_Ru_keeps N v86 44 μ) fun r91 μ91 => if r91 = (0 : Int32) then ((ldI μ91 23 x4).bind fun v108 => nm (x3 ||| ((1 : Int32) <<< (v108 &&& 31))) fun x3_111 => M_CS_weigh_61 N n x1 x3_111 (x4 + 1) μ91) else (M_CS_weigh_61 N n x1 x3 (x4 + 1) μ91))
def M_CS_weigh_41 (N : Nat) (x1 : Int64) (μ : Mem) : Option Mem := (M_Lo_hold N 43 44 μ).bind fun μ53 => M_CS_weigh_61 N N x1 (0 : Int32) (0 : Int32) μ53
def M_CS_weigh (N : Nat) (μ : Mem) : Option Mem := bn2 (M_Lo_price N 43 μ) fun r8 μ8 => if (μ8.1 4 10) = (0 : Int32) then (M_CS_weigh_41 N r8 μ8) else ((ldJ μ8 43 (4 : Int32)).bind fun v25 => (M_CS_isLess N r8 v25 (μ8.2 4 11) (μ8.2 4 12)).bind fun r34 => if r34 = (0 : Int32) then (some μ8) else (M_CS_weigh_41 N r8 μ8))
def M_CS_visitCorners_69 (N : Nat) (K13 : Int32 → Nat → Int32 → Mem → Option Mem) : Nat → Int32 → Nat → Int32 → Int32 → Int32 → Int32 → Mem → Option Mem
  | 0, _, _, _, _, _, _, _ => none
  | n + 1, x1, k2, x3, x4, x5, x6, μ => if (16 : Int32) ≤ x6 then (K13 x1 k2 (x3 + 1) μ) else (if (x6 &&& (x5 ^^^ (-1 : Int32))) = (0 : Int32) then (bn2 (M_CS_meets N k2 x4 x6 μ) fun r92 μ92 => if r92 = (0 : Int32) then (M_CS_visitCorners_69 N K13 n x1 k2 x3 x4 x5 (x6 + 1) μ92) else ((M_CS_weigh N μ92).bind fun μ99 => M_CS_visitCorners_69 N K13 n x1 k2 x3 x4 x5 (x6 + 1) μ99)) else (M_CS_visitCorners_69 N K13 n x1 k2 x3 x4 x5 (x6 + 1) μ))
def M_CS_visitCorners_13 (N : Nat) : Nat → Int32 → Nat → Int32 → Mem → Option Mem
  | 0, _, _, _, _ => none
  | n + 1, x1, k2, x3, μ => (ldS tSTARTS (x1 + (1 : Int32))).bind fun v20 => if v20 ≤ x3 then (some μ) else ((ldS tSETS x3).bind fun v28 => if (v28 &&& ((μ.1 4 9) ^^^ (-1 : Int32))) = (0 : Int32) then ((ldJ μ k2 v28).bind fun v46 => if (lg_cmp v46 (0 : Int64)) = (0 : Int32) then (M_CS_visitCorners_13 N n x1 k2 (x3 + 1) μ) else (nm ((μ.1 4 9) &&& (v28 ^^^ (-1 : Int32))) fun x5_64 => M_CS_visitCorners_69 N (M_CS_visitCorners_13 N n) N x1 k2 x3 v28 x5_64 (0 : Int32) μ)) else (M_CS_visitCorners_13 N n x1 k2 (x3 + 1) μ))
def M_CS_visitCorners (N : Nat) (x1 : Int32) (μ : Mem) : Option Mem := (ldA 10 x1).bind fun a5 => (ldS tSTARTS x1).bind fun v11 => M_CS_visitCorners_13 N N x1 a5 v11 μ
def M_CS_expand_8 (N : Nat) : Nat → Nat → Nat → Int32 → Int64 → Int64 → Int32 → Mem → Option (Int64 × Mem)
  | 0, _, _, _, _, _, _, _ => none
  | n + 1, k0, k1, x2, x3, x5, x7, μ => if x7 < (0 : Int32) then (some (x3, μ)) else ((M_RP_hasBit N x2 x7).bind fun r16 => if r16 = (0 : Int32) then (M_CS_expand_8 N n k0 k1 x2 x3 x5 (x7 + (-1)) μ) else ((ldJ μ k1 x7).bind fun v28 => (ldJ μ k0 (x2 ^^^ ((1 : Int32) <<< (x7 &&& 31)))).bind fun v37 => nm (x3 + ((x5 * v28) * v37)) fun x3_40 => nm (-x5) fun x5_44 => M_CS_expand_8 N n k0 k1 x2 x3_40 x5_44 (x7 + (-1)) μ))
def M_CS_expand (N : Nat) (k0 : Nat) (k1 : Nat) (x2 : Int32) (μ : Mem) : Option (Int64 × Mem) := M_CS_expand_8 N N k0 k1 x2 (0 : Int64) (1 : Int64) (4 : Int32) μ
def M_CS_add_29 (N : Nat) : Nat → Int32 → Nat → Nat → Nat → Int32 → Int32 → Mem → Option (Int32 × Mem)
  | 0, _, _, _, _, _, _, _ => none
  | n + 1, x1, k2, k3, k4, x5, x6, μ => (ldS tSTARTS (x1 + (2 : Int32))).bind fun v37 => if v37 ≤ x6 then (reZ x5 μ) else ((ldS tSETS x6).bind fun v46 => bn2 (M_CS_expand N k3 k2 v46 μ) fun r57 μ57 => (stJ μ57 k4 v46 r57).bind fun μ60 => (ldJ μ60 k4 v46).bind fun v65 => if (lg_cmp v65 (0 : Int64)) = (0 : Int32) then (M_CS_add_29 N n x1 k2 k3 k4 x5 (x6 + 1) μ60) else (if (v46 &&& ((μ60.1 4 9) ^^^ (-1 : Int32))) = (0 : Int32) then (M_CS_add_29 N n x1 k2 k3 k4 (1 : Int32) (x6 + 1) μ60) else (M_CS_add_29 N n x1 k2 k3 k4 x5 (x6 + 1) μ60)))
def M_CS_add (N : Nat) (x1 : Int32) (k2 : Nat) (μ : Mem) : Option (Int32 × Mem) := (ldA 10 x1).bind fun a5 => (ldA 10 (x1 + (1 : Int32))).bind fun a14 => (ldS tSTARTS (x1 + (1 : Int32))).bind fun v26 => M_CS_add_29 N N x1 k2 a5 a14 (0 : Int32) v26 μ
def M_CS_addBoth (N : Nat) (x1 : Int32) (x2 : Int32) (μ : Mem) : Option (Int32 × Mem) := (ldI μ 19 x2).bind fun v8 => if v8 = (6 : Int32) then (reZ (0 : Int32) μ) else (if (4 : Int32) < (x1 + (2 : Int32)) then (reZ (0 : Int32) μ) else ((ldI μ 18 x2).bind fun v38 => (ldA 8 v38).bind fun a39 => bn2 (M_CS_add N x1 a39 μ) fun r40 μ40 => if r40 = (0 : Int32) then (reZ (0 : Int32) μ40) else ((ldI μ40 19 x2).bind fun v65 => (ldA 8 v65).bind fun a66 => bn2 (M_CS_add N (x1 + (1 : Int32)) a66 μ40) fun r67 μ67 => if r67 = (0 : Int32) then (reZ (0 : Int32) μ67) else (reZ (1 : Int32) μ67))))
def M_CS_tighten_134 (N : Nat) (T_CS_tighten : Int32 → Int32 → Mem → Option Mem) (K21 : Int32 → Int32 → Mem → Option Mem) (x2 : Int32) (x3 : Int32) (x4 : Int32) (μ : Mem) : Option Mem := bn2 (M_CS_addBoth N x2 x4 μ) fun r138 μ138 => if r138 = (0 : Int32) then (K21 x2 (x3 + 1) μ138) else ((T_CS_tighten (x3 + (1 : Int32)) (x2 + (2 : Int32)) μ138).bind fun μ151 => K21 x2 (x3 + 1) μ151)
def M_CS_tighten_77 (N : Nat) (T_CS_tighten : Int32 → Int32 → Mem → Option Mem) (K21 : Int32 → Int32 → Mem → Option Mem) (x2 : Int32) (x3 : Int32) (x4 : Int32) (μ : Mem) : Option Mem := (ldI μ 20 x4).bind fun v86 => (ldI μ 21 x4).bind fun v96 => if v86 = v96 then (K21 x2 (x3 + 1) μ) else ((ldA 9 (((2 : Int32) * x3) + (1 : Int32))).bind fun a117 => bn2 (M_CS_add N x2 a117 μ) fun r118 μ118 => if r118 = (0 : Int32) then (M_CS_tighten_134 N T_CS_tighten K21 x2 x3 x4 μ118) else ((T_CS_tighten (x3 + (1 : Int32)) (x2 + (1 : Int32)) μ118).bind fun μ131 => M_CS_tighten_134 N T_CS_tighten K21 x2 x3 x4 μ131))
def M_CS_tighten_21 (N : Nat) (T_CS_tighten : Int32 → Int32 → Mem → Option Mem) : Nat → Int32 → Int32 → Mem → Option Mem
  | 0, _, _, _ => none
  | n + 1, x2, x3, μ => if (μ.1 3 0) ≤ x3 then (some μ) else (if (4 : Int32) ≤ x2 then (some μ) else ((ldI μ 23 x3).bind fun v45 => (ldA 9 ((2 : Int32) * x3)).bind fun a60 => bn2 (M_CS_add N x2 a60 μ) fun r61 μ61 => if r61 = (0 : Int32) then (M_CS_tighten_77 N T_CS_tighten (M_CS_tighten_21 N T_CS_tighten n) x2 x3 v45 μ61) else ((T_CS_tighten (x3 + (1 : Int32)) (x2 + (1 : Int32)) μ61).bind fun μ74 => M_CS_tighten_77 N T_CS_tighten (M_CS_tighten_21 N T_CS_tighten n) x2 x3 v45 μ74)))
def M_CS_tighten (N : Nat) : Nat → Int32 → Int32 → Mem → Option Mem
  | 0, _, _, _ => none
  | d + 1, x1, x2, μ => if x1 < (0 : Int32) then (some μ) else (if x2 < (0 : Int32) then (some μ) else (if x2 ≤ (4 : Int32) then ((M_CS_visitCorners N x2 μ).bind fun μ16 => M_CS_tighten_21 N (M_CS_tighten N d) N x2 x1 μ16) else (some μ)))
def M_CS_search (N : Nat) (μ : Mem) : Option Mem := (M_CS_begin N μ).bind fun μ1 => (M_CS_tighten N 6 (0 : Int32) (0 : Int32) μ1).bind fun μ7 => some μ7
def M_Ma_min (N : Nat) (x0 : Int64) (x2 : Int64) : Option Int64 := if (0 : Int32) < (lg_cmp x0 x2) then (some x2) else (some x0)
def M_Ma_max (N : Nat) (x0 : Int64) (x2 : Int64) : Option Int64 := if (lg_cmp x0 x2) < (0 : Int32) then (some x2) else (some x0)
def M_WS_begin_87 (N : Nat) (K42 : Int32 → Mem → Option Mem) : Nat → Int32 → Int32 → Mem → Option Mem
  | 0, _, _, _ => none
  | n + 1, x1, x2, μ => if ((2 : Int32) * (μ.1 3 0)) ≤ x2 then (K42 (x1 + (-1)) μ) else ((ldA 12 x1).bind fun a105 => (ldA 12 (x1 + (1 : Int32))).bind fun a114 => (ldJ μ a114 x2).bind fun v116 => (ldA 9 x2).bind fun a126 => (ldJ μ a126 x1).bind fun v128 => (ldI μ 17 x1).bind fun v137 => (M_Ma_max N (0 : Int64) (v128 * v137.toInt64)).bind fun r140 => (stJ μ a105 x2 (v116 + r140)).bind fun μ144 => M_WS_begin_87 N K42 n x1 (x2 + 1) μ144)
def M_WS_begin_42 (N : Nat) : Nat → Int32 → Mem → Option Mem
  | 0, _, _ => none
  | n + 1, x1, μ => if x1 < (0 : Int32) then (some μ) else ((ldJ μ 45 (x1 + (1 : Int32))).bind fun v58 => (ldJ μ 42 x1).bind fun v68 => (ldI μ 17 x1).bind fun v77 => (M_Ma_min N (0 : Int64) (v68 * v77.toInt64)).bind fun r80 => (stJ μ 45 x1 (v58 + r80)).bind fun μ84 => M_WS_begin_87 N (M_WS_begin_42 N n) N x1 (0 : Int32) μ84)
def M_WS_begin_2 (N : Nat) : Nat → Int32 → Mem → Option Mem
  | 0, _, _ => none
  | n + 1, x1, μ => if ((2 : Int32) * (μ.1 3 0)) ≤ x1 then (M_WS_begin_42 N N (3 : Int32) μ) else ((ldA 11 (0 : Int32)).bind fun a20 => (ldA 9 x1).bind fun a30 => (ldJ μ a30 (4 : Int32)).bind fun v32 => (stJ μ a20 x1 v32).bind fun μ33 => M_WS_begin_2 N n (x1 + 1) μ33)
def M_WS_begin (N : Nat) (μ : Mem) : Option Mem := M_WS_begin_2 N N (0 : Int32) μ
def M_WS_mostLoads_14 (N : Nat) : Nat → Int32 → Int64 → Int32 → Mem → Option (Int32 × Mem)
  | 0, _, _, _, _ => none
  | n + 1, x1, x2, x4, μ => if ((2 : Int32) * (μ.1 3 0)) ≤ x4 then ((M_Ma_max N x2 (-1 : Int64)).bind fun r114 => some (r114.toInt32, μ)) else ((ldA 9 x4).bind fun a37 => (ldJ μ a37 x1).bind fun v39 => (ldA 11 x1).bind fun a47 => (ldJ μ a47 x4).bind fun v50 => (ldA 12 (x1 + (1 : Int32))).bind fun a58 => (ldJ μ a58 x4).bind fun v61 => nm (v50 + v61) fun x7_63 => if (0 : Int32) ≤ (lg_cmp v39 (0 : Int64)) then (if (lg_cmp v39 (0 : Int64)) = (0 : Int32) then (if (0 : Int32) ≤ (lg_cmp x7_63 (0 : Int64)) then (M_WS_mostLoads_14 N n x1 x2 (x4 + 1) μ) else (some ((-1 : Int32), μ))) else (M_WS_mostLoads_14 N n x1 x2 (x4 + 1) μ)) else ((M_Ma_floorDiv N x7_63 (-v39)).bind fun r78 => (M_Ma_min N x2 r78).bind fun r81 => M_WS_mostLoads_14 N n x1 r81 (x4 + 1) μ))
def M_WS_mostLoads (N : Nat) (x1 : Int32) (μ : Mem) : Option (Int32 × Mem) := (ldI μ 17 x1).bind fun v8 => nm v8.toInt64 fun x2_10 => M_WS_mostLoads_14 N N x1 x2_10 (0 : Int32) μ
def M_WS_fewestLoads_5 (N : Nat) : Nat → Int32 → Int64 → Int32 → Mem → Option (Int32 × Mem)
  | 0, _, _, _, _ => none
  | n + 1, x1, x2, x4, μ => if ((2 : Int32) * (μ.1 3 0)) ≤ x4 then ((M_Ma_min N x2 (10 : Int64)).bind fun r86 => some (r86.toInt32, μ)) else ((ldA 9 x4).bind fun a28 => (ldJ μ a28 x1).bind fun v30 => if (lg_cmp v30 (0 : Int64)) ≤ (0 : Int32) then (M_WS_fewestLoads_5 N n x1 x2 (x4 + 1) μ) else ((ldA 11 x1).bind fun a45 => (ldJ μ a45 x4).bind fun v48 => (ldA 12 (x1 + (1 : Int32))).bind fun a56 => (ldJ μ a56 x4).bind fun v59 => nm (v48 + v59) fun x7_61 => (M_Ma_floorDiv N x7_61 v30).bind fun r68 => (M_Ma_max N x2 (-r68)).bind fun r72 => M_WS_fewestLoads_5 N n x1 r72 (x4 + 1) μ))
def M_WS_fewestLoads (N : Nat) (x1 : Int32) (μ : Mem) : Option (Int32 × Mem) := M_WS_fewestLoads_5 N N x1 (0 : Int64) (0 : Int32) μ
def M_WS_take_36 (N : Nat) (T_WS_place : Int32 → Int64 → Mem → Option Mem) : Nat → Int32 → Int32 → Int64 → Int32 → Mem → Option Mem
  | 0, _, _, _, _, _ => none
  | n + 1, x1, x2, x3, x5, μ => if ((2 : Int32) * (μ.1 3 0)) ≤ x5 then ((T_WS_place (x1 + (1 : Int32)) x3 μ).bind fun μ97 => some μ97) else ((ldA 11 (x1 + (1 : Int32))).bind fun a57 => (ldA 11 x1).bind fun a65 => (ldJ μ a65 x5).bind fun v68 => (ldA 9 x5).bind fun a78 => (ldJ μ a78 x1).bind fun v80 => (stJ μ a57 x5 (v68 + (v80 * x2.toInt64))).bind fun μ85 => M_WS_take_36 N T_WS_place n x1 x2 x3 (x5 + 1) μ85)
def M_WS_take_26 (N : Nat) (T_WS_place : Int32 → Int64 → Mem → Option Mem) (x1 : Int32) (x2 : Int32) (x3 : Int64) (μ : Mem) : Option Mem := (stI μ 25 x1 x2).bind fun μ32 => M_WS_take_36 N T_WS_place N x1 x2 x3 (0 : Int32) μ32
def M_WS_take (N : Nat) (T_WS_place : Int32 → Int64 → Mem → Option Mem) (x1 : Int32) (x2 : Int32) (x3 : Int64) (μ : Mem) : Option Mem := if (μ.1 5 6) = (0 : Int32) then (M_WS_take_26 N T_WS_place x1 x2 x3 μ) else ((ldJ μ 45 (x1 + (1 : Int32))).bind fun v15 => if (lg_cmp (x3 + v15) (μ.2 5 7)) < (0 : Int32) then (M_WS_take_26 N T_WS_place x1 x2 x3 μ) else (some μ))
def M_WS_offer_29 (N : Nat) : Nat → Int32 → Mem → Option Mem
  | 0, _, _ => none
  | n + 1, x3, μ => if (4 : Int32) ≤ x3 then (some μ) else ((ldI μ 25 x3).bind fun v44 => (stI μ 26 x3 v44).bind fun μ45 => M_WS_offer_29 N n (x3 + 1) μ45)
def M_WS_offer_17 (N : Nat) (x1 : Int64) (μ : Mem) : Option Mem := (pZ μ 5 6 (1 : Int32)).bind fun μ19 => (pJ μ19 5 7 x1).bind fun μ24 => M_WS_offer_29 N N (0 : Int32) μ24
def M_WS_offer (N : Nat) (x1 : Int64) (μ : Mem) : Option Mem := if (μ.1 5 6) = (0 : Int32) then (M_WS_offer_17 N x1 μ) else (if (lg_cmp x1 (μ.2 5 7)) < (0 : Int32) then (M_WS_offer_17 N x1 μ) else (some μ))
def M_WS_place_99 (N : Nat) (T_WS_place : Int32 → Int64 → Mem → Option Mem) (x1 : Int32) (x2 : Int64) (y0 : Int32) (μ : Mem) : Option Mem := (stI μ 25 x1 y0).bind fun μ108 => (ldJ μ108 42 x1).bind fun v119 => (M_WS_offer N (x2 + (v119 * y0.toInt64)) μ108).bind fun μ125 => some μ125
def M_WS_place_33 (N : Nat) (T_WS_place : Int32 → Int64 → Mem → Option Mem) : Nat → Int32 → Int64 → Int32 → Int32 → Mem → Option Mem
  | 0, _, _, _, _, _ => none
  | n + 1, x1, x2, x4, x6, μ => if x4 < x6 then (some μ) else ((ldJ μ 42 x1).bind fun v53 => (M_WS_take N T_WS_place x1 x6 (x2 + (v53 * x6.toInt64)) μ).bind fun μ59 => M_WS_place_33 N T_WS_place n x1 x2 x4 (x6 + 1) μ59)
def M_WS_place (N : Nat) : Nat → Int32 → Int64 → Mem → Option Mem
  | 0, _, _, _ => none
  | d + 1, x1, x2, μ => if x1 < (0 : Int32) then (some μ) else (if x1 < (4 : Int32) then (bn2 (M_WS_mostLoads N x1 μ) fun r12 μ12 => bn2 (M_WS_fewestLoads N x1 μ12) fun r19 μ19 => if (3 : Int32) ≤ x1 then (if r12 < r19 then (some μ19) else ((ldJ μ19 42 x1).bind fun v86 => if (0 : Int32) ≤ (lg_cmp v86 (0 : Int64)) then (M_WS_place_99 N (M_WS_place N d) x1 x2 r19 μ19) else (M_WS_place_99 N (M_WS_place N d) x1 x2 r12 μ19))) else (M_WS_place_33 N (M_WS_place N d) N x1 x2 r12 r19 μ19)) else (some μ))
def M_WS_search (N : Nat) (x1 : Int32) (μ : Mem) : Option Mem := (pZ μ 5 6 (0 : Int32)).bind fun μ2 => (pJ μ2 5 7 (0 : Int64)).bind fun μ7 => if x1 = (0 : Int32) then (some μ7) else ((M_WS_begin N μ7).bind fun μ15 => (M_WS_place N 5 (0 : Int32) (0 : Int64) μ15).bind fun μ21 => some μ21)
def M_Ma_abs (N : Nat) (x0 : Int64) : Option Int64 := if (0 : Int32) ≤ (lg_cmp x0 (0 : Int64)) then (some x0) else (some (-x0))
def M_CS_commonDivisor_46 (N : Nat) (x3 : Int64) (μ : Mem) : Option (Int64 × Mem) := if (lg_cmp x3 (0 : Int64)) ≤ (0 : Int32) then (some ((1 : Int64), μ)) else (some (x3, μ))
def M_CS_commonDivisor_16 (N : Nat) : Nat → Int64 → Int64 → Int32 → Mem → Option (Int64 × Mem)
  | 0, _, _, _, _ => none
  | n + 1, x1, x3, x5, μ => if (200 : Int32) ≤ x5 then (M_CS_commonDivisor_46 N x3 μ) else (if (lg_cmp x1 (0 : Int64)) = (0 : Int32) then (M_CS_commonDivisor_46 N x3 μ) else ((rmJ x3 x1).bind fun v32 => M_CS_commonDivisor_16 N n v32 x1 (x5 + 1) μ))
def M_CS_commonDivisor (N : Nat) (μ : Mem) : Option (Int64 × Mem) := (M_Ma_abs N (μ.2 4 11)).bind fun r4 => nm (μ.2 4 12) fun x3_12 => M_CS_commonDivisor_16 N N r4 x3_12 (0 : Int32) μ
def M_CS_allBreak_2 (N : Nat) : Nat → Int32 → Int32 → Mem → Option (Int32 × Mem)
  | 0, _, _, _ => none
  | n + 1, x1, x2, μ => if (μ.1 4 8) ≤ x2 then (reZ (1 : Int32) μ) else ((ldI μ 24 x2).bind fun v15 => if (v15 &&& x1) = (0 : Int32) then (reZ (0 : Int32) μ) else (M_CS_allBreak_2 N n x1 (x2 + 1) μ))
def M_CS_allBreak (N : Nat) (x1 : Int32) (μ : Mem) : Option (Int32 × Mem) := M_CS_allBreak_2 N N x1 (0 : Int32) μ
def M_CS_fewestClashing_7 (N : Nat) : Nat → Int32 → Int32 → Int32 → Mem → Option (Int32 × Mem)
  | 0, _, _, _, _ => none
  | n + 1, x1, x2, x3, μ => if (256 : Int32) ≤ x3 then (some (x1, μ)) else (if (x3 &&& ((μ.1 2 0) ^^^ (-1 : Int32))) = (0 : Int32) then ((M_In_bitCount N x3).bind fun r29 => if x2 ≤ r29 then (M_CS_fewestClashing_7 N n x1 x2 (x3 + 1) μ) else (bn2 (M_CS_allBreak N x3 μ) fun r38 μ38 => if r38 = (0 : Int32) then (M_CS_fewestClashing_7 N n x1 x2 (x3 + 1) μ38) else ((M_In_bitCount N x3).bind fun r47 => M_CS_fewestClashing_7 N n x3 r47 (x3 + 1) μ38))) else (M_CS_fewestClashing_7 N n x1 x2 (x3 + 1) μ))
def M_CS_fewestClashing (N : Nat) (μ : Mem) : Option (Int32 × Mem) := M_CS_fewestClashing_7 N N (0 : Int32) (9 : Int32) (1 : Int32) μ
def M_Fo_takeCut_39 (N : Nat) (μ : Mem) : Option Mem := if (μ.1 4 10) = (0 : Int32) then (bn2 (M_CS_fewestClashing N μ) fun r52 μ52 => (pI μ52 6 7 r52).bind fun μ55 => some μ55) else ((pI μ 6 7 (0 : Int32)).bind fun μ55 => some μ55)
def M_Fo_takeCut (N : Nat) (μ : Mem) : Option Mem := bn2 (M_CS_commonDivisor N μ) fun r1 μ1 => (pZ μ1 6 4 (μ1.1 4 10)).bind fun μ10 => if (lg_cmp r1 (0 : Int64)) ≤ (0 : Int32) then (M_Fo_takeCut_39 N μ10) else ((dvJ (μ10.2 4 11) r1).bind fun v25 => (pJ μ10 6 5 v25).bind fun μ26 => (dvJ (μ26.2 4 12) r1).bind fun v35 => (pJ μ26 6 6 v35).bind fun μ36 => M_Fo_takeCut_39 N μ36)
def M_Fo_takeWhole_23 (N : Nat) : Nat → Int32 → Mem → Option Mem
  | 0, _, _ => none
  | n + 1, x3, μ => if (4 : Int32) ≤ x3 then (some μ) else ((ldI μ 26 x3).bind fun v38 => (stI μ 27 x3 v38).bind fun μ39 => M_Fo_takeWhole_23 N n (x3 + 1) μ39)
def M_Fo_takeWhole (N : Nat) (x2 : Int32) (μ : Mem) : Option Mem := (pZ μ 6 0 (μ.1 5 6)).bind fun μ5 => (pI μ5 6 1 x2).bind fun μ10 => (pJ μ10 6 3 (μ10.2 5 7)).bind fun μ18 => M_Fo_takeWhole_23 N N (0 : Int32) μ18
def M_RP_run (N : Nat) (μ : Mem) : Option (Int32 × Mem) := (M_Si_build N μ).bind fun μ12 => (M_CS_search N μ12).bind fun μ19 => (M_WS_search N (μ19.1 4 10) μ19).bind fun μ33 => (M_Fo_takeCut N μ33).bind fun μ44 => (M_Fo_takeWhole N (μ44.1 1 0) μ44).bind fun μ62 => if (μ62.1 5 6) = (0 : Int32) then (if (μ62.1 4 10) = (0 : Int32) then (some ((2 : Int32), μ62)) else (some ((1 : Int32), μ62))) else (some ((0 : Int32), μ62))
def M_RP_best (N : Nat) (x1 : Int32) (μ : Mem) : Option (Int32 × Mem) := if (μ.1 6 0) = (0 : Int32) then (some ((-1 : Int32), μ)) else ((M_RP_within N x1.toInt64 (0 : Int64) (((μ.1 6 1) - (1 : Int32)).toInt64)).bind fun r23 => if r23 = (0 : Int32) then (some ((-1 : Int32), μ)) else ((ldI μ 27 x1).bind fun v37 => some (v37, μ)))
def M_RP_cost (N : Nat) (μ : Mem) : Option (Int64 × Mem) := if (μ.1 6 0) = (0 : Int32) then (some ((-9223372036854775808 : Int64), μ)) else (some (μ.2 6 3, μ))
def M_RP_cut (N : Nat) (x1 : Int32) (μ : Mem) : Option (Int64 × Mem) := if (μ.1 6 4) = (0 : Int32) then (some ((-9223372036854775808 : Int64), μ)) else ((M_RP_within N x1.toInt64 (0 : Int64) (1 : Int64)).bind fun r14 => if r14 = (0 : Int32) then (some ((-9223372036854775808 : Int64), μ)) else (if x1 = (0 : Int32) then (some (μ.2 6 5, μ)) else (some (μ.2 6 6, μ))))
def M_RP_clashes (N : Nat) (μ : Mem) : Option (Int32 × Mem) := if (μ.1 6 7) = (0 : Int32) then (some ((-1 : Int32), μ)) else ((M_In_bitCount N (μ.1 6 7)).bind fun r21 => some (r21, μ))
def M_RP_clash (N : Nat) (x1 : Int32) (μ : Mem) : Option (Int32 × Mem) := (M_RP_within N x1.toInt64 (0 : Int64) (7 : Int64)).bind fun r6 => if r6 = (0 : Int32) then (reZ (0 : Int32) μ) else ((M_RP_hasBit N (μ.1 6 7) x1).bind fun r20 => if r20 = (0 : Int32) then (reZ (0 : Int32) μ) else (reZ (1 : Int32) μ))
def M_RP_broken_100 (N : Nat) : Nat → Int32 → Mem → Option (Int32 × Mem)
  | 0, _, _ => none
  | n + 1, x5, μ => if (8 : Int32) ≤ x5 then (some ((8 : Int32), μ)) else (bn2 (M_Ru_isTold N x5 μ) fun r113 μ113 => if r113 = (0 : Int32) then (M_RP_broken_100 N n (x5 + 1) μ113) else (bn2 (M_Ru_keeps N x5 41 μ113) fun r129 μ129 => if r129 = (0 : Int32) then (some (x5, μ129)) else (M_RP_broken_100 N n (x5 + 1) μ129)))
def M_RP_broken_43 (N : Nat) : Nat → Int32 → Mem → Option (Int32 × Mem)
  | 0, _, _ => none
  | n + 1, x5, μ => if (4 : Int32) ≤ x5 then ((M_Lo_hold N 40 41 μ).bind fun μ94 => M_RP_broken_100 N N (0 : Int32) μ94) else ((ldJ μ 40 x5).bind fun v55 => (ldI μ 17 x5).bind fun v66 => (M_RP_within N v55 (0 : Int64) v66.toInt64).bind fun r68 => if r68 = (0 : Int32) then (some ((-1 : Int32), μ)) else (M_RP_broken_43 N n (x5 + 1) μ))
def M_RP_broken (N : Nat) (x1 : Int32) (x2 : Int32) (x3 : Int32) (x4 : Int32) (μ : Mem) : Option (Int32 × Mem) := (stJ μ 40 (0 : Int32) x1.toInt64).bind fun μ7 => (stJ μ7 40 (1 : Int32) x2.toInt64).bind fun μ15 => (stJ μ15 40 (2 : Int32) x3.toInt64).bind fun μ23 => (stJ μ23 40 (3 : Int32) x4.toInt64).bind fun μ32 => (stJ μ32 40 (4 : Int32) (1 : Int64)).bind fun μ39 => M_RP_broken_43 N N (0 : Int32) μ39
def M_Mo_isIn (N : Nat) (x0 : Int64) (x2 : Int64) (x4 : Int64) : Option Int32 := if (lg_cmp x0 x2) < (0 : Int32) then (okZ (0 : Int32)) else (if (0 : Int32) < (lg_cmp x0 x4) then (okZ (0 : Int32)) else (okZ (1 : Int32)))
def M_Mo_isWhat (N : Nat) (x0 : Int32) : Option Int32 := if x0 < (0 : Int32) then (okZ (0 : Int32)) else (if (5 : Int32) ≤ x0 then (okZ (0 : Int32)) else (okZ (1 : Int32)))
def M_Mo_lot (N : Nat) (x1 : Int32) (x2 : Int64) (μ : Mem) : Option (Int32 × Mem) := if (μ.1 7 0) = (4 : Int32) then (some ((-1 : Int32), μ)) else ((M_Mo_isIn N x1.toInt64 (0 : Int64) (9 : Int64)).bind fun r14 => if r14 = (0 : Int32) then (some ((-1 : Int32), μ)) else ((M_Mo_isIn N x2 (-1000 : Int64) (1000 : Int64)).bind fun r27 => if r27 = (0 : Int32) then (some ((-1 : Int32), μ)) else ((stI μ 28 (μ.1 7 0) x1).bind fun μ44 => (stI μ44 29 (μ44.1 7 0) x2.toInt32).bind fun μ55 => (pI μ55 7 0 ((μ55.1 7 0) + (1 : Int32))).bind fun μ63 => some ((μ63.1 7 0) - (1 : Int32), μ63))))
def M_Mo_amount (N : Nat) (x1 : Int32) (x2 : Int32) (x3 : Int32) (μ : Mem) : Option (Int32 × Mem) := if x1 < (0 : Int32) then (reZ (0 : Int32) μ) else (if (μ.1 7 0) ≤ x1 then (reZ (0 : Int32) μ) else ((M_Mo_isWhat N x2).bind fun r13 => if r13 = (0 : Int32) then (reZ (0 : Int32) μ) else ((M_Mo_isIn N x3.toInt64 (-100 : Int64) (100 : Int64)).bind fun r27 => if r27 = (0 : Int32) then (reZ (0 : Int32) μ) else ((stI μ 30 (((5 : Int32) * x1) + x2) x3).bind fun μ45 => reZ (1 : Int32) μ45))))
def M_Mo_tell (N : Nat) (x1 : Int32) (x2 : Int32) (x3 : Int32) (μ : Mem) : Option (Int32 × Mem) := (stZ μ 14 x1 (1 : Int32)).bind fun μ6 => (stI μ6 31 x1 x2).bind fun μ13 => (stI μ13 32 x1 x3).bind fun μ20 => reZ (1 : Int32) μ20
def M_Mo_span (N : Nat) (x1 : Int32) (x2 : Int32) (x3 : Int32) (μ : Mem) : Option (Int32 × Mem) := (M_Mo_isWhat N x1).bind fun r1 => if r1 = (0 : Int32) then (reZ (0 : Int32) μ) else ((M_Mo_isIn N x2.toInt64 (-100000 : Int64) x3.toInt64).bind fun r14 => if r14 = (0 : Int32) then (reZ (0 : Int32) μ) else ((M_Mo_isIn N x3.toInt64 x2.toInt64 (100000 : Int64)).bind fun r27 => if r27 = (0 : Int32) then (reZ (0 : Int32) μ) else (bn2 (M_Mo_tell N x1 x2 x3 μ) fun r37 μ37 => if r37 = (0 : Int32) then (reZ (0 : Int32) μ37) else (reZ (1 : Int32) μ37))))
def M_Mo_ratio (N : Nat) (x1 : Int32) (x2 : Int32) (x3 : Int32) (x4 : Int32) (x5 : Int32) (x6 : Int32) (μ : Mem) : Option (Int32 × Mem) := if x1 < (0 : Int32) then (reZ (0 : Int32) μ) else (if (1 : Int32) < x1 then (reZ (0 : Int32) μ) else ((M_Mo_isWhat N x2).bind fun r10 => if r10 = (0 : Int32) then (reZ (0 : Int32) μ) else ((M_Mo_isWhat N x3).bind fun r17 => if r17 = (0 : Int32) then (reZ (0 : Int32) μ) else ((M_Mo_isIn N x4.toInt64 (0 : Int64) x5.toInt64).bind fun r30 => if r30 = (0 : Int32) then (reZ (0 : Int32) μ) else ((M_Mo_isIn N x5.toInt64 x4.toInt64 (100 : Int64)).bind fun r45 => if r45 = (0 : Int32) then (reZ (0 : Int32) μ) else ((M_Mo_isIn N x6.toInt64 (1 : Int64) (100 : Int64)).bind fun r58 => if r58 = (0 : Int32) then (reZ (0 : Int32) μ) else ((stI μ 34 ((5 : Int32) + x1) x2).bind fun μ74 => (stI μ74 35 ((5 : Int32) + x1) x3).bind fun μ83 => (stI μ83 33 ((5 : Int32) + x1) x6).bind fun μ93 => bn2 (M_Mo_tell N ((5 : Int32) + x1) x4 x5 μ93) fun r102 μ102 => reZ r102 μ102)))))))
def M_Mo_loads (N : Nat) (x1 : Int32) (x2 : Int32) (μ : Mem) : Option (Int32 × Mem) := (M_Mo_isIn N x1.toInt64 (0 : Int64) x2.toInt64).bind fun r5 => if r5 = (0 : Int32) then (reZ (0 : Int32) μ) else ((M_Mo_isIn N x2.toInt64 x1.toInt64 (36 : Int64)).bind fun r18 => if r18 = (0 : Int32) then (reZ (0 : Int32) μ) else (bn2 (M_Mo_tell N (7 : Int32) x1 x2 μ) fun r29 μ29 => if r29 = (0 : Int32) then (reZ (0 : Int32) μ29) else (reZ (1 : Int32) μ29)))
def M_Mo_untell (N : Nat) (x1 : Int32) (μ : Mem) : Option (Int32 × Mem) := if x1 < (0 : Int32) then (reZ (0 : Int32) μ) else (if (8 : Int32) ≤ x1 then (reZ (0 : Int32) μ) else ((ldZ μ 14 x1).bind fun v15 => if v15 = (0 : Int32) then (reZ (0 : Int32) μ) else ((stZ μ 14 x1 (0 : Int32)).bind fun μ27 => reZ (1 : Int32) μ27)))
def M_Mo_holds_4 (N : Nat) : Nat → Int32 → Int32 → Int32 → Mem → Option (Int32 × Mem)
  | 0, _, _, _, _ => none
  | n + 1, x1, x2, x3, μ => if (μ.1 7 0) ≤ x3 then (some (x2, μ)) else ((ldI μ 37 x3).bind fun v18 => (ldI μ 30 (((5 : Int32) * x3) + x1)).bind fun v28 => nm (x2 + (v18 * v28)) fun x2_31 => M_Mo_holds_4 N n x1 x2_31 (x3 + 1) μ)
def M_Mo_holds (N : Nat) (x1 : Int32) (μ : Mem) : Option (Int32 × Mem) := M_Mo_holds_4 N N x1 (0 : Int32) (0 : Int32) μ
def M_Mo_keeps (N : Nat) (x1 : Int32) (μ : Mem) : Option (Int32 × Mem) := if (5 : Int32) ≤ x1 then (if (7 : Int32) ≤ x1 then ((ldI μ 37 (0 : Int32)).bind fun v109 => (ldI μ 37 (1 : Int32)).bind fun v115 => (ldI μ 37 (2 : Int32)).bind fun v122 => (ldI μ 37 (3 : Int32)).bind fun v129 => (ldI μ 31 x1).bind fun v137 => (ldI μ 32 x1).bind fun v144 => (M_Mo_isIn N ((((v109 + v115) + v122) + v129).toInt64) v137.toInt64 v144.toInt64).bind fun r146 => reZ r146 μ) else ((ldI μ 33 x1).bind fun v40 => (ldI μ 34 x1).bind fun v48 => bn2 (M_Mo_holds N v48 μ) fun r49 μ49 => nm (v40.toInt64 * r49.toInt64) fun x2_54 => (ldI μ49 35 x1).bind fun v61 => bn2 (M_Mo_holds N v61 μ49) fun r62 μ62 => nm r62.toInt64 fun x4_66 => (ldI μ62 31 x1).bind fun v74 => if (lg_cmp x2_54 (v74.toInt64 * x4_66)) < (0 : Int32) then (reZ (0 : Int32) μ62) else ((ldI μ62 32 x1).bind fun v89 => if (0 : Int32) < (lg_cmp x2_54 (v89.toInt64 * x4_66)) then (reZ (0 : Int32) μ62) else (reZ (1 : Int32) μ62)))) else (bn2 (M_Mo_holds N x1 μ) fun r7 μ7 => (ldI μ7 31 x1).bind fun v16 => (ldI μ7 32 x1).bind fun v23 => (M_Mo_isIn N r7.toInt64 v16.toInt64 v23.toInt64).bind fun r25 => reZ r25 μ7)
def M_Mo_firstBroken_2 (N : Nat) : Nat → Int32 → Mem → Option (Int32 × Mem)
  | 0, _, _ => none
  | n + 1, x1, μ => if (8 : Int32) ≤ x1 then (some ((8 : Int32), μ)) else ((ldZ μ 14 x1).bind fun v13 => if v13 = (0 : Int32) then (M_Mo_firstBroken_2 N n (x1 + 1) μ) else (bn2 (M_Mo_keeps N x1 μ) fun r19 μ19 => if r19 = (0 : Int32) then (some (x1, μ19)) else (M_Mo_firstBroken_2 N n (x1 + 1) μ19)))
def M_Mo_firstBroken (N : Nat) (μ : Mem) : Option (Int32 × Mem) := M_Mo_firstBroken_2 N N (0 : Int32) μ
def M_Mo_broken_68 (N : Nat) (K32 : Int32 → Mem → Option (Int32 × Mem)) (x5 : Int32) (y0 : Int64) (y1 : Int64) (y2 : Int64) (μ : Mem) : Option (Int32 × Mem) := (M_Mo_isIn N y0 y1 y2).bind fun r68 => if r68 = (0 : Int32) then (some ((-1 : Int32), μ)) else (K32 (x5 + 1) μ)
def M_Mo_broken_32 (N : Nat) : Nat → Int32 → Mem → Option (Int32 × Mem)
  | 0, _, _ => none
  | n + 1, x5, μ => if (4 : Int32) ≤ x5 then (bn2 (M_Mo_firstBroken N μ) fun r83 μ83 => some (r83, μ83)) else ((ldI μ 37 x5).bind fun v44 => if (μ.1 7 0) ≤ x5 then (M_Mo_broken_68 N (M_Mo_broken_32 N n) x5 v44.toInt64 (0 : Int64) (0 : Int64) μ) else ((ldI μ 28 x5).bind fun v62 => M_Mo_broken_68 N (M_Mo_broken_32 N n) x5 v44.toInt64 (0 : Int64) v62.toInt64 μ))
def M_Mo_broken (N : Nat) (x1 : Int32) (x2 : Int32) (x3 : Int32) (x4 : Int32) (μ : Mem) : Option (Int32 × Mem) := (stI μ 37 (0 : Int32) x1).bind fun μ6 => (stI μ6 37 (1 : Int32) x2).bind fun μ13 => (stI μ13 37 (2 : Int32) x3).bind fun μ20 => (stI μ20 37 (3 : Int32) x4).bind fun μ28 => M_Mo_broken_32 N N (0 : Int32) μ28
def M_Mo_findWhole_167 (N : Nat) (K4 : Int32 → Int32 → Mem → Option (Int32 × Mem)) : Nat → Int32 → Int32 → Int32 → Mem → Option (Int32 × Mem)
  | 0, _, _, _, _ => none
  | n + 1, x1, x2, x7, μ => if (4 : Int32) ≤ x7 then (K4 x1 (x2 + 1) μ) else ((ldI μ 37 x7).bind fun v185 => (stI μ 36 x7 v185).bind fun μ186 => M_Mo_findWhole_167 N K4 n x1 x2 (x7 + 1) μ186)
def M_Mo_findWhole_156 (N : Nat) (K4 : Int32 → Int32 → Mem → Option (Int32 × Mem)) (x2 : Int32) (x5 : Int64) (μ : Mem) : Option (Int32 × Mem) := (pJ μ 7 13 x5).bind fun μ161 => M_Mo_findWhole_167 N K4 N (1 : Int32) x2 (0 : Int32) μ161
def M_Mo_findWhole_108 (N : Nat) (K4 : Int32 → Int32 → Mem → Option (Int32 × Mem)) : Nat → Int32 → Int32 → Int64 → Int32 → Mem → Option (Int32 × Mem)
  | 0, _, _, _, _, _ => none
  | n + 1, x1, x2, x5, x7, μ => if (4 : Int32) ≤ x7 then (if x1 = (0 : Int32) then (M_Mo_findWhole_156 N K4 x2 x5 μ) else (if (0 : Int32) ≤ (lg_cmp x5 (μ.2 7 13)) then (K4 x1 (x2 + 1) μ) else (M_Mo_findWhole_156 N K4 x2 x5 μ))) else ((ldI μ 37 x7).bind fun v122 => (ldI μ 29 x7).bind fun v130 => nm (x5 + (v122.toInt64 * v130.toInt64)) fun x5_134 => M_Mo_findWhole_108 N K4 n x1 x2 x5_134 (x7 + 1) μ)
def M_Mo_findWhole_80 (N : Nat) (K4 : Int32 → Int32 → Mem → Option (Int32 × Mem)) (K19 : Int32 → Int32 → Int32 → Int32 → Int32 → Mem → Option (Int32 × Mem)) (x1 : Int32) (x2 : Int32) (x3 : Int32) (x5 : Int32) (y0 : Int32) (μ : Mem) : Option (Int32 × Mem) := K19 x1 x2 x3 y0 (x5 + (-1)) μ
def M_Mo_findWhole_79 (N : Nat) (K4 : Int32 → Int32 → Mem → Option (Int32 × Mem)) (K19 : Int32 → Int32 → Int32 → Int32 → Int32 → Mem → Option (Int32 × Mem)) (x1 : Int32) (x2 : Int32) (x3 : Int32) (x5 : Int32) (μ : Mem) : Option (Int32 × Mem) := M_Mo_findWhole_80 N K4 K19 x1 x2 x3 x5 (0 : Int32) μ
def M_Mo_findWhole_72 (N : Nat) (K4 : Int32 → Int32 → Mem → Option (Int32 × Mem)) (K19 : Int32 → Int32 → Int32 → Int32 → Int32 → Mem → Option (Int32 × Mem)) (x1 : Int32) (x2 : Int32) (x3 : Int32) (x5 : Int32) (y0 : Int32) (y1 : Int32) (μ : Mem) : Option (Int32 × Mem) := if y1 < y0 then (M_Mo_findWhole_79 N K4 K19 x1 x2 x3 x5 μ) else (M_Mo_findWhole_80 N K4 K19 x1 x2 x3 x5 (1 : Int32) μ)
def M_Mo_findWhole_19 (N : Nat) (K4 : Int32 → Int32 → Mem → Option (Int32 × Mem)) : Nat → Int32 → Int32 → Int32 → Int32 → Int32 → Mem → Option (Int32 × Mem)
  | 0, _, _, _, _, _, _ => none
  | n + 1, x1, x2, x3, x4, x5, μ => if x5 < (0 : Int32) then (if x4 = (0 : Int32) then (K4 x1 (x2 + 1) μ) else (bn2 (M_Mo_firstBroken N μ) fun r94 μ94 => if r94 = (8 : Int32) then (M_Mo_findWhole_108 N K4 N x1 x2 (0 : Int64) (0 : Int32) μ94) else (K4 x1 (x2 + 1) μ94))) else ((rmI x3 (10 : Int32)).bind fun v33 => (stI μ 37 x5 v33).bind fun μ34 => (dvI x3 (10 : Int32)).bind fun v38 => if x4 = (0 : Int32) then (M_Mo_findWhole_79 N K4 (M_Mo_findWhole_19 N K4 n) x1 x2 v38 x5 μ34) else ((ldI μ34 37 x5).bind fun v51 => if (μ34.1 7 0) ≤ x5 then (M_Mo_findWhole_72 N K4 (M_Mo_findWhole_19 N K4 n) x1 x2 v38 x5 v51 (0 : Int32) μ34) else ((ldI μ34 28 x5).bind fun v67 => M_Mo_findWhole_72 N K4 (M_Mo_findWhole_19 N K4 n) x1 x2 v38 x5 v51 v67 μ34)))
def M_Mo_findWhole_4 (N : Nat) : Nat → Int32 → Int32 → Mem → Option (Int32 × Mem)
  | 0, _, _, _ => none
  | n + 1, x1, x2, μ => if (10000 : Int32) ≤ x2 then (reZ x1 μ) else (M_Mo_findWhole_19 N (M_Mo_findWhole_4 N n) N x1 x2 x2 (1 : Int32) (3 : Int32) μ)
def M_Mo_findWhole (N : Nat) (μ : Mem) : Option (Int32 × Mem) := M_Mo_findWhole_4 N N (0 : Int32) (0 : Int32) μ
def M_Mo_setLimit_190 (N : Nat) (x4 : Int32) (x5 : Int32) (y1 : Int32) (μ : Mem) : Option Mem := (stI μ 38 y1 (x4 * x5)).bind fun μ195 => some μ195
def M_Mo_setLimit_159 (N : Nat) (K47 : Int32 → Int32 → Int32 → Int32 → Int32 → Mem → Option Mem) (x1 : Int32) (x2 : Int32) (x4 : Int32) (x5 : Int32) (x6 : Int32) (y1 : Int32) (y2 : Int32) (μ : Mem) : Option Mem := (stI μ 38 y1 y2).bind fun μ159 => K47 x1 x2 x4 x5 (x6 + 1) μ159
def M_Mo_setLimit_131 (N : Nat) (K47 : Int32 → Int32 → Int32 → Int32 → Int32 → Mem → Option Mem) (x1 : Int32) (x2 : Int32) (x4 : Int32) (x5 : Int32) (x6 : Int32) (x7 : Int32) (μ : Mem) : Option Mem := if (μ.1 7 0) ≤ x6 then (M_Mo_setLimit_159 N K47 x1 x2 x4 x5 x6 (((5 : Int32) * x1) + x6) (0 : Int32) μ) else (M_Mo_setLimit_159 N K47 x1 x2 x4 x5 x6 (((5 : Int32) * x1) + x6) (x4 * x7) μ)
def M_Mo_setLimit_47 (N : Nat) : Nat → Int32 → Int32 → Int32 → Int32 → Int32 → Mem → Option Mem
  | 0, _, _, _, _, _, _ => none
  | n + 1, x1, x2, x4, x5, x6, μ => if (4 : Int32) ≤ x6 then (if x2 < (5 : Int32) then (M_Mo_setLimit_190 N x4 x5 (((5 : Int32) * x1) + (4 : Int32)) μ) else (if (7 : Int32) ≤ x2 then (M_Mo_setLimit_190 N x4 x5 (((5 : Int32) * x1) + (4 : Int32)) μ) else ((stI μ 38 (((5 : Int32) * x1) + (4 : Int32)) (0 : Int32)).bind fun μ195 => some μ195))) else (if (5 : Int32) ≤ x2 then (if (7 : Int32) ≤ x2 then (M_Mo_setLimit_131 N (M_Mo_setLimit_47 N n) x1 x2 x4 x5 x6 (1 : Int32) μ) else ((ldI μ 33 x2).bind fun v85 => (ldI μ 34 x2).bind fun v99 => (ldI μ 30 (((5 : Int32) * x6) + v99)).bind fun v101 => (ldI μ 35 x2).bind fun v118 => (ldI μ 30 (((5 : Int32) * x6) + v118)).bind fun v120 => nm ((v85 * v101) - (x5 * v120)) fun x7_123 => M_Mo_setLimit_131 N (M_Mo_setLimit_47 N n) x1 x2 x4 x5 x6 x7_123 μ)) else ((ldI μ 30 (((5 : Int32) * x6) + x2)).bind fun v68 => M_Mo_setLimit_131 N (M_Mo_setLimit_47 N n) x1 x2 x4 x5 x6 v68 μ))
def M_Mo_setLimit_30 (N : Nat) (x1 : Int32) (x2 : Int32) (x4 : Int32) (y0 : Int32) (μ : Mem) : Option Mem := (ldZ μ 14 x2).bind fun v42 => (stZ μ 15 x1 v42).bind fun μ43 => M_Mo_setLimit_47 N N x1 x2 x4 y0 (0 : Int32) μ43
def M_Mo_setLimit_9 (N : Nat) (x1 : Int32) (x2 : Int32) (x3 : Int32) (y0 : Int32) (μ : Mem) : Option Mem := if x3 = (0 : Int32) then ((ldI μ 31 x2).bind fun v29 => M_Mo_setLimit_30 N x1 x2 y0 v29 μ) else ((ldI μ 32 x2).bind fun v20 => M_Mo_setLimit_30 N x1 x2 y0 v20 μ)
def M_Mo_setLimit (N : Nat) (x1 : Int32) (x2 : Int32) (x3 : Int32) (μ : Mem) : Option Mem := if x3 = (0 : Int32) then (M_Mo_setLimit_9 N x1 x2 x3 (1 : Int32) μ) else (M_Mo_setLimit_9 N x1 x2 x3 (-1 : Int32) μ)
def M_Mo_setLimits_153 (N : Nat) (K36 : Int32 → Mem → Option Mem) (K43 : Int32 → Int32 → Mem → Option Mem) (x1 : Int32) (x2 : Int32) (y1 : Int32) (y2 : Int32) (μ : Mem) : Option Mem := (stI μ 38 y1 y2).bind fun μ153 => K43 x1 (x2 + 1) μ153
def M_Mo_setLimits_142 (N : Nat) (K36 : Int32 → Mem → Option Mem) (K43 : Int32 → Int32 → Mem → Option Mem) (x1 : Int32) (x2 : Int32) (y1 : Int32) (μ : Mem) : Option Mem := M_Mo_setLimits_153 N K36 K43 x1 x2 y1 (0 : Int32) μ
def M_Mo_setLimits_114 (N : Nat) (K36 : Int32 → Mem → Option Mem) (K43 : Int32 → Int32 → Mem → Option Mem) (K83 : Int32 → Int32 → Int32 → Int32 → Mem → Option Mem) (x1 : Int32) (x2 : Int32) (x3 : Int32) (x4 : Int32) (y1 : Int32) (y2 : Int32) (μ : Mem) : Option Mem := (stI μ 38 y1 y2).bind fun μ114 => K83 x1 x2 x3 (x4 + 1) μ114
def M_Mo_setLimits_83 (N : Nat) (K36 : Int32 → Mem → Option Mem) (K43 : Int32 → Int32 → Mem → Option Mem) : Nat → Int32 → Int32 → Int32 → Int32 → Mem → Option Mem
  | 0, _, _, _, _, _ => none
  | n + 1, x1, x2, x3, x4, μ => if (4 : Int32) ≤ x4 then (if x2 = (0 : Int32) then (M_Mo_setLimits_142 N K36 K43 x1 x2 (((5 : Int32) * x3) + (4 : Int32)) μ) else (if x1 < (μ.1 7 0) then ((ldI μ 28 x1).bind fun v151 => M_Mo_setLimits_153 N K36 K43 x1 x2 (((5 : Int32) * x3) + (4 : Int32)) (-v151) μ) else (M_Mo_setLimits_142 N K36 K43 x1 x2 (((5 : Int32) * x3) + (4 : Int32)) μ))) else (if x4 = x1 then (M_Mo_setLimits_114 N K36 K43 (M_Mo_setLimits_83 N K36 K43 n) x1 x2 x3 x4 (((5 : Int32) * x3) + x4) ((1 : Int32) - ((2 : Int32) * x2)) μ) else (M_Mo_setLimits_114 N K36 K43 (M_Mo_setLimits_83 N K36 K43 n) x1 x2 x3 x4 (((5 : Int32) * x3) + x4) (0 : Int32) μ))
def M_Mo_setLimits_79 (N : Nat) (K36 : Int32 → Mem → Option Mem) (K43 : Int32 → Int32 → Mem → Option Mem) (x1 : Int32) (x2 : Int32) (x3 : Int32) (y1 : Int32) (y2 : Int32) (μ : Mem) : Option Mem := (stZ μ 15 y1 y2).bind fun μ79 => M_Mo_setLimits_83 N K36 K43 N x1 x2 x3 (0 : Int32) μ79
def M_Mo_setLimits_74 (N : Nat) (K36 : Int32 → Mem → Option Mem) (K43 : Int32 → Int32 → Mem → Option Mem) (x1 : Int32) (x2 : Int32) (x3 : Int32) (y1 : Int32) (μ : Mem) : Option Mem := M_Mo_setLimits_79 N K36 K43 x1 x2 x3 y1 (1 : Int32) μ
def M_Mo_setLimits_43 (N : Nat) (K36 : Int32 → Mem → Option Mem) : Nat → Int32 → Int32 → Mem → Option Mem
  | 0, _, _, _ => none
  | n + 1, x1, x2, μ => if (2 : Int32) ≤ x2 then (K36 (x1 + 1) μ) else (nm (((16 : Int32) + ((2 : Int32) * x1)) + x2) fun x3_56 => if x1 < (μ.1 7 0) then (M_Mo_setLimits_74 N K36 (M_Mo_setLimits_43 N K36 n) x1 x2 x3_56 x3_56 μ) else (if x2 = (0 : Int32) then (M_Mo_setLimits_74 N K36 (M_Mo_setLimits_43 N K36 n) x1 x2 x3_56 x3_56 μ) else (M_Mo_setLimits_79 N K36 (M_Mo_setLimits_43 N K36 n) x1 x2 x3_56 x3_56 (0 : Int32) μ)))
def M_Mo_setLimits_36 (N : Nat) : Nat → Int32 → Mem → Option Mem
  | 0, _, _ => none
  | n + 1, x1, μ => if (4 : Int32) ≤ x1 then (some μ) else (M_Mo_setLimits_43 N (M_Mo_setLimits_36 N n) N x1 (0 : Int32) μ)
def M_Mo_setLimits_2 (N : Nat) : Nat → Int32 → Mem → Option Mem
  | 0, _, _ => none
  | n + 1, x1, μ => if (8 : Int32) ≤ x1 then (M_Mo_setLimits_36 N N (0 : Int32) μ) else ((M_Mo_setLimit N ((2 : Int32) * x1) x1 (0 : Int32) μ).bind fun μ14 => (M_Mo_setLimit N (((2 : Int32) * x1) + (1 : Int32)) x1 (1 : Int32) μ14).bind fun μ25 => M_Mo_setLimits_2 N n (x1 + 1) μ25)
def M_Mo_setLimits (N : Nat) (μ : Mem) : Option Mem := M_Mo_setLimits_2 N N (0 : Int32) μ
def M_Mo_at_22 (N : Nat) (y1 : Int32) (y2 : Int32) (μ : Mem) : Option (Int64 × Mem) := (ldI μ 38 (y1 + y2)).bind fun v23 => some (v23.toInt64, μ)
def M_Mo_at (N : Nat) (x1 : Int32) (x2 : Int32) (x3 : Int32) (μ : Mem) : Option (Int64 × Mem) := (ldI μ 39 x1).bind fun v10 => if x2 = x3 then (M_Mo_at_22 N ((5 : Int32) * v10) (4 : Int32) μ) else (M_Mo_at_22 N ((5 : Int32) * v10) x2 μ)
def M_Mo_minor (N : Nat) (x1 : Int32) (x2 : Int32) (x3 : Int32) (x4 : Int32) (x5 : Int32) (μ : Mem) : Option (Int64 × Mem) := bn2 (M_Mo_at N x1 x3 x5 μ) fun r5 μ5 => bn2 (M_Mo_at N x2 x4 x5 μ5) fun r14 μ14 => bn2 (M_Mo_at N x1 x4 x5 μ14) fun r24 μ24 => bn2 (M_Mo_at N x2 x3 x5 μ24) fun r32 μ32 => some ((r5 * r14) - (r24 * r32), μ32)
def M_Mo_determinant (N : Nat) (x1 : Int32) (μ : Mem) : Option (Int64 × Mem) := bn2 (M_Mo_minor N (0 : Int32) (1 : Int32) (0 : Int32) (1 : Int32) x1 μ) fun r6 μ6 => bn2 (M_Mo_minor N (2 : Int32) (3 : Int32) (2 : Int32) (3 : Int32) x1 μ6) fun r15 μ15 => bn2 (M_Mo_minor N (0 : Int32) (1 : Int32) (0 : Int32) (2 : Int32) x1 μ15) fun r25 μ25 => bn2 (M_Mo_minor N (2 : Int32) (3 : Int32) (1 : Int32) (3 : Int32) x1 μ25) fun r34 μ34 => bn2 (M_Mo_minor N (0 : Int32) (1 : Int32) (0 : Int32) (3 : Int32) x1 μ34) fun r45 μ45 => bn2 (M_Mo_minor N (2 : Int32) (3 : Int32) (1 : Int32) (2 : Int32) x1 μ45) fun r54 μ54 => bn2 (M_Mo_minor N (0 : Int32) (1 : Int32) (1 : Int32) (2 : Int32) x1 μ54) fun r65 μ65 => bn2 (M_Mo_minor N (2 : Int32) (3 : Int32) (0 : Int32) (3 : Int32) x1 μ65) fun r74 μ74 => bn2 (M_Mo_minor N (0 : Int32) (1 : Int32) (1 : Int32) (3 : Int32) x1 μ74) fun r85 μ85 => bn2 (M_Mo_minor N (2 : Int32) (3 : Int32) (0 : Int32) (2 : Int32) x1 μ85) fun r94 μ94 => bn2 (M_Mo_minor N (0 : Int32) (1 : Int32) (2 : Int32) (3 : Int32) x1 μ94) fun r105 μ105 => bn2 (M_Mo_minor N (2 : Int32) (3 : Int32) (0 : Int32) (1 : Int32) x1 μ105) fun r114 μ114 => some ((((((r6 * r15) - (r25 * r34)) + (r45 * r54)) + (r65 * r74)) - (r85 * r94)) + (r105 * r114), μ114)
def M_Mo_common_28 (N : Nat) : Nat → Int64 → Int64 → Option Int64
  | 0, _, _ => none
  | n + 1, x4, x6 => if (lg_cmp x4 (0 : Int64)) = (0 : Int32) then (some x6) else ((rmJ x6 x4).bind fun v39 => M_Mo_common_28 N n v39 x4)
def M_Mo_common_12 (N : Nat) (x2 : Int64) (y0 : Int64) : Option Int64 := if (0 : Int32) ≤ (lg_cmp x2 (0 : Int64)) then (M_Mo_common_28 N N y0 x2) else (nm (-x2) fun x6_26 => M_Mo_common_28 N N y0 x6_26)
def M_Mo_common (N : Nat) (x0 : Int64) (x2 : Int64) : Option Int64 := if (0 : Int32) ≤ (lg_cmp x0 (0 : Int64)) then (M_Mo_common_12 N x2 x0) else (M_Mo_common_12 N x2 (-x0))
def M_Mo_meet_78 (N : Nat) : Nat → Int64 → Int32 → Mem → Option (Int32 × Mem)
  | 0, _, _, _ => none
  | n + 1, x1, x3, μ => if (4 : Int32) ≤ x3 then ((dvJ (μ.2 7 22) x1).bind fun v105 => (pJ μ 7 22 v105).bind fun μ106 => reZ (1 : Int32) μ106) else ((ldJ μ 46 x3).bind fun v89 => (dvJ v89 x1).bind fun v91 => (stJ μ 46 x3 v91).bind fun μ92 => M_Mo_meet_78 N n x1 (x3 + 1) μ92)
def M_Mo_meet_75 (N : Nat) (y0 : Int64) (μ : Mem) : Option (Int32 × Mem) := M_Mo_meet_78 N N y0 (0 : Int32) μ
def M_Mo_meet_27 (N : Nat) : Nat → Int64 → Int32 → Mem → Option (Int32 × Mem)
  | 0, _, _, _ => none
  | n + 1, x1, x3, μ => if (4 : Int32) ≤ x3 then (if (0 : Int32) ≤ (lg_cmp (μ.2 7 22) (0 : Int64)) then (M_Mo_meet_75 N x1 μ) else (M_Mo_meet_75 N (-x1) μ)) else (bn2 (M_Mo_determinant N x3 μ) fun r39 μ39 => (stJ μ39 46 x3 r39).bind fun μ42 => (ldJ μ42 46 x3).bind fun v48 => (M_Mo_common N v48 x1).bind fun r50 => M_Mo_meet_27 N n r50 (x3 + 1) μ42)
def M_Mo_meet (N : Nat) (μ : Mem) : Option (Int32 × Mem) := bn2 (M_Mo_determinant N (4 : Int32) μ) fun r3 μ3 => (pJ μ3 7 22 r3).bind fun μ6 => if (lg_cmp (μ6.2 7 22) (0 : Int64)) = (0 : Int32) then (reZ (0 : Int32) μ6) else (nm (μ6.2 7 22) fun x1_24 => M_Mo_meet_27 N N x1_24 (0 : Int32) μ6)
def M_Mo_isKept_136 (N : Nat) (x2 : Int64) (x4 : Int64) (y0 : Int64) (μ : Mem) : Option (Int32 × Mem) := (dvJ (x4 - y0) (2147483648 : Int64)).bind fun v147 => if (lg_cmp (x2 + v147) (0 : Int64)) < (0 : Int32) then (reZ (0 : Int32) μ) else (reZ (1 : Int32) μ)
def M_Mo_isKept_77 (N : Nat) (K8 : Int32 → Int64 → Int64 → Int32 → Mem → Option (Int32 × Mem)) (x1 : Int32) (x2 : Int64) (x4 : Int64) (x6 : Int32) (x7 : Int64) (x9 : Int64) (y0 : Int64) (μ : Mem) : Option (Int32 × Mem) := (dvJ (x7 - y0) (2147483648 : Int64)).bind fun v90 => nm (x2 + (x9 * v90)) fun x2_93 => nm (x4 + (x9 * y0)) fun x4_102 => K8 x1 x2_93 x4_102 (x6 + 1) μ
def M_Mo_isKept_35 (N : Nat) (K8 : Int32 → Int64 → Int64 → Int32 → Mem → Option (Int32 × Mem)) (x1 : Int32) (x2 : Int64) (x4 : Int64) (x6 : Int32) (y0 : Int64) (μ : Mem) : Option (Int32 × Mem) := (ldI μ 38 (((5 : Int32) * x1) + x6)).bind fun v47 => nm v47.toInt64 fun x9_49 => (rmJ y0 (2147483648 : Int64)).bind fun v56 => if (0 : Int32) ≤ (lg_cmp v56 (0 : Int64)) then (M_Mo_isKept_77 N K8 x1 x2 x4 x6 y0 x9_49 v56 μ) else (M_Mo_isKept_77 N K8 x1 x2 x4 x6 y0 x9_49 (v56 + (2147483648 : Int64)) μ)
def M_Mo_isKept_8 (N : Nat) : Nat → Int32 → Int64 → Int64 → Int32 → Mem → Option (Int32 × Mem)
  | 0, _, _, _, _, _ => none
  | n + 1, x1, x2, x4, x6, μ => if (5 : Int32) ≤ x6 then ((rmJ x4 (2147483648 : Int64)).bind fun v115 => if (0 : Int32) ≤ (lg_cmp v115 (0 : Int64)) then (M_Mo_isKept_136 N x2 x4 v115 μ) else (M_Mo_isKept_136 N x2 x4 (v115 + (2147483648 : Int64)) μ)) else (if (4 : Int32) ≤ x6 then (M_Mo_isKept_35 N (M_Mo_isKept_8 N n) x1 x2 x4 x6 (-(μ.2 7 22)) μ) else ((ldJ μ 46 x6).bind fun v26 => M_Mo_isKept_35 N (M_Mo_isKept_8 N n) x1 x2 x4 x6 v26 μ))
def M_Mo_isKept (N : Nat) (x1 : Int32) (μ : Mem) : Option (Int32 × Mem) := M_Mo_isKept_8 N N x1 (0 : Int64) (0 : Int64) (0 : Int32) μ
def M_Mo_keptRules_74 (N : Nat) (K29 : Int32 → Int32 → Mem → Option (Int32 × Mem)) (x2 : Int32) (y0 : Int32) (y1 : Int32) (μ : Mem) : Option (Int32 × Mem) := nm (y0 ||| y1) fun x1_75 => K29 x1_75 (x2 + 1) μ
def M_Mo_keptRules_73 (N : Nat) (K29 : Int32 → Int32 → Mem → Option (Int32 × Mem)) (x2 : Int32) (y0 : Int32) (μ : Mem) : Option (Int32 × Mem) := M_Mo_keptRules_74 N K29 x2 y0 (0 : Int32) μ
def M_Mo_keptRules_67 (N : Nat) (K29 : Int32 → Int32 → Mem → Option (Int32 × Mem)) (x2 : Int32) (y0 : Int32) (μ : Mem) : Option (Int32 × Mem) := M_Mo_keptRules_74 N K29 x2 y0 ((1 : Int32) <<< (x2 &&& 31)) μ
def M_Mo_keptRules_29 (N : Nat) : Nat → Int32 → Int32 → Mem → Option (Int32 × Mem)
  | 0, _, _, _ => none
  | n + 1, x1, x2, μ => if (8 : Int32) ≤ x2 then (some (x1, μ)) else ((ldZ μ 14 x2).bind fun v41 => if v41 = (0 : Int32) then (M_Mo_keptRules_67 N (M_Mo_keptRules_29 N n) x2 x1 μ) else (bn2 (M_Mo_isKept N ((2 : Int32) * x2) μ) fun r49 μ49 => if r49 = (0 : Int32) then (M_Mo_keptRules_73 N (M_Mo_keptRules_29 N n) x2 x1 μ49) else (bn2 (M_Mo_isKept N (((2 : Int32) * x2) + (1 : Int32)) μ49) fun r61 μ61 => if r61 = (0 : Int32) then (M_Mo_keptRules_73 N (M_Mo_keptRules_29 N n) x2 x1 μ61) else (M_Mo_keptRules_67 N (M_Mo_keptRules_29 N n) x2 x1 μ61))))
def M_Mo_keptRules_3 (N : Nat) : Nat → Int32 → Mem → Option (Int32 × Mem)
  | 0, _, _ => none
  | n + 1, x1, μ => if (24 : Int32) ≤ x1 then (M_Mo_keptRules_29 N N (0 : Int32) (0 : Int32) μ) else (bn2 (M_Mo_isKept N x1 μ) fun r11 μ11 => if r11 = (0 : Int32) then (some ((-1 : Int32), μ11)) else (M_Mo_keptRules_3 N n (x1 + 1) μ11))
def M_Mo_keptRules (N : Nat) (μ : Mem) : Option (Int32 × Mem) := M_Mo_keptRules_3 N N (16 : Int32) μ
def M_Mo_isLess_155 (N : Nat) (x16 : Int32) (y0 : Int32) : Option Int32 := if y0 = x16 then (okZ (0 : Int32)) else (okZ (1 : Int32))
def M_Mo_isLess_135 (N : Nat) (x16 : Int32) (x17 : Int64) (x19 : Int64) : Option Int32 := if (lg_cmp x17 x19) = (0 : Int32) then (okZ (0 : Int32)) else (if (lg_cmp x17 (0 : Int64)) = (0 : Int32) then (M_Mo_isLess_155 N x16 (1 : Int32)) else (M_Mo_isLess_155 N x16 (0 : Int32)))
def M_Mo_isLess_110 (N : Nat) (x16 : Int32) (y0 : Int32) : Option Int32 := if y0 = x16 then (okZ (0 : Int32)) else (okZ (1 : Int32))
def M_Mo_isLess_67 (N : Nat) (K17 : Int64 → Int64 → Int64 → Int64 → Int32 → Option Int32) (x8 : Int64) (x10 : Int64) (x12 : Int64) (x14 : Int64) (x16 : Int32) (x17 : Int64) (y0 : Int64) : Option Int32 := (dvJ (x8 - x17) x10).bind fun v76 => (dvJ (x12 - y0) x14).bind fun v86 => if (lg_cmp v76 v86) = (0 : Int32) then (if (lg_cmp x17 (0 : Int64)) = (0 : Int32) then (M_Mo_isLess_135 N x16 x17 y0) else (if (lg_cmp y0 (0 : Int64)) = (0 : Int32) then (M_Mo_isLess_135 N x16 x17 y0) else (if x16 = (0 : Int32) then (K17 x10 x17 x14 y0 (1 : Int32)) else (K17 x10 x17 x14 y0 (0 : Int32))))) else (if (0 : Int32) ≤ (lg_cmp v76 v86) then (M_Mo_isLess_110 N x16 (0 : Int32)) else (M_Mo_isLess_110 N x16 (1 : Int32)))
def M_Mo_isLess_41 (N : Nat) (K17 : Int64 → Int64 → Int64 → Int64 → Int32 → Option Int32) (x8 : Int64) (x10 : Int64) (x12 : Int64) (x14 : Int64) (x16 : Int32) (y0 : Int64) : Option Int32 := (rmJ x12 x14).bind fun v47 => if (0 : Int32) ≤ (lg_cmp v47 (0 : Int64)) then (M_Mo_isLess_67 N K17 x8 x10 x12 x14 x16 y0 v47) else (M_Mo_isLess_67 N K17 x8 x10 x12 x14 x16 y0 (v47 + x14))
def M_Mo_isLess_17 (N : Nat) : Nat → Int64 → Int64 → Int64 → Int64 → Int32 → Option Int32
  | 0, _, _, _, _, _ => none
  | n + 1, x8, x10, x12, x14, x16 => (rmJ x8 x10).bind fun v21 => if (0 : Int32) ≤ (lg_cmp v21 (0 : Int64)) then (M_Mo_isLess_41 N (M_Mo_isLess_17 N n) x8 x10 x12 x14 x16 v21) else (M_Mo_isLess_41 N (M_Mo_isLess_17 N n) x8 x10 x12 x14 x16 (v21 + x10))
def M_Mo_isLess (N : Nat) (x0 : Int64) (x2 : Int64) (x4 : Int64) (x6 : Int64) : Option Int32 := M_Mo_isLess_17 N N x0 x2 x4 x6 (0 : Int32)
def M_Mo_lookAtCorner_102 (N : Nat) (x2 : Int64) (μ : Mem) : Option Mem := (M_Mo_common N x2 (μ.2 7 22)).bind fun r107 => (dvJ x2 r107).bind fun v116 => (pJ μ 7 14 v116).bind fun μ117 => (dvJ (μ117.2 7 22) r107).bind fun v127 => (pJ μ117 7 15 v127).bind fun μ128 => some μ128
def M_Mo_lookAtCorner_40 (N : Nat) : Nat → Int64 → Int32 → Mem → Option Mem
  | 0, _, _, _ => none
  | n + 1, x2, x4, μ => if (μ.1 7 0) ≤ x4 then (if (lg_cmp (μ.2 7 15) (0 : Int64)) = (0 : Int32) then (M_Mo_lookAtCorner_102 N x2 μ) else ((M_Mo_isLess N x2 (μ.2 7 22) (μ.2 7 14) (μ.2 7 15)).bind fun r96 => if r96 = (0 : Int32) then (some μ) else (M_Mo_lookAtCorner_102 N x2 μ))) else ((ldJ μ 46 x4).bind fun v56 => (ldI μ 29 x4).bind fun v63 => nm (x2 + (v56 * v63.toInt64)) fun x2_67 => M_Mo_lookAtCorner_40 N n x2_67 (x4 + 1) μ)
def M_Mo_lookAtCorner_15 (N : Nat) (y0 : Int32) (μ : Mem) : Option Mem := if (0 : Int32) ≤ y0 then ((stZ μ 16 y0 (1 : Int32)).bind fun μ27 => if y0 = (255 : Int32) then (M_Mo_lookAtCorner_40 N N (0 : Int64) (0 : Int32) μ27) else (some μ27)) else (some μ)
def M_Mo_lookAtCorner (N : Nat) (μ : Mem) : Option Mem := bn2 (M_Mo_meet N μ) fun r1 μ1 => if r1 = (0 : Int32) then (M_Mo_lookAtCorner_15 N (-1 : Int32) μ1) else (bn2 (M_Mo_keptRules N μ1) fun r8 μ8 => M_Mo_lookAtCorner_15 N r8 μ8)
def M_Mo_lookAtCorners_78 (N : Nat) (K29 : Int32 → Mem → Option Mem) (K39 : Int32 → Int32 → Mem → Option Mem) (K58 : Int32 → Int32 → Int32 → Mem → Option Mem) : Nat → Int32 → Int32 → Int32 → Int32 → Mem → Option Mem
  | 0, _, _, _, _, _ => none
  | n + 1, x1, x2, x3, x4, μ => if (24 : Int32) ≤ x4 then (K58 x1 x2 (x3 + 1) μ) else ((ldZ μ 15 x3).bind fun v90 => if v90 = (0 : Int32) then (K58 x1 x2 (x3 + 1) μ) else ((ldZ μ 15 x4).bind fun v100 => if v100 = (0 : Int32) then (M_Mo_lookAtCorners_78 N K29 K39 K58 n x1 x2 x3 (x4 + 1) μ) else ((stI μ 39 (0 : Int32) x1).bind fun μ110 => (stI μ110 39 (1 : Int32) x2).bind fun μ117 => (stI μ117 39 (2 : Int32) x3).bind fun μ124 => (stI μ124 39 (3 : Int32) x4).bind fun μ132 => (M_Mo_lookAtCorner N μ132).bind fun μ134 => M_Mo_lookAtCorners_78 N K29 K39 K58 n x1 x2 x3 (x4 + 1) μ134)))
def M_Mo_lookAtCorners_58 (N : Nat) (K29 : Int32 → Mem → Option Mem) (K39 : Int32 → Int32 → Mem → Option Mem) : Nat → Int32 → Int32 → Int32 → Mem → Option Mem
  | 0, _, _, _, _ => none
  | n + 1, x1, x2, x3, μ => if (24 : Int32) ≤ x3 then (K39 x1 (x2 + 1) μ) else ((ldZ μ 15 x2).bind fun v69 => if v69 = (0 : Int32) then (K39 x1 (x2 + 1) μ) else (nm (x3 + (1 : Int32)) fun x4_76 => M_Mo_lookAtCorners_78 N K29 K39 (M_Mo_lookAtCorners_58 N K29 K39 n) N x1 x2 x3 x4_76 μ))
def M_Mo_lookAtCorners_39 (N : Nat) (K29 : Int32 → Mem → Option Mem) : Nat → Int32 → Int32 → Mem → Option Mem
  | 0, _, _, _ => none
  | n + 1, x1, x2, μ => if (24 : Int32) ≤ x2 then (K29 (x1 + 1) μ) else ((ldZ μ 15 x1).bind fun v50 => if v50 = (0 : Int32) then (K29 (x1 + 1) μ) else (nm (x2 + (1 : Int32)) fun x3_57 => M_Mo_lookAtCorners_58 N K29 (M_Mo_lookAtCorners_39 N K29 n) N x1 x2 x3_57 μ))
def M_Mo_lookAtCorners_29 (N : Nat) : Nat → Int32 → Mem → Option Mem
  | 0, _, _ => none
  | n + 1, x1, μ => if (24 : Int32) ≤ x1 then (some μ) else (nm (x1 + (1 : Int32)) fun x2_38 => M_Mo_lookAtCorners_39 N (M_Mo_lookAtCorners_29 N n) N x1 x2_38 μ)
def M_Mo_lookAtCorners_2 (N : Nat) : Nat → Int32 → Mem → Option Mem
  | 0, _, _ => none
  | n + 1, x1, μ => if (256 : Int32) ≤ x1 then ((pJ μ 7 15 (0 : Int64)).bind fun μ24 => M_Mo_lookAtCorners_29 N N (0 : Int32) μ24) else ((stZ μ 16 x1 (0 : Int32)).bind fun μ15 => M_Mo_lookAtCorners_2 N n (x1 + 1) μ15)
def M_Mo_lookAtCorners (N : Nat) (μ : Mem) : Option Mem := M_Mo_lookAtCorners_2 N N (0 : Int32) μ
def M_Mo_canBeKept_2 (N : Nat) : Nat → Int32 → Int32 → Mem → Option (Int32 × Mem)
  | 0, _, _, _ => none
  | n + 1, x1, x2, μ => if (256 : Int32) ≤ x2 then (reZ (0 : Int32) μ) else ((ldZ μ 16 x2).bind fun v14 => if v14 = (0 : Int32) then (M_Mo_canBeKept_2 N n x1 (x2 + 1) μ) else (if (x2 &&& x1) = x1 then (reZ (1 : Int32) μ) else (M_Mo_canBeKept_2 N n x1 (x2 + 1) μ)))
def M_Mo_canBeKept (N : Nat) (x1 : Int32) (μ : Mem) : Option (Int32 × Mem) := M_Mo_canBeKept_2 N N x1 (0 : Int32) μ
def M_Mo_sizeOf_4 (N : Nat) : Nat → Int32 → Int32 → Int32 → Option Int32
  | 0, _, _, _ => none
  | n + 1, x0, x1, x2 => if (8 : Int32) ≤ x2 then (some x1) else (nm (x1 + ((x0 >>> (x2 &&& 31)) &&& (1 : Int32))) fun x1_17 => M_Mo_sizeOf_4 N n x0 x1_17 (x2 + 1))
def M_Mo_sizeOf (N : Nat) (x0 : Int32) : Option Int32 := M_Mo_sizeOf_4 N N x0 (0 : Int32) (0 : Int32)
def M_Mo_findClash_45 (N : Nat) : Nat → Int32 → Int32 → Int32 → Mem → Option Mem
  | 0, _, _, _, _ => none
  | n + 1, x1, x2, x3, μ => if (256 : Int32) ≤ x3 then (some μ) else (if (x3 &&& x2) = x3 then ((M_Mo_sizeOf N x3).bind fun r60 => if x1 ≤ r60 then (M_Mo_findClash_45 N n x1 x2 (x3 + 1) μ) else (bn2 (M_Mo_canBeKept N x3 μ) fun r69 μ69 => if r69 = (0 : Int32) then ((pI μ69 7 16 x3).bind fun μ77 => (M_Mo_sizeOf N x3).bind fun r81 => M_Mo_findClash_45 N n r81 x2 (x3 + 1) μ77) else (M_Mo_findClash_45 N n x1 x2 (x3 + 1) μ69))) else (M_Mo_findClash_45 N n x1 x2 (x3 + 1) μ))
def M_Mo_findClash_35 (N : Nat) (K12 : Int32 → Int32 → Int32 → Mem → Option Mem) (x1 : Int32) (x3 : Int32) (y0 : Int32) (y1 : Int32) (μ : Mem) : Option Mem := nm (y0 ||| y1) fun x2_36 => K12 x1 x2_36 (x3 + 1) μ
def M_Mo_findClash_12 (N : Nat) : Nat → Int32 → Int32 → Int32 → Mem → Option Mem
  | 0, _, _, _, _ => none
  | n + 1, x1, x2, x3, μ => if (8 : Int32) ≤ x3 then (M_Mo_findClash_45 N N x1 x2 (1 : Int32) μ) else ((ldZ μ 14 x3).bind fun v24 => if v24 = (0 : Int32) then (M_Mo_findClash_35 N (M_Mo_findClash_12 N n) x1 x3 x2 (0 : Int32) μ) else (M_Mo_findClash_35 N (M_Mo_findClash_12 N n) x1 x3 x2 ((1 : Int32) <<< (x3 &&& 31)) μ))
def M_Mo_findClash (N : Nat) (μ : Mem) : Option Mem := (pI μ 7 16 (0 : Int32)).bind fun μ2 => M_Mo_findClash_12 N N (9 : Int32) (0 : Int32) (0 : Int32) μ2
def M_Mo_run_64 (N : Nat) (μ : Mem) : Option (Int32 × Mem) := some (μ.1 7 10, μ)
def M_Mo_run (N : Nat) (μ : Mem) : Option (Int32 × Mem) := bn2 (M_Mo_findWhole N μ) fun r1 μ1 => (M_Mo_setLimits N μ1).bind fun μ6 => (M_Mo_lookAtCorners N μ6).bind fun μ10 => (pI μ10 7 11 (μ10.1 7 0)).bind fun μ18 => (pI μ18 7 16 (0 : Int32)).bind fun μ23 => if r1 = (0 : Int32) then (if (lg_cmp (μ23.2 7 15) (0 : Int64)) ≤ (0 : Int32) then ((pI μ23 7 10 (2 : Int32)).bind fun μ57 => (M_Mo_findClash N μ57).bind fun μ61 => M_Mo_run_64 N μ61) else ((pI μ23 7 10 (1 : Int32)).bind fun μ49 => M_Mo_run_64 N μ49)) else ((pI μ23 7 10 (0 : Int32)).bind fun μ32 => M_Mo_run_64 N μ32)
def M_Mo_best (N : Nat) (x1 : Int32) (μ : Mem) : Option (Int32 × Mem) := if (μ.1 7 10) = (0 : Int32) then (if x1 < (0 : Int32) then (some ((-1 : Int32), μ)) else (if (μ.1 7 11) ≤ x1 then (some ((-1 : Int32), μ)) else ((ldI μ 36 x1).bind fun v24 => some (v24, μ)))) else (some ((-1 : Int32), μ))
def M_Mo_cost (N : Nat) (μ : Mem) : Option (Int64 × Mem) := if (μ.1 7 10) = (0 : Int32) then (some (μ.2 7 13, μ)) else (some ((-9223372036854775808 : Int64), μ))
def M_Mo_cut_19 (N : Nat) (x1 : Int32) (μ : Mem) : Option (Int64 × Mem) := if (2 : Int32) ≤ (μ.1 7 10) then (some ((-9223372036854775808 : Int64), μ)) else (if x1 = (1 : Int32) then (some (μ.2 7 15, μ)) else (some ((-9223372036854775808 : Int64), μ)))
def M_Mo_cut (N : Nat) (x1 : Int32) (μ : Mem) : Option (Int64 × Mem) := if (2 : Int32) ≤ (μ.1 7 10) then (M_Mo_cut_19 N x1 μ) else (if x1 = (0 : Int32) then (some (μ.2 7 14, μ)) else (M_Mo_cut_19 N x1 μ))
def M_Mo_clashes (N : Nat) (μ : Mem) : Option (Int32 × Mem) := if (μ.1 7 10) = (2 : Int32) then ((M_Mo_sizeOf N (μ.1 7 16)).bind fun r12 => some (r12, μ)) else (some ((-1 : Int32), μ))
def M_Mo_clash (N : Nat) (x1 : Int32) (μ : Mem) : Option (Int32 × Mem) := if (μ.1 7 10) = (2 : Int32) then (if x1 < (0 : Int32) then (reZ (0 : Int32) μ) else (if (8 : Int32) ≤ x1 then (reZ (0 : Int32) μ) else (if (((μ.1 7 16) >>> (x1 &&& 31)) &&& (1 : Int32)) = (1 : Int32) then (reZ (1 : Int32) μ) else (reZ (0 : Int32) μ)))) else (reZ (0 : Int32) μ)
end
section
/-! THE CONSTRUCTORS. The cells come one behind another: the i-th one that is made is cell al i, at the address base + i. A reference field shows null until it is written (the place 100 + j of its object's ints is then 1). -/
def alL : List Nat := [0, 1, 17, 42, 8, 47, 48, 49, 50, 51, 52, 53, 2, 18, 19, 20, 21, 22, 3, 23, 9, 54, 55, 56, 57, 58, 59, 60, 61, 62, 63, 64, 65, 66, 67, 68, 69, 4, 10, 70, 71, 72, 73, 74, 43, 44, 13, 24, 5, 11, 75, 76, 77, 78, 79, 12, 80, 81, 82, 83, 84, 45, 25, 26, 6, 27, 40, 41, 7, 28, 29, 30, 14, 31, 32, 33, 34, 35, 36, 37, 38, 15, 39, 46, 16]
def al (i : Nat) : Nat := alL.getD i 0
theorem al_inj : ∀ i, i < 85 → ∀ j, j < 85 → al i = al j → i = j := by decide +kernel
def rfc (G : Gw) (μ : Mem) (k j a : Nat) : Value := if μ.1 k (100 + j) = 0 then .null else .ref (G.2.1 0 + a)
def obK (G : Gw) (μ : Mem) : Nat → List Value
  | 0 => [rfc G μ 0 0 1, rfc G μ 0 1 12, rfc G μ 0 2 18, rfc G μ 0 3 37, rfc G μ 0 4 48, rfc G μ 0 5 64, rfc G μ 0 6 66, rfc G μ 0 7 67]
  | 1 => [.int (μ.1 1 0), rfc G μ 1 1 2, rfc G μ 1 2 3, rfc G μ 1 3 4]
  | 2 => [.int (μ.1 2 0), rfc G μ 2 1 13, rfc G μ 2 2 14, rfc G μ 2 3 15, rfc G μ 2 4 16, rfc G μ 2 5 17]
  | 3 => [.int (μ.1 3 0), rfc G μ 3 1 19, rfc G μ 3 2 20]
  | 4 => [rfc G μ 4 0 1, rfc G μ 4 1 12, rfc G μ 4 2 18, rfc G μ 4 3 38, rfc G μ 4 4 44, rfc G μ 4 5 45, rfc G μ 4 6 46, rfc G μ 4 7 47, .int (μ.1 4 8), .int (μ.1 4 9), .int (μ.1 4 10), .long (μ.2 4 11), .long (μ.2 4 12)]
  | 5 => [rfc G μ 5 0 1, rfc G μ 5 1 18, rfc G μ 5 2 49, rfc G μ 5 3 55, rfc G μ 5 4 61, rfc G μ 5 5 62, .int (μ.1 5 6), .long (μ.2 5 7), rfc G μ 5 8 63]
  | 6 => [.int (μ.1 6 0), .int (μ.1 6 1), rfc G μ 6 2 65, .long (μ.2 6 3), .int (μ.1 6 4), .long (μ.2 6 5), .long (μ.2 6 6), .int (μ.1 6 7)]
  | _ => [.int (μ.1 7 0), rfc G μ 7 1 69, rfc G μ 7 2 70, rfc G μ 7 3 71, rfc G μ 7 4 72, rfc G μ 7 5 73, rfc G μ 7 6 74, rfc G μ 7 7 75, rfc G μ 7 8 76, rfc G μ 7 9 77, .int (μ.1 7 10), .int (μ.1 7 11), rfc G μ 7 12 78, .long (μ.2 7 13), .long (μ.2 7 14), .long (μ.2 7 15), .int (μ.1 7 16), rfc G μ 7 17 79, rfc G μ 7 18 80, rfc G μ 7 19 81, rfc G μ 7 20 82, rfc G μ 7 21 83, .long (μ.2 7 22), rfc G μ 7 23 84]
def outA (k : Nat) : Nat := if k < 9 then 5 else if k < 10 then 21 else if k < 11 then 39 else if k < 12 then 50 else 56
def entC (G : Gw) (μ : Mem) (k : Nat) : va_E :=
  if k < 8 then .inr (obC k, obK G μ k)
  else if k < 13 then .inl (G.2.2.1.2.2.2, outN k, .inr (.inr (.inr (.inr (fun i => some (G.2.1 0 + (outA k + i)))))))
  else ent G μ k
def WG (G : Gw) (μ : Mem) (n : Nat) : va_W := (List.range n).map fun i => (G.2.1 0 + i, entC G μ (al i))
theorem WG_get {G : Gw} {μ : Mem} {n i : Nat} (h : i < n) : (WG G μ n)[i]? = some (G.2.1 0 + i, entC G μ (al i)) := by simp [WG, h]
theorem WG_len {G : Gw} {μ : Mem} {n : Nat} : (WG G μ n).length = n := by simp [WG]
theorem WG_D {G : Gw} {μ : Mem} {n : Nat} : va_D (fun q => G.2.1 0 ≤ q) (WG G μ n) := by
  refine ⟨fun i j p q hi hj e => ?_, fun k q hk => ?_⟩
  · have h1 : i < n := by rw [← WG_len (G := G) (μ := μ) (n := n)]; exact (List.getElem?_eq_some_iff.mp hi).1
    have h2 : j < n := by rw [← WG_len (G := G) (μ := μ) (n := n)]; exact (List.getElem?_eq_some_iff.mp hj).1
    rw [WG_get h1] at hi
    rw [WG_get h2] at hj
    cases hi
    cases hj
    have e' : G.2.1 0 + i = G.2.1 0 + j := e
    omega
  · have h1 : k < n := by rw [← WG_len (G := G) (μ := μ) (n := n)]; exact (List.getElem?_eq_some_iff.mp hk).1
    rw [WG_get h1] at hk
    cases hk
    exact Nat.le_add_right _ _
theorem obK_congr {G : Gw} {μ μ' : Mem} {k : Nat} (h8 : k < 8) (h1 : ∀ b, μ'.1 k b = μ.1 k b) (h2 : ∀ b, μ'.2 k b = μ.2 k b) : obK G μ' k = obK G μ k := by
  match k, h8 with
  | 0, _ => simp [obK, rfc, h1, h2]
  | 1, _ => simp [obK, rfc, h1, h2]
  | 2, _ => simp [obK, rfc, h1, h2]
  | 3, _ => simp [obK, rfc, h1, h2]
  | 4, _ => simp [obK, rfc, h1, h2]
  | 5, _ => simp [obK, rfc, h1, h2]
  | 6, _ => simp [obK, rfc, h1, h2]
  | 7, _ => simp [obK, rfc, h1, h2]
theorem entC_congr {G : Gw} {μ μ' : Mem} {k : Nat} (h1 : ∀ b, μ'.1 k b = μ.1 k b) (h2 : ∀ b, μ'.2 k b = μ.2 k b) : entC G μ' k = entC G μ k := by
  unfold entC
  by_cases h8 : k < 8
  · rw [if_pos h8, if_pos h8, obK_congr h8 h1 h2]
  · rw [if_neg h8, if_neg h8, ent_congr h1 h2]
theorem WG_set {G : Gw} {μ μ' : Mem} {n i : Nat} {e : va_E} (hn : n ≤ 85) (hi : i < n) (he : e = entC G μ' (al i)) (ho : ∀ a, a ≠ al i → (∀ b, μ'.1 a b = μ.1 a b) ∧ ∀ b, μ'.2 a b = μ.2 a b) : (WG G μ n).set i (G.2.1 0 + i, e) = WG G μ' n := by
  apply List.ext_getElem?
  intro j
  rw [List.getElem?_set]
  by_cases hij : i = j
  · subst hij
    rw [if_pos rfl, if_pos (by rw [WG_len]; exact hi), WG_get hi, he]
  · rw [if_neg hij]
    by_cases hj : j < n
    · have hne : al j ≠ al i := fun q => hij (al_inj i (by omega) j (by omega) q.symm)
      rw [WG_get hj, WG_get hj, entC_congr (ho _ hne).1 (ho _ hne).2]
    · rw [List.getElem?_eq_none (by rw [WG_len]; omega), List.getElem?_eq_none (by rw [WG_len]; omega)]
theorem WG_succ {G : Gw} {μ : Mem} {n : Nat} : WG G μ (n + 1) = WG G μ n ++ [(G.2.1 0 + n, entC G μ (al n))] := by simp [WG, List.range_succ]
abbrev AWc (G : Gw) : Nat → Prop := fun q => G.2.1 0 ≤ q
def Zr (μ : Mem) (n : Nat) : Prop := ∀ i, n ≤ i → i < 85 → ∀ b, μ.1 (al i) b = 0 ∧ μ.2 (al i) b = 0
def WdC (G : Gw) (n : Nat) (μ : Mem) (U : State) : Prop := U.heap.size = G.2.1 0 + n ∧ va_P G.1 vwCl (WG G μ n) U.heap ∧ va_K G.1 vwCl (tyG G) U ∧ Zr μ n ∧ (Cond.arrayOver (.array .long)).before #[] U = true
def Wc (G : Gw) (s : State) (n : Nat) (μ : Mem) (H : Heap) (locs : List Loc) : Prop := H.size = G.2.1 0 + n ∧ va_P G.1 vwCl (WG G μ n) H ∧ va_S (AWc G) s.heap H locs ∧ Zr μ n
def QCc (G : Gw) (n : Nat) (μ' : Mem) : Array Value → State → Outcome → State → Prop := fun _ st oc t => (oc = .returned none ∧ t.heap.size = G.2.1 0 + n ∧ va_P G.1 vwCl (WG G μ' n) t.heap ∧ Zr μ' n) ∧ va_F (AWc G) st t
abbrev CTc (l : Launch) (y : MethodName) (ws : List Cond) (rm : Room) (av : List Value) (G : Gw) (n : Nat) (μ : Mem) (n' : Nat) (μ' : Mem) (mc ms : Nat) : Prop := Met l y ws rm (va_Pc av (WdC G n μ)) (QCc G n' μ') mc ms (AWc G)
def CxC (G : Gw) (p : Program) (s : State) (m : MethodId) (args : Array Value) (meth : Method) (c : Code) (cc : ByteArray) (maxL : Nat) (ret : Option FieldType) (own : String) (ws : List Cond) (n0 : Nat) : Prop :=
  p.tables.exec = Jvm.exec ∧ c.code = cc ∧ meth.sig.returnType = ret ∧ c.maxLocals = maxL ∧ s.vm.findClass own = some m.cls ∧ (∀ w ∈ ws, w.before args s = true) ∧ meth.locks = false ∧ va_K G.1 vwCl (tyG G) s ∧ s.heap.size = G.2.1 0 + n0 ∧ (Cond.arrayOver (.array .long)).before #[] s = true ∧ meth.name = "<init>"
section CW
variable {p : Program} {l : Launch} {e : Env} {R : Room} {s : State} {m : MethodId} {args : Array Value} {below : List Frame} {meth : Method} {c : Code} {H : Heap} {locs : List Loc} {cells slots : Nat} {Q : State → Prop}
variable {cc : ByteArray} {pc n : Nat} {ls : Array Slot} {rest : List Value} {G : Gw} {μ μ1 μ' : Mem}
theorem Zr.mono {n n' : Nat} (h : Zr μ n) (hn : n ≤ n') : Zr μ n' := fun i h1 h2 => h i (by omega) h2
theorem Zr.put {n i : Nat} (hn : n ≤ 85) (hi : i < n) (h : Zr μ n) (ho : ∀ a, a ≠ al i → (∀ b, μ1.1 a b = μ.1 a b) ∧ ∀ b, μ1.2 a b = μ.2 a b) : Zr μ1 n := fun j h1 h2 b => by
  have hne : al j ≠ al i := fun q => by have := al_inj j h2 i (by omega) q; omega
  rw [(ho _ hne).1 b, (ho _ hne).2 b]
  exact h j h1 h2 b
/-- a cell is made: the world with it -/
theorem wc_push {H1 : Heap} (hw : Wc G s n μ H locs) (hs : s.heap.size = G.2.1 0 + n ∨ G.2.1 0 ≤ s.heap.size) (e1 : va_at G.1 vwCl (G.2.1 0 + n, entC G μ (al n)) H1) (z1 : H1.size = H.size + 1) (o1 : ∀ q, q < H.size → H1[q]? = H[q]?) : Wc G s (n + 1) μ H1 locs := by
  obtain ⟨h1, h2, h3, h4⟩ := hw
  refine ⟨by omega, ?_, ⟨Nat.le_trans h3.1 (by omega), fun q q1 q2 => (o1 q (Nat.lt_of_lt_of_le q1 h3.1)).trans (h3.2.1 q q1 q2), h3.2.2⟩, h4.mono (Nat.le_succ n)⟩
  rw [WG_succ]
  refine (h2.kept (fun k q hq => o1 q.1 ((h2 k q hq).lt))).app (fun k q hk => ?_)
  have hz : k < 1 := (List.getElem?_eq_some_iff.mp hk).1
  rw [show k = 0 by omega] at hk
  cases hk
  exact e1
theorem m_cnew {own C : String} {T : u_T} {N ci index : Nat} {Ts : List Cond} (hx : p.tables.exec = Jvm.exec) (hb : c.code = cc) (hts : ∀ w ∈ Ts, w.before args s = true) (hin : ∀ w ∈ u_ws C T N, w ∈ Ts) (ty : Nat → FieldType) (hty : ∀ k, k < N → parseFieldDescriptor (T k).2.2.1 = some (ty k)) (hown : s.vm.findClass own = some m.cls) (hcl : (Cond.classLink own index C).before args s = true) (hinst : (Cond.instantiable C N).before args s = true) (hini : (Cond.initialized C).before args s = true)
    (hK : va_K G.1 vwCl (tyG G) s) (hw : Wc G s n μ H locs) (hs : G.2.1 0 ≤ s.heap.size) (hn : n < 85) (hk : al n = ci) (h8 : ci < 8) (hc : vwCl[ci]? = some (C, T, N)) (hfs : (∀ b, μ.1 ci b = 0 ∧ μ.2 ci b = 0) → ∀ j, j < N → defaultValue (ty j) = vp_V (obK G μ ci) j) (hcells : cells + 1 ≤ R.cells) (hslots : slots + N ≤ R.slots) (hdg : decode cc pc = .ok (.new index, 3))
    (kk : ∀ (H1 : Heap), Wc G s (n + 1) μ H1 locs → W p l e R s m args below meth c H1 locs (cells + 1) (slots + N) Q (F0 m (pc + 3) ls (.ref (G.2.1 0 + n) :: rest))) : W p l e R s m args below meth c H locs cells slots Q (F0 m pc ls rest) := by
  have hKn := hK.1 ci _ hc
  refine W.newcK hx hb hown hcl hinst hini rfl hdg hcells hslots hKn.2.1 hw.1 fun H1 kC hkC e1 z1 o1 => ?_
  refine kk H1 (wc_push hw (Or.inr hs) ?_ (by rw [hw.1]; exact z1) (fun q hq => o1 q (by rw [← hw.1]; exact hq)))
  have hz := hw.2.2.2 n (Nat.le_refl n) hn
  rw [hk] at hz ⊢
  unfold entC
  rw [if_pos h8]
  exact ⟨_, hc, (u_born ty hts hin hKn hkC e1 hty).to (hfs hz)⟩
theorem m_cnewi (hx : p.tables.exec = Jvm.exec) (hb : c.code = cc) (harr : (Cond.arrayClass .int).before args s = true) (hK : va_K G.1 vwCl (tyG G) s) (hw : Wc G s n μ H locs) (hs : G.2.1 0 ≤ s.heap.size) (hn : n < 85) {k N : Nat} {i : Int32} (hk : al n = k) (h1 : 17 ≤ k) (h2 : k < 40) (hN : lnI k = N) (hi : ¬ i < 0) (hiN : i.toNatClampNeg = N) (hbytes : N * componentBytes .int ≤ 536870912) (hcells : cells + 1 ≤ R.cells) (hslots : slots + N ≤ R.slots) (hdg : decode cc pc = .ok (.newarray .int, 2))
    (kk : ∀ (H1 : Heap), Wc G s (n + 1) μ H1 locs → W p l e R s m args below meth c H1 locs (cells + 1) (slots + N) Q (F0 m (pc + 2) ls (.ref (G.2.1 0 + n) :: rest))) : W p l e R s m args below meth c H locs cells slots Q (F0 m pc ls (.int i :: rest)) := by
  refine va_newaK (atype := .int) hx hb harr rfl hdg rfl hi hiN hbytes hcells hslots hw.1 fun H1 cA e1 z1 o1 hAr hNm => ?_
  refine kk H1 (wc_push hw (Or.inr hs) ?_ (by rw [hw.1]; exact z1) (fun q hq => o1 q (by rw [← hw.1]; exact hq)))
  have hz := hw.2.2.2 n (Nat.le_refl n) hn
  rw [hk] at hz ⊢
  have hc : cA = G.2.2.1.1 := Option.some.inj (hNm.symm.trans (hK.2 0 _ rfl).2)
  unfold entC
  rw [if_neg (by omega), if_neg (by omega), ent_I h1 h2, ← hc, hN, show μ.1 k = fun _ => 0 from funext fun b => (hz b).1]
  exact e1
theorem m_cnewz (hx : p.tables.exec = Jvm.exec) (hb : c.code = cc) (harr : (Cond.arrayClass .boolean).before args s = true) (hK : va_K G.1 vwCl (tyG G) s) (hw : Wc G s n μ H locs) (hs : G.2.1 0 ≤ s.heap.size) (hn : n < 85) {k N : Nat} {i : Int32} (hk : al n = k) (h1 : 13 ≤ k) (h2 : k < 17) (hN : lnI k = N) (hi : ¬ i < 0) (hiN : i.toNatClampNeg = N) (hbytes : N * componentBytes .boolean ≤ 536870912) (hcells : cells + 1 ≤ R.cells) (hslots : slots + N ≤ R.slots) (hdg : decode cc pc = .ok (.newarray .boolean, 2))
    (kk : ∀ (H1 : Heap), Wc G s (n + 1) μ H1 locs → W p l e R s m args below meth c H1 locs (cells + 1) (slots + N) Q (F0 m (pc + 2) ls (.ref (G.2.1 0 + n) :: rest))) : W p l e R s m args below meth c H locs cells slots Q (F0 m pc ls (.int i :: rest)) := by
  refine va_newaK (atype := .boolean) hx hb harr rfl hdg rfl hi hiN hbytes hcells hslots hw.1 fun H1 cA e1 z1 o1 hAr hNm => ?_
  refine kk H1 (wc_push hw (Or.inr hs) ?_ (by rw [hw.1]; exact z1) (fun q hq => o1 q (by rw [← hw.1]; exact hq)))
  have hz := hw.2.2.2 n (Nat.le_refl n) hn
  rw [hk] at hz ⊢
  have hc : cA = G.2.2.1.2.2.1 := Option.some.inj (hNm.symm.trans (hK.2 2 _ rfl).2)
  unfold entC
  rw [if_neg (by omega), if_neg (by omega), ent_Z h1 h2, ← hc, hN, show μ.1 k = fun _ => 0 from funext fun b => (hz b).1]
  exact e1
theorem m_cnewj (hx : p.tables.exec = Jvm.exec) (hb : c.code = cc) (harr : (Cond.arrayClass .long).before args s = true) (hK : va_K G.1 vwCl (tyG G) s) (hw : Wc G s n μ H locs) (hs : G.2.1 0 ≤ s.heap.size) (hn : n < 85) {k N : Nat} {i : Int32} (hk : al n = k) (h1 : 40 ≤ k) (hN : lnJ k = N) (hi : ¬ i < 0) (hiN : i.toNatClampNeg = N) (hbytes : N * componentBytes .long ≤ 536870912) (hcells : cells + 1 ≤ R.cells) (hslots : slots + N ≤ R.slots) (hdg : decode cc pc = .ok (.newarray .long, 2))
    (kk : ∀ (H1 : Heap), Wc G s (n + 1) μ H1 locs → W p l e R s m args below meth c H1 locs (cells + 1) (slots + N) Q (F0 m (pc + 2) ls (.ref (G.2.1 0 + n) :: rest))) : W p l e R s m args below meth c H locs cells slots Q (F0 m pc ls (.int i :: rest)) := by
  refine va_newaK (atype := .long) hx hb harr rfl hdg rfl hi hiN hbytes hcells hslots hw.1 fun H1 cA e1 z1 o1 hAr hNm => ?_
  refine kk H1 (wc_push hw (Or.inr hs) ?_ (by rw [hw.1]; exact z1) (fun q hq => o1 q (by rw [← hw.1]; exact hq)))
  have hz := hw.2.2.2 n (Nat.le_refl n) hn
  rw [hk] at hz ⊢
  have hc : cA = G.2.2.1.2.1 := Option.some.inj (hNm.symm.trans (hK.2 1 _ rfl).2)
  unfold entC
  rw [if_neg (by omega), if_neg (by omega), ent_J h1, ← hc, hN, show μ.2 k = fun _ => 0 from funext fun b => (hz b).2]
  exact e1
theorem arrV_ext {c : ClassId} {N : Nat} {f g : Nat → Value} (h : ∀ j, j < N → f j = g j) : arrV c N f = arrV c N g := by
  unfold arrV
  congr 1
  exact congrArg Array.ofFn (funext fun j => h j.1 j.2)
theorem outer_arr (c : ClassId) (N h0 : Nat) : ∀ i : Nat, Jvm.Free.Multi.outerC c N h0 i = arrV c N (fun j => if j < i then .ref (h0 + 1 + j) else .null) := by
  intro i
  induction i with
  | zero =>
    show ({ cls := c, slots := Array.replicate N .null, vm := .none } : Cell) = _
    rw [arrV_new]
    exact arrV_ext (fun j _ => by simp)
  | succ i ih =>
    show (Jvm.Free.Multi.outerC c N h0 i).setSlot i (.ref (h0 + 1 + i)) = _
    rw [ih, arrV_store]
    refine arrV_ext (fun j _ => ?_)
    by_cases e : j = i
    · subst e
      simp [updV]
    · by_cases h : j < i
      · simp [updV, e, h, Nat.lt_succ_of_lt h]
      · simp [updV, e, h, show ¬ j < i + 1 by omega]
theorem m_cmulti (hx : p.tables.exec = Jvm.exec) (hb : c.code = cc) {own : String} {index : Nat} (hown : s.vm.findClass own = some m.cls) (hclink : (Cond.classLink own index "[[J").before args s = true) (hover : (Cond.arrayOver (.array .long)).before #[] s = true) (harr : (Cond.arrayClass .long).before args s = true)
    (hK : va_K G.1 vwCl (tyG G) s) (hw : Wc G s n μ H locs) (hs : G.2.1 0 ≤ s.heap.size) {k N K : Nat} {i j : Int32} (hn : n + 1 + N ≤ 85) (hk : al n = k) (h1 : 8 ≤ k) (h2 : k < 13) (hN : outN k = N) (hA : outA k = n + 1) (hrow : ∀ a, a < N → 40 ≤ al (n + 1 + a) ∧ lnJ (al (n + 1 + a)) = K) (hi : ¬ i < 0) (hj : ¬ j < 0) (hiN : i.toNatClampNeg = N) (hjK : j.toNatClampNeg = K)
    (hb1 : N * 4 ≤ 536870912) (hb2 : K * 8 ≤ 536870912) (hcells : cells + (1 + N) ≤ R.cells) (hslots : slots + (N + N * K) ≤ R.slots) (hdg : decode cc pc = .ok (.multianewarray index 2, 4))
    (kk : ∀ (H1 : Heap), Wc G s (n + 1 + N) μ H1 locs → W p l e R s m args below meth c H1 locs (cells + 1 + N) (slots + N + N * K) Q (F0 m (pc + 4) ls (.ref (G.2.1 0 + n) :: rest))) : W p l e R s m args below meth c H locs cells slots Q (F0 m pc ls (.int j :: .int i :: rest)) := by
  subst hiN
  subst hjK
  intro T hT Xs
  obtain ⟨vm₁, cA, comp, -, fA, fC, hO, -, X', step⟩ := Xs.multianewarray2F hx hown hclink (over_moved (Vm.Alike.refl s.vm) hover) harr (g := F0 m pc ls (.int j :: .int i :: rest)) rfl (by rw [hb]; exact hdg) rfl hi hj hb1 hb2 (by omega) rfl rfl hcells hslots
  generalize hF : Jvm.Free.Multi.fill (T.setVm vm₁) cA comp i.toNatClampNeg j.toNatClampNeg (defaultValue .long) i.toNatClampNeg = F at X' step
  have hTh : (T.setVm vm₁).heap = H := hT
  obtain ⟨f1, f2, -, -⟩ := Jvm.Free.Multi.fill_facts (T.setVm vm₁) cA comp i.toNatClampNeg j.toNatClampNeg (defaultValue .long) i.toNatClampNeg
  rw [hF, hTh] at f1 f2
  have hold : ∀ x : Nat, x < H.size → F.heap[x]? = H[x]? := fun x hx => by
    have := Jvm.Free.Multi.fill_old (T.setVm vm₁) cA comp i.toNatClampNeg j.toNatClampNeg (defaultValue .long) (a := x) (by rw [hTh]; exact hx) i.toNatClampNeg
    rw [hF, hTh] at this
    exact this
  have hin : ∀ a : Nat, a < i.toNatClampNeg → F.heap[H.size + 1 + a]? = some (Jvm.Free.Multi.innerC comp j.toNatClampNeg (defaultValue .long)) := fun a ha => by
    have := Jvm.Free.Multi.fill_inner (T.setVm vm₁) cA comp i.toNatClampNeg j.toNatClampNeg (defaultValue .long) i.toNatClampNeg a ha
    rw [hF, hTh] at this
    exact this
  obtain ⟨w1, w2, w3, w4⟩ := hw
  have hcA : cA = G.2.2.1.2.2.2 := Option.some.inj (fA.symm.trans (hK.2 3 _ rfl).2)
  have hcm : comp = G.2.2.1.2.1 := Option.some.inj (fC.symm.trans (hK.2 1 _ rfl).2)
  have hWc : Wc G s (n + 1 + i.toNatClampNeg) μ F.heap locs := by
    refine ⟨by omega, ?_, ⟨Nat.le_trans w3.1 (by omega), fun q q1 q2 => (hold q (Nat.lt_of_lt_of_le q1 w3.1)).trans (w3.2.1 q q1 q2), w3.2.2⟩, w4.mono (by omega)⟩
    intro b q hq
    have hb' : b < n + 1 + i.toNatClampNeg := by rw [← WG_len (G := G) (μ := μ) (n := n + 1 + i.toNatClampNeg)]; exact (List.getElem?_eq_some_iff.mp hq).1
    rw [WG_get hb'] at hq
    cases hq
    rcases Nat.lt_trichotomy b n with hlt | heq | hgt
    · exact (w2 b _ (WG_get hlt)).kept (hold _ (by show G.2.1 0 + b < _; omega))
    · subst heq
      rw [hk]
      unfold entC
      rw [if_neg (by omega), if_pos h2]
      show F.heap[G.2.1 0 + b]? = some (vp_cell _ _)
      rw [vp_cell_q, ← w1, f2, outer_arr, hcA, hN]
      refine congrArg some (arrV_ext (fun x hx => ?_))
      rw [if_pos hx, hA]
      have e9 : H.size + 1 + x = G.2.1 0 + (b + 1 + x) := by omega
      show Value.ref (H.size + 1 + x) = Value.ref (G.2.1 0 + (b + 1 + x))
      rw [e9]
    · obtain ⟨a, rfl⟩ : ∃ a, b = n + 1 + a := ⟨b - (n + 1), by omega⟩
      have ha : a < i.toNatClampNeg := by omega
      obtain ⟨r1, r2⟩ := hrow a ha
      have hz := w4 (n + 1 + a) (by omega) (by omega)
      unfold entC
      rw [if_neg (by omega), if_neg (by omega), ent_J r1, r2, show μ.2 (al (n + 1 + a)) = fun _ => 0 from funext fun b => (hz b).2]
      show F.heap[G.2.1 0 + (n + 1 + a)]? = some (vp_cell _ _)
      rw [vp_cell_l, show G.2.1 0 + (n + 1 + a) = H.size + 1 + a by omega, hin a ha, ← hcm]
      show some ({ cls := comp, slots := Array.replicate _ _, vm := .none } : Cell) = _
      rw [arrV_new]
      rfl
  obtain ⟨t, a1, b1⟩ := kk F.heap hWc F rfl X'
  refine ⟨t, step t ?_, b1⟩
  have e : T.heap.size = G.2.1 0 + n := by rw [hT]; exact w1
  rw [e]
  exact a1
theorem WG_obj {i ci : Nat} (hi : i < n) (hal : al i = ci) (h8 : ci < 8) : (WG G μ n)[i]? = some (G.2.1 0 + i, .inr (ci, obK G μ ci)) := by
  rw [WG_get hi, hal]
  unfold entC
  rw [if_pos h8]
  rfl
theorem m_cputF {own C ref : String} {T : u_T} {N ci index i : Nat} {Ts : List Cond} (hx : p.tables.exec = Jvm.exec) (hb : c.code = cc) (hts : ∀ w ∈ Ts, w.before args s = true) (hin : ∀ w ∈ u_ws C T N, w ∈ Ts) (ty0 : Nat → FieldType) (hty : ∀ k, k < N → parseFieldDescriptor (T k).2.2.1 = some (ty0 k)) (hnm : ∀ a, a < N → ∀ b, b < N → a ≠ b → (T a).2.1 ≠ (T b).2.1) (hown : s.vm.findClass own = some m.cls) (hK : va_K G.1 vwCl (tyG G) s) (hw : Wc G s n μ H locs)
    (hn : n ≤ 85) (hi : i < n) (hal : al i = ci) (h8 : ci < 8) (hc : vwCl[ci]? = some (C, T, N)) (k : Nat) (hk : k < N) (hlink : (Cond.fieldLink own index ref (T k).2.1 (T k).2.2.1).before args s = true) (hsame : ∀ x, s.fieldFound? (T k).1 (T k).2.1 (T k).2.2.1 = some x → s.fieldFound? ref (T k).2.1 (T k).2.2.1 = some x) (hfin : (T k).2.2.2 = true) (hin2 : meth.name = "<init>") (hdecl : (T k).1 = own) {ty : FieldType} {v : Value} (hd : parseFieldDescriptor (T k).2.2.1 = some ty) (hnv : narrow ty v = v) (hfit : fits ty v = true) (hl : k < (obK G μ ci).length)
    (hset : (obK G μ ci).set k v = obK G μ1 ci) (ho : ∀ a, a ≠ ci → (∀ b, μ1.1 a b = μ.1 a b) ∧ ∀ b, μ1.2 a b = μ.2 a b) (hdg : decode cc pc = .ok (.putfield index, 3))
    (kk : ∀ (H1 : Heap) (locs1 : List Loc), Wc G s n μ1 H1 locs1 → W p l e R s m args below meth c H1 locs1 cells slots Q (F0 m (pc + 3) ls rest)) : W p l e R s m args below meth c H locs cells slots Q (F0 m pc ls (v :: .ref (G.2.1 0 + i) :: rest)) := by
  have hap := va_apart (own := own) hts hin ty0 hty hnm hK hc
  have hP := hw.2.1
  have he : (WG G μ n)[i]? = some (G.2.1 0 + i, .inr (ci, obK G μ ci)) := WG_obj hi hal h8
  obtain ⟨r, h1, cell, q1, q2, q3, q4⟩ := hP i _ he
  have hr : r = (C, T, N) := Option.some.inj (h1.symm.trans hc)
  subst hr
  obtain ⟨hS, hfc, kC, hkC, hkind⟩ := hK.1 ci _ hc
  obtain ⟨cf, kf, fi, f, hf, hsl⟩ := hS k hk
  have hlay := hts _ (hin _ (u_in_lay hk))
  unfold u_lay at hlay
  rw [if_pos hfin] at hlay
  have hst := (u_facts hfc hkC (u_lays hts hin hk) hf).1
  have hcf : m.cls = cf := by
    obtain ⟨_, _, c', _, _, _, -, -, hf', -, -, -, hown2, -⟩ := Cond.laysFinal_spec hlay
    have e1 : c' = cf := by have := hf.symm.trans hf'; simp at this; exact this.1.symm
    rw [hdecl] at hown2
    rw [← e1]; exact Option.some.inj (hown.symm.trans hown2)
  have h6 := u_fits hfc hkC hkind (Or.inr hlay) hf hd hnv hfit
  refine W.putFinK hx hb hown hlink (hsame _ hf) hst hcf hin2 (by rw [q2]; exact h6) q1 q3 (by rw [hsl]; exact k2_hasslot (q4 k hk)) rfl rfl hdg fun H' e1 e2 e3 => ?_
  rw [hsl] at e1 ⊢
  have ho' : ∀ a, a ≠ al i → (∀ b, μ1.1 a b = μ.1 a b) ∧ ∀ b, μ1.2 a b = μ.2 a b := by rw [hal]; exact ho
  have hP' := hP.set WG_D he (e := .inr (ci, (obK G μ ci).set k v)) ⟨_, hc, t_OB.to (V := updV (vp_V (obK G μ ci)) k v) ⟨_, e1, q2, q3, t_set q4 hap hk v⟩ (fun j _ => vp_updV_set hl v j)⟩ e3
  rw [WG_set (μ' := μ1) hn hi (by rw [hal]; unfold entC; rw [if_pos h8, hset]; rfl) ho'] at hP'
  exact kk H' _ ⟨by rw [e2]; exact hw.1, hP', hw.2.2.1.put e2 e3 (Nat.le_add_right _ _), hw.2.2.2.put hn hi ho'⟩
theorem m_cputI {own C ref : String} {T : u_T} {N ci index i : Nat} {Ts : List Cond} (hx : p.tables.exec = Jvm.exec) (hb : c.code = cc) (hts : ∀ w ∈ Ts, w.before args s = true) (hin : ∀ w ∈ u_ws C T N, w ∈ Ts) (ty0 : Nat → FieldType) (hty : ∀ k, k < N → parseFieldDescriptor (T k).2.2.1 = some (ty0 k)) (hnm : ∀ a, a < N → ∀ b, b < N → a ≠ b → (T a).2.1 ≠ (T b).2.1) (hown : s.vm.findClass own = some m.cls) (hK : va_K G.1 vwCl (tyG G) s) (hw : Wc G s n μ H locs)
    (hn : n ≤ 85) (hi : i < n) (hal : al i = ci) (h8 : ci < 8) (hc : vwCl[ci]? = some (C, T, N)) (k : Nat) (hk : k < N) (hlink : (Cond.fieldLink own index ref (T k).2.1 (T k).2.2.1).before args s = true) (hsame : ∀ x, s.fieldFound? (T k).1 (T k).2.1 (T k).2.2.1 = some x → s.fieldFound? ref (T k).2.1 (T k).2.2.1 = some x) (hfin : (T k).2.2.2 = false) {ty : FieldType} {v : Value} (hd : parseFieldDescriptor (T k).2.2.1 = some ty) (hnv : narrow ty v = v) (hfit : fits ty v = true) (hl : k < (obK G μ ci).length)
    (hset : (obK G μ ci).set k v = obK G μ1 ci) (ho : ∀ a, a ≠ ci → (∀ b, μ1.1 a b = μ.1 a b) ∧ ∀ b, μ1.2 a b = μ.2 a b) (hdg : decode cc pc = .ok (.putfield index, 3))
    (kk : ∀ (H1 : Heap) (locs1 : List Loc), Wc G s n μ1 H1 locs1 → W p l e R s m args below meth c H1 locs1 cells slots Q (F0 m (pc + 3) ls rest)) : W p l e R s m args below meth c H locs cells slots Q (F0 m pc ls (v :: .ref (G.2.1 0 + i) :: rest)) := by
  have hap := va_apart (own := own) hts hin ty0 hty hnm hK hc
  have hP := hw.2.1
  have he : (WG G μ n)[i]? = some (G.2.1 0 + i, .inr (ci, obK G μ ci)) := WG_obj hi hal h8
  obtain ⟨r, h1, cell, q1, q2, q3, q4⟩ := hP i _ he
  have hr : r = (C, T, N) := Option.some.inj (h1.symm.trans hc)
  subst hr
  obtain ⟨hS, hfc, kC, hkC, hkind⟩ := hK.1 ci _ hc
  obtain ⟨cf, kf, fi, f, hf, hsl⟩ := hS k hk
  have hlay := hts _ (hin _ (u_in_lay hk))
  unfold u_lay at hlay
  rw [if_neg (by rw [hfin]; decide)] at hlay
  have hst := (u_facts hfc hkC (u_lays hts hin hk) hf).1
  have h6 := u_store hfc hkC hkind hlay hf hd hnv hfit
  refine W.putK hx hb (f := f) ⟨hown, hlink, ⟨_, _, _, hsame _ hf⟩, hst⟩ (by rw [q2]; exact h6) q1 q3 (by rw [hsl]; exact k2_hasslot (q4 k hk)) rfl rfl hdg fun H' e1 e2 e3 => ?_
  rw [hsl] at e1 ⊢
  have ho' : ∀ a, a ≠ al i → (∀ b, μ1.1 a b = μ.1 a b) ∧ ∀ b, μ1.2 a b = μ.2 a b := by rw [hal]; exact ho
  have hP' := hP.set WG_D he (e := .inr (ci, (obK G μ ci).set k v)) ⟨_, hc, t_OB.to (V := updV (vp_V (obK G μ ci)) k v) ⟨_, e1, q2, q3, t_set q4 hap hk v⟩ (fun j _ => vp_updV_set hl v j)⟩ e3
  rw [WG_set (μ' := μ1) hn hi (by rw [hal]; unfold entC; rw [if_pos h8, hset]; rfl) ho'] at hP'
  exact kk H' _ ⟨by rw [e2]; exact hw.1, hP', hw.2.2.1.put e2 e3 (Nat.le_add_right _ _), hw.2.2.2.put hn hi ho'⟩
theorem m_caald (hx : p.tables.exec = Jvm.exec) (hb : c.code = cc) (hK : va_K G.1 vwCl (tyG G) s) (hw : Wc G s n μ H locs) {i k a : Nat} {j : Int32} (hi : i < n) (hal : al i = k) (h1 : 8 ≤ k) (h2 : k < 13) (hj : ¬ (j < 0 ∨ outN k ≤ j.toNatClampNeg)) (ha : outA k + j.toNatClampNeg = a) (hdg : decode cc pc = .ok (.aaload, 1))
    (kk : W p l e R s m args below meth c H locs cells slots Q (F0 m (pc + 1) ls (.ref (G.2.1 0 + a) :: rest))) : W p l e R s m args below meth c H locs cells slots Q (F0 m pc ls (.int j :: .ref (G.2.1 0 + i) :: rest)) := by
  subst ha
  have hlt : j.toNatClampNeg < outN k := Nat.not_le.mp fun q => hj (Or.inr q)
  have hc := hw.2.1 i _ (WG_get (G := G) (μ := μ) hi)
  rw [hal] at hc
  unfold entC at hc
  rw [if_neg (by omega), if_pos h2] at hc
  exact W.aald (v := .ref (G.2.1 0 + (outA k + j.toNatClampNeg))) (ty := .array .long) hx hb hc ((hK.2 3 _ rfl).1 (outN k) (fun j => va_rf (some (G.2.1 0 + (outA k + j))))) rfl (fun q => by cases q) (by show ¬ (j < 0 ∨ (arrV _ _ _).slots.size ≤ _); rw [arrV_size]; exact hj) (by show (arrV _ _ _).slots[_]? = _; rw [arrV_read _ _ hlt]; rfl) rfl rfl hdg kk
theorem m_clast (hx : p.tables.exec = Jvm.exec) (hb : c.code = cc) (hK : va_K G.1 vwCl (tyG G) s) (hw : Wc G s n μ H locs) {i k : Nat} {j : Int32} {v : Int64} (hn : n ≤ 85) (hi : i < n) (hal : al i = k) (h1 : 40 ≤ k) (hj : ¬ (j < 0 ∨ lnJ k ≤ j.toNatClampNeg)) (hdg : decode cc pc = .ok (.lastore, 1))
    (kk : ∀ (H1 : Heap) (locs1 : List Loc), Wc G s n (μ.1, upJ μ.2 k j.toNatClampNeg v) H1 locs1 → W p l e R s m args below meth c H1 locs1 cells slots Q (F0 m (pc + 1) ls rest)) : W p l e R s m args below meth c H locs cells slots Q (F0 m pc ls (.long v :: .int j :: .ref (G.2.1 0 + i) :: rest)) := by
  have he : (WG G μ n)[i]? = some (G.2.1 0 + i, .inl (G.2.2.1.2.1, lnJ k, .inr (.inl (μ.2 k)))) := by
    rw [WG_get hi, hal]
    unfold entC
    rw [if_neg (by omega), if_neg (by omega), ent_J h1]
  refine W.last hx hb (hw.2.1 i _ he) ((hK.2 1 _ rfl).1 (lnJ k) (fun j => .long (μ.2 k j))) (fun q => by cases q) (by show ¬ (j < 0 ∨ (arrV _ _ _).slots.size ≤ _); rw [arrV_size]; exact hj) rfl rfl hdg fun H1 e z oq => ?_
  have ho' : ∀ a, a ≠ al i → (∀ b, (μ.1, upJ μ.2 k j.toNatClampNeg v).1 a b = μ.1 a b) ∧ ∀ b, (μ.1, upJ μ.2 k j.toNatClampNeg v).2 a b = μ.2 a b := by
    rw [hal]
    exact fun a ha => ⟨fun _ => rfl, upJ_ne ha⟩
  have hP' := hw.2.1.set WG_D he (H1 := H1) (e := .inl (G.2.2.1.2.1, lnJ k, .inr (.inl (vp_updL (μ.2 k) j.toNatClampNeg v)))) (by
    show H1[_]? = some (vp_cell _ _)
    rw [e, vp_cell_l, vp_cell_l, arrV_store]
    refine congrArg some (arrV_ext (fun x _ => ?_))
    by_cases hq : x = j.toNatClampNeg
    · subst hq
      simp [updV, vp_updL]
    · simp [updV, vp_updL, hq]) oq
  rw [WG_set (μ' := (μ.1, upJ μ.2 k j.toNatClampNeg v)) hn hi (by rw [hal]; unfold entC; rw [if_neg (by omega), if_neg (by omega), ent_J h1]; dsimp only; rw [upJ_self]) ho'] at hP'
  exact kk H1 _ ⟨by rw [z]; exact hw.1, hP', hw.2.2.1.put z oq (Nat.le_add_right _ _), hw.2.2.2.put hn hi ho'⟩
theorem m_cvret {mc ms : Nat} (hx : p.tables.exec = Jvm.exec) (hb : c.code = cc) (hr : meth.sig.returnType = none) (hlk : meth.locks = false) (hw : Wc G s n μ H locs) (hdg : decode cc pc = .ok (.return_, 1)) : W p l e R s m args below meth c H locs mc ms (MQ below (QCc G n μ) args s mc ms (AWc G)) (F0 m pc ls []) :=
  W.vret hx hb hr (fun t ht hW => ⟨⟨rfl, by rw [ht]; exact hw.1, by rw [ht]; exact hw.2.1, hw.2.2.2⟩, hw.2.2.1.F ht⟩) hw.2.2.1.2.2 hdg hlk
theorem m_cmet {l : Launch} {y : MethodName} {ws ws' : List Cond} {rm : Room} {maxL n' mc ms : Nat} {av : List Value} (hy : plainName y.cls = true) (hname : y.name = "<init>") (hws : ws = Cond.code y cc maxL none :: ws') (hlen : (lg_sl av).length ≤ maxL)
    (body : ∀ (p : Program) (e : Env) (s : State) (m : MethodId) (args : Array Value) (below : List Frame) (meth : Method) (c : Code) (ls : Array Slot), CxC G p s m args meth c cc maxL none y.cls ws n → Wc G s n μ s.heap [] → lv_has ls maxL (lv_args 0 av) → W p l e rm s m args below meth c s.heap [] 0 0 (MQ below (QCc G n' μ') args s mc ms (AWc G)) (F0 m 0 ls [])) : CTc l y ws rm av G n μ n' μ' mc ms := by
  refine Met.ofW (cc := cc) (maxL := maxL) (ret := none) hy hws ?_
  intro p e s m args below meth c s₁ B hml hv
  obtain ⟨rfl, hsz, hP, hK, hZ, hO⟩ := hv
  have hl := lv_entry av (n := maxL) hlen
  rw [lg_entry_eq]
  exact body p e s m _ below meth c _ ⟨B.exec, B.bytes, B.returns, hml, findClass_of_methodNamed B.named, atoms_spec (ws := ws) B.pre, B.notSynchronized, hK, hsz, hO, by rw [(name_of_methodNamed B.named B.method).1, hname]⟩ ⟨hsz, hP, va_S.rf, hZ⟩ hl
theorem m_cpre {As : List Value} (hK : va_K G.1 vwCl (tyG G) s) (hO : (Cond.arrayOver (.array .long)).before #[] s = true) (hw : Wc G s n μ H locs) : PreS s H (va_Pc As (WdC G n μ)) As :=
  ⟨fun a U g mk q => by
    obtain ⟨q0, q1, q2, q3, q4, q5⟩ := q
    exact ⟨q0, q1, q2, va_K.moved (u := U) (U := U.calling g mk a) (Vm.Alike.refl U.vm) q3, q4, over_moved (u := U) (E := U.calling g mk a) (Vm.Alike.refl U.vm) q5⟩,
   fun U hU hW => ⟨rfl, by rw [hU]; exact hw.1, by rw [hU]; exact hw.2.1, va_K.moved hW.alike hK, hw.2.2.2, over_moved hW.alike hO⟩⟩
theorem m_ccall {a : Array Value} {st0 : List Value} {n1 mc ms : Nat} (hr : va_Run p l e R s m args below meth c H locs cells slots mc ms (F0 m pc ls st0) rest (QCc G n1 μ1 a) (AWc G)) (hs : G.2.1 0 ≤ s.heap.size) (hw : Wc G s n μ H locs)
    (kk : ∀ (H1 : Heap) (locs1 : List Loc), Wc G s n1 μ1 H1 locs1 → W p l e R s m args below meth c H1 locs1 (cells + mc) (slots + ms) Q (F0 m (pc + 3) ls rest)) : W p l e R s m args below meth c H locs cells slots Q (F0 m pc ls st0) := by
  intro T hT X
  obtain ⟨v, st₀, t, T', L, h0, X', hL, e1, e2, ⟨⟨hv, hz1, hP1, hZ1⟩, hz, hk⟩, st⟩ := hr T hT X
  cases hv
  rw [h0] at hz hk
  have hS := hw.2.2.1
  obtain ⟨t2, a1, b1⟩ := kk T'.heap (locs ++ L) ⟨by rw [e1]; exact hz1, by rw [e1]; exact hP1, ⟨Nat.le_trans hS.1 (by rw [e1]; exact hz), fun q h1 h2 => by rw [e1, hk q (Nat.lt_of_lt_of_le h1 hS.1) h2]; exact hS.2.1 q h1 h2, fun q hq => by
      rcases List.mem_append.mp hq with h | h
      · exact hS.2.2 q h
      · exact hL q h⟩, hZ1⟩ T' rfl X'
  exact ⟨t2, st t2 a1, b1⟩
end CW
end
section
def z_0 : Mem := (fun _ _ => 0, fun _ _ => 0)
def z_1 : Mem := (upI z_0.1 1 101 1, z_0.2)
def z_2 : Mem := (upI z_1.1 1 102 1, z_1.2)
def z_3 : Mem := (upI z_2.1 1 103 1, z_2.2)
def z_4 : Mem := (z_3.1, upJ z_3.2 52 0 1)
def z_5 : Mem := (z_4.1, upJ z_4.2 52 1 1)
def z_6 : Mem := (z_5.1, upJ z_5.2 52 2 1)
def z_7 : Mem := (z_6.1, upJ z_6.2 52 3 1)
def z_8 : Mem := (z_7.1, upJ z_7.2 53 4 1)
def z_9 : Mem := (upI z_8.1 0 100 1, z_8.2)
def z_10 : Mem := (upI z_9.1 2 101 1, z_9.2)
def z_11 : Mem := (upI z_10.1 2 102 1, z_10.2)
def z_12 : Mem := (upI z_11.1 2 103 1, z_11.2)
def z_13 : Mem := (upI z_12.1 2 104 1, z_12.2)
def z_14 : Mem := (upI z_13.1 2 105 1, z_13.2)
def z_15 : Mem := (upI z_14.1 0 101 1, z_14.2)
def z_16 : Mem := (upI z_15.1 3 101 1, z_15.2)
def z_17 : Mem := (upI z_16.1 3 102 1, z_16.2)
def z_18 : Mem := (upI z_17.1 0 102 1, z_17.2)
def z_19 : Mem := (upI z_18.1 4 100 1, z_18.2)
def z_20 : Mem := (upI z_19.1 4 101 1, z_19.2)
def z_21 : Mem := (upI z_20.1 4 102 1, z_20.2)
def z_22 : Mem := (upI z_21.1 4 103 1, z_21.2)
def z_23 : Mem := (upI z_22.1 4 104 1, z_22.2)
def z_24 : Mem := (upI z_23.1 4 105 1, z_23.2)
def z_25 : Mem := (upI z_24.1 4 106 1, z_24.2)
def z_26 : Mem := (upI z_25.1 4 107 1, z_25.2)
def z_27 : Mem := (upI z_26.1 0 103 1, z_26.2)
def z_28 : Mem := (upI z_27.1 5 100 1, z_27.2)
def z_29 : Mem := (upI z_28.1 5 101 1, z_28.2)
def z_30 : Mem := (upI z_29.1 5 102 1, z_29.2)
def z_31 : Mem := (upI z_30.1 5 103 1, z_30.2)
def z_32 : Mem := (upI z_31.1 5 104 1, z_31.2)
def z_33 : Mem := (upI z_32.1 5 105 1, z_32.2)
def z_34 : Mem := (upI z_33.1 5 108 1, z_33.2)
def z_35 : Mem := (upI z_34.1 0 104 1, z_34.2)
def z_36 : Mem := (upI z_35.1 6 102 1, z_35.2)
def z_37 : Mem := (upI z_36.1 0 105 1, z_36.2)
def z_38 : Mem := (upI z_37.1 0 106 1, z_37.2)
def z_39 : Mem := (upI z_38.1 0 107 1, z_38.2)
def z_40 : Mem := (upI z_39.1 7 101 1, z_39.2)
def z_41 : Mem := (upI z_40.1 7 102 1, z_40.2)
def z_42 : Mem := (upI z_41.1 7 103 1, z_41.2)
def z_43 : Mem := (upI z_42.1 7 104 1, z_42.2)
def z_44 : Mem := (upI z_43.1 7 105 1, z_43.2)
def z_45 : Mem := (upI z_44.1 7 106 1, z_44.2)
def z_46 : Mem := (upI z_45.1 7 107 1, z_45.2)
def z_47 : Mem := (upI z_46.1 7 108 1, z_46.2)
def z_48 : Mem := (upI z_47.1 7 109 1, z_47.2)
def z_49 : Mem := (upI z_48.1 7 10 3, z_48.2)
def z_50 : Mem := (upI z_49.1 7 112 1, z_49.2)
def z_51 : Mem := (upI z_50.1 7 117 1, z_50.2)
def z_52 : Mem := (upI z_51.1 7 118 1, z_51.2)
def z_53 : Mem := (upI z_52.1 7 119 1, z_52.2)
def z_54 : Mem := (upI z_53.1 7 120 1, z_53.2)
def z_55 : Mem := (upI z_54.1 7 121 1, z_54.2)
def z_56 : Mem := (upI z_55.1 7 123 1, z_55.2)
theorem ob_0_0 (G : Gw) (μ : Mem) : (obK G μ 0).set 0 (.ref (G.2.1 0 + 1)) = obK G (upI μ.1 0 100 1, μ.2) 0 := by simp [obK, rfc, upI]
theorem ob_0_1 (G : Gw) (μ : Mem) : (obK G μ 0).set 1 (.ref (G.2.1 0 + 12)) = obK G (upI μ.1 0 101 1, μ.2) 0 := by simp [obK, rfc, upI]
theorem ob_0_2 (G : Gw) (μ : Mem) : (obK G μ 0).set 2 (.ref (G.2.1 0 + 18)) = obK G (upI μ.1 0 102 1, μ.2) 0 := by simp [obK, rfc, upI]
theorem ob_0_3 (G : Gw) (μ : Mem) : (obK G μ 0).set 3 (.ref (G.2.1 0 + 37)) = obK G (upI μ.1 0 103 1, μ.2) 0 := by simp [obK, rfc, upI]
theorem ob_0_4 (G : Gw) (μ : Mem) : (obK G μ 0).set 4 (.ref (G.2.1 0 + 48)) = obK G (upI μ.1 0 104 1, μ.2) 0 := by simp [obK, rfc, upI]
theorem ob_0_5 (G : Gw) (μ : Mem) : (obK G μ 0).set 5 (.ref (G.2.1 0 + 64)) = obK G (upI μ.1 0 105 1, μ.2) 0 := by simp [obK, rfc, upI]
theorem ob_0_6 (G : Gw) (μ : Mem) : (obK G μ 0).set 6 (.ref (G.2.1 0 + 66)) = obK G (upI μ.1 0 106 1, μ.2) 0 := by simp [obK, rfc, upI]
theorem ob_0_7 (G : Gw) (μ : Mem) : (obK G μ 0).set 7 (.ref (G.2.1 0 + 67)) = obK G (upI μ.1 0 107 1, μ.2) 0 := by simp [obK, rfc, upI]
theorem ob_1_1 (G : Gw) (μ : Mem) : (obK G μ 1).set 1 (.ref (G.2.1 0 + 2)) = obK G (upI μ.1 1 101 1, μ.2) 1 := by simp [obK, rfc, upI]
theorem ob_1_2 (G : Gw) (μ : Mem) : (obK G μ 1).set 2 (.ref (G.2.1 0 + 3)) = obK G (upI μ.1 1 102 1, μ.2) 1 := by simp [obK, rfc, upI]
theorem ob_1_3 (G : Gw) (μ : Mem) : (obK G μ 1).set 3 (.ref (G.2.1 0 + 4)) = obK G (upI μ.1 1 103 1, μ.2) 1 := by simp [obK, rfc, upI]
theorem ob_2_1 (G : Gw) (μ : Mem) : (obK G μ 2).set 1 (.ref (G.2.1 0 + 13)) = obK G (upI μ.1 2 101 1, μ.2) 2 := by simp [obK, rfc, upI]
theorem ob_2_2 (G : Gw) (μ : Mem) : (obK G μ 2).set 2 (.ref (G.2.1 0 + 14)) = obK G (upI μ.1 2 102 1, μ.2) 2 := by simp [obK, rfc, upI]
theorem ob_2_3 (G : Gw) (μ : Mem) : (obK G μ 2).set 3 (.ref (G.2.1 0 + 15)) = obK G (upI μ.1 2 103 1, μ.2) 2 := by simp [obK, rfc, upI]
theorem ob_2_4 (G : Gw) (μ : Mem) : (obK G μ 2).set 4 (.ref (G.2.1 0 + 16)) = obK G (upI μ.1 2 104 1, μ.2) 2 := by simp [obK, rfc, upI]
theorem ob_2_5 (G : Gw) (μ : Mem) : (obK G μ 2).set 5 (.ref (G.2.1 0 + 17)) = obK G (upI μ.1 2 105 1, μ.2) 2 := by simp [obK, rfc, upI]
theorem ob_3_1 (G : Gw) (μ : Mem) : (obK G μ 3).set 1 (.ref (G.2.1 0 + 19)) = obK G (upI μ.1 3 101 1, μ.2) 3 := by simp [obK, rfc, upI]
theorem ob_3_2 (G : Gw) (μ : Mem) : (obK G μ 3).set 2 (.ref (G.2.1 0 + 20)) = obK G (upI μ.1 3 102 1, μ.2) 3 := by simp [obK, rfc, upI]
theorem ob_4_0 (G : Gw) (μ : Mem) : (obK G μ 4).set 0 (.ref (G.2.1 0 + 1)) = obK G (upI μ.1 4 100 1, μ.2) 4 := by simp [obK, rfc, upI]
theorem ob_4_1 (G : Gw) (μ : Mem) : (obK G μ 4).set 1 (.ref (G.2.1 0 + 12)) = obK G (upI μ.1 4 101 1, μ.2) 4 := by simp [obK, rfc, upI]
theorem ob_4_2 (G : Gw) (μ : Mem) : (obK G μ 4).set 2 (.ref (G.2.1 0 + 18)) = obK G (upI μ.1 4 102 1, μ.2) 4 := by simp [obK, rfc, upI]
theorem ob_4_3 (G : Gw) (μ : Mem) : (obK G μ 4).set 3 (.ref (G.2.1 0 + 38)) = obK G (upI μ.1 4 103 1, μ.2) 4 := by simp [obK, rfc, upI]
theorem ob_4_4 (G : Gw) (μ : Mem) : (obK G μ 4).set 4 (.ref (G.2.1 0 + 44)) = obK G (upI μ.1 4 104 1, μ.2) 4 := by simp [obK, rfc, upI]
theorem ob_4_5 (G : Gw) (μ : Mem) : (obK G μ 4).set 5 (.ref (G.2.1 0 + 45)) = obK G (upI μ.1 4 105 1, μ.2) 4 := by simp [obK, rfc, upI]
theorem ob_4_6 (G : Gw) (μ : Mem) : (obK G μ 4).set 6 (.ref (G.2.1 0 + 46)) = obK G (upI μ.1 4 106 1, μ.2) 4 := by simp [obK, rfc, upI]
theorem ob_4_7 (G : Gw) (μ : Mem) : (obK G μ 4).set 7 (.ref (G.2.1 0 + 47)) = obK G (upI μ.1 4 107 1, μ.2) 4 := by simp [obK, rfc, upI]
theorem ob_5_0 (G : Gw) (μ : Mem) : (obK G μ 5).set 0 (.ref (G.2.1 0 + 1)) = obK G (upI μ.1 5 100 1, μ.2) 5 := by simp [obK, rfc, upI]
theorem ob_5_1 (G : Gw) (μ : Mem) : (obK G μ 5).set 1 (.ref (G.2.1 0 + 18)) = obK G (upI μ.1 5 101 1, μ.2) 5 := by simp [obK, rfc, upI]
theorem ob_5_2 (G : Gw) (μ : Mem) : (obK G μ 5).set 2 (.ref (G.2.1 0 + 49)) = obK G (upI μ.1 5 102 1, μ.2) 5 := by simp [obK, rfc, upI]
theorem ob_5_3 (G : Gw) (μ : Mem) : (obK G μ 5).set 3 (.ref (G.2.1 0 + 55)) = obK G (upI μ.1 5 103 1, μ.2) 5 := by simp [obK, rfc, upI]
theorem ob_5_4 (G : Gw) (μ : Mem) : (obK G μ 5).set 4 (.ref (G.2.1 0 + 61)) = obK G (upI μ.1 5 104 1, μ.2) 5 := by simp [obK, rfc, upI]
theorem ob_5_5 (G : Gw) (μ : Mem) : (obK G μ 5).set 5 (.ref (G.2.1 0 + 62)) = obK G (upI μ.1 5 105 1, μ.2) 5 := by simp [obK, rfc, upI]
theorem ob_5_8 (G : Gw) (μ : Mem) : (obK G μ 5).set 8 (.ref (G.2.1 0 + 63)) = obK G (upI μ.1 5 108 1, μ.2) 5 := by simp [obK, rfc, upI]
theorem ob_6_2 (G : Gw) (μ : Mem) : (obK G μ 6).set 2 (.ref (G.2.1 0 + 65)) = obK G (upI μ.1 6 102 1, μ.2) 6 := by simp [obK, rfc, upI]
theorem ob_7_1 (G : Gw) (μ : Mem) : (obK G μ 7).set 1 (.ref (G.2.1 0 + 69)) = obK G (upI μ.1 7 101 1, μ.2) 7 := by simp [obK, rfc, upI]
theorem ob_7_2 (G : Gw) (μ : Mem) : (obK G μ 7).set 2 (.ref (G.2.1 0 + 70)) = obK G (upI μ.1 7 102 1, μ.2) 7 := by simp [obK, rfc, upI]
theorem ob_7_3 (G : Gw) (μ : Mem) : (obK G μ 7).set 3 (.ref (G.2.1 0 + 71)) = obK G (upI μ.1 7 103 1, μ.2) 7 := by simp [obK, rfc, upI]
theorem ob_7_4 (G : Gw) (μ : Mem) : (obK G μ 7).set 4 (.ref (G.2.1 0 + 72)) = obK G (upI μ.1 7 104 1, μ.2) 7 := by simp [obK, rfc, upI]
theorem ob_7_5 (G : Gw) (μ : Mem) : (obK G μ 7).set 5 (.ref (G.2.1 0 + 73)) = obK G (upI μ.1 7 105 1, μ.2) 7 := by simp [obK, rfc, upI]
theorem ob_7_6 (G : Gw) (μ : Mem) : (obK G μ 7).set 6 (.ref (G.2.1 0 + 74)) = obK G (upI μ.1 7 106 1, μ.2) 7 := by simp [obK, rfc, upI]
theorem ob_7_7 (G : Gw) (μ : Mem) : (obK G μ 7).set 7 (.ref (G.2.1 0 + 75)) = obK G (upI μ.1 7 107 1, μ.2) 7 := by simp [obK, rfc, upI]
theorem ob_7_8 (G : Gw) (μ : Mem) : (obK G μ 7).set 8 (.ref (G.2.1 0 + 76)) = obK G (upI μ.1 7 108 1, μ.2) 7 := by simp [obK, rfc, upI]
theorem ob_7_9 (G : Gw) (μ : Mem) : (obK G μ 7).set 9 (.ref (G.2.1 0 + 77)) = obK G (upI μ.1 7 109 1, μ.2) 7 := by simp [obK, rfc, upI]
theorem ob_7_12 (G : Gw) (μ : Mem) : (obK G μ 7).set 12 (.ref (G.2.1 0 + 78)) = obK G (upI μ.1 7 112 1, μ.2) 7 := by simp [obK, rfc, upI]
theorem ob_7_17 (G : Gw) (μ : Mem) : (obK G μ 7).set 17 (.ref (G.2.1 0 + 79)) = obK G (upI μ.1 7 117 1, μ.2) 7 := by simp [obK, rfc, upI]
theorem ob_7_18 (G : Gw) (μ : Mem) : (obK G μ 7).set 18 (.ref (G.2.1 0 + 80)) = obK G (upI μ.1 7 118 1, μ.2) 7 := by simp [obK, rfc, upI]
theorem ob_7_19 (G : Gw) (μ : Mem) : (obK G μ 7).set 19 (.ref (G.2.1 0 + 81)) = obK G (upI μ.1 7 119 1, μ.2) 7 := by simp [obK, rfc, upI]
theorem ob_7_20 (G : Gw) (μ : Mem) : (obK G μ 7).set 20 (.ref (G.2.1 0 + 82)) = obK G (upI μ.1 7 120 1, μ.2) 7 := by simp [obK, rfc, upI]
theorem ob_7_21 (G : Gw) (μ : Mem) : (obK G μ 7).set 21 (.ref (G.2.1 0 + 83)) = obK G (upI μ.1 7 121 1, μ.2) 7 := by simp [obK, rfc, upI]
theorem ob_7_23 (G : Gw) (μ : Mem) : (obK G μ 7).set 23 (.ref (G.2.1 0 + 84)) = obK G (upI μ.1 7 123 1, μ.2) 7 := by simp [obK, rfc, upI]
theorem df_RP {G : Gw} {μ : Mem} (hz : ∀ b, μ.1 0 b = 0 ∧ μ.2 0 b = 0) : ∀ j, j < 8 → defaultValue (ty_RP j) = vp_V (obK G μ 0) j := by
  intro j hj
  have h1 := fun b => (hz b).1
  have h2 := fun b => (hz b).2
  rcases (show j = 0 ∨ j = 1 ∨ j = 2 ∨ j = 3 ∨ j = 4 ∨ j = 5 ∨ j = 6 ∨ j = 7 by omega) with rfl | rfl | rfl | rfl | rfl | rfl | rfl | rfl <;> simp [obK, rfc, vp_V, ty_RP, defaultValue, h1, h2]
theorem df_Lo {G : Gw} {μ : Mem} (hz : ∀ b, μ.1 1 b = 0 ∧ μ.2 1 b = 0) : ∀ j, j < 4 → defaultValue (ty_Lo j) = vp_V (obK G μ 1) j := by
  intro j hj
  have h1 := fun b => (hz b).1
  have h2 := fun b => (hz b).2
  rcases (show j = 0 ∨ j = 1 ∨ j = 2 ∨ j = 3 by omega) with rfl | rfl | rfl | rfl <;> simp [obK, rfc, vp_V, ty_Lo, defaultValue, h1, h2]
theorem df_Ru {G : Gw} {μ : Mem} (hz : ∀ b, μ.1 2 b = 0 ∧ μ.2 2 b = 0) : ∀ j, j < 6 → defaultValue (ty_Ru j) = vp_V (obK G μ 2) j := by
  intro j hj
  have h1 := fun b => (hz b).1
  have h2 := fun b => (hz b).2
  rcases (show j = 0 ∨ j = 1 ∨ j = 2 ∨ j = 3 ∨ j = 4 ∨ j = 5 by omega) with rfl | rfl | rfl | rfl | rfl | rfl <;> simp [obK, rfc, vp_V, ty_Ru, defaultValue, h1, h2]
theorem df_Si {G : Gw} {μ : Mem} (hz : ∀ b, μ.1 3 b = 0 ∧ μ.2 3 b = 0) : ∀ j, j < 3 → defaultValue (ty_Si j) = vp_V (obK G μ 3) j := by
  intro j hj
  have h1 := fun b => (hz b).1
  have h2 := fun b => (hz b).2
  rcases (show j = 0 ∨ j = 1 ∨ j = 2 by omega) with rfl | rfl | rfl <;> simp [obK, rfc, vp_V, ty_Si, defaultValue, h1, h2]
theorem df_CS {G : Gw} {μ : Mem} (hz : ∀ b, μ.1 4 b = 0 ∧ μ.2 4 b = 0) : ∀ j, j < 13 → defaultValue (ty_CS j) = vp_V (obK G μ 4) j := by
  intro j hj
  have h1 := fun b => (hz b).1
  have h2 := fun b => (hz b).2
  rcases (show j = 0 ∨ j = 1 ∨ j = 2 ∨ j = 3 ∨ j = 4 ∨ j = 5 ∨ j = 6 ∨ j = 7 ∨ j = 8 ∨ j = 9 ∨ j = 10 ∨ j = 11 ∨ j = 12 by omega) with rfl | rfl | rfl | rfl | rfl | rfl | rfl | rfl | rfl | rfl | rfl | rfl | rfl <;> simp [obK, rfc, vp_V, ty_CS, defaultValue, h1, h2]
theorem df_WS {G : Gw} {μ : Mem} (hz : ∀ b, μ.1 5 b = 0 ∧ μ.2 5 b = 0) : ∀ j, j < 9 → defaultValue (ty_WS j) = vp_V (obK G μ 5) j := by
  intro j hj
  have h1 := fun b => (hz b).1
  have h2 := fun b => (hz b).2
  rcases (show j = 0 ∨ j = 1 ∨ j = 2 ∨ j = 3 ∨ j = 4 ∨ j = 5 ∨ j = 6 ∨ j = 7 ∨ j = 8 by omega) with rfl | rfl | rfl | rfl | rfl | rfl | rfl | rfl | rfl <;> simp [obK, rfc, vp_V, ty_WS, defaultValue, h1, h2]
theorem df_Fo {G : Gw} {μ : Mem} (hz : ∀ b, μ.1 6 b = 0 ∧ μ.2 6 b = 0) : ∀ j, j < 8 → defaultValue (ty_Fo j) = vp_V (obK G μ 6) j := by
  intro j hj
  have h1 := fun b => (hz b).1
  have h2 := fun b => (hz b).2
  rcases (show j = 0 ∨ j = 1 ∨ j = 2 ∨ j = 3 ∨ j = 4 ∨ j = 5 ∨ j = 6 ∨ j = 7 by omega) with rfl | rfl | rfl | rfl | rfl | rfl | rfl | rfl <;> simp [obK, rfc, vp_V, ty_Fo, defaultValue, h1, h2]
theorem df_Mo {G : Gw} {μ : Mem} (hz : ∀ b, μ.1 7 b = 0 ∧ μ.2 7 b = 0) : ∀ j, j < 24 → defaultValue (ty_Mo j) = vp_V (obK G μ 7) j := by
  intro j hj
  have h1 := fun b => (hz b).1
  have h2 := fun b => (hz b).2
  rcases (show j = 0 ∨ j = 1 ∨ j = 2 ∨ j = 3 ∨ j = 4 ∨ j = 5 ∨ j = 6 ∨ j = 7 ∨ j = 8 ∨ j = 9 ∨ j = 10 ∨ j = 11 ∨ j = 12 ∨ j = 13 ∨ j = 14 ∨ j = 15 ∨ j = 16 ∨ j = 17 ∨ j = 18 ∨ j = 19 ∨ j = 20 ∨ j = 21 ∨ j = 22 ∨ j = 23 by omega) with rfl | rfl | rfl | rfl | rfl | rfl | rfl | rfl | rfl | rfl | rfl | rfl | rfl | rfl | rfl | rfl | rfl | rfl | rfl | rfl | rfl | rfl | rfl | rfl <;> simp [obK, rfc, vp_V, ty_Mo, defaultValue, h1, h2]
set_option maxRecDepth 100000 in
set_option maxHeartbeats 4000000 in
theorem k_Lo_init (l : Launch) (G : Gw) : CTc l y_Lo_init ws_Lo_init { frames := 1, cells := 10, slots := 50, locals := 30 } [.ref (G.2.1 0 + 1)] G 2 z_0 12 z_8 10 50 := by
  refine m_cmet (cc := prog_4_method_1_code) (maxL := 2) (by decide) rfl rfl (Nat.le_of_ble_eq_true rfl) ?_
  intro p e s m args below meth c ls C hw hl
  obtain ⟨hx, hb, hr, hml, hown, hts, hlk, hK, hsz, hO, hin⟩ := id C
  have hs : G.2.1 0 ≤ s.heap.size := by rw [hsz]; exact Nat.le_add_right _ _
  have hl : lv_has ls 2 [(0, .ref (G.2.1 0 + 1))] := hl
  refine lv_aload_n hx hb d_Lo_init_0 rfl (lv_at hl 0 rfl) ?_
  refine W.objInit hx hb hown (hts _ (List.mem_cons_of_mem _ tw_57)) (hts _ (List.mem_cons_of_mem _ tw_50)) (hts _ (List.mem_cons_of_mem _ tw_51)) rfl (by rw [hml]; exact hl.1) rfl d_Lo_init_1 (Nat.le_of_ble_eq_true rfl) (Nat.le_of_ble_eq_true rfl) ?_
  refine W.eq (g2 := F0 m 4 ls []) rfl ?_
  refine lv_aload_n hx hb d_Lo_init_4 rfl (lv_at hl 0 rfl) ?_
  refine lv_iconst (v := 4) hx hb d_Lo_init_5 (by decide) ?_
  refine m_cnewi (n := 2) (k := 17) (N := 4) hx hb (hts _ (List.mem_cons_of_mem _ tw_75)) hK hw hs (by decide) rfl (by decide) (by decide) rfl (by decide) rfl (by decide) (Nat.le_of_ble_eq_true rfl) (Nat.le_of_ble_eq_true rfl) d_Lo_init_6 (fun H hw => ?_)
  refine m_cputF (n := 3) (μ1 := z_1) (i := 1) (ci := 1) (v := .ref (G.2.1 0 + 2)) (ty := .array .int) (C := "RecipePlans$Lots") (T := T_Lo) (N := 4) hx hb hts (fun _ h9 => List.mem_cons_of_mem _ (inT_Lo _ h9)) ty_Lo tyok_Lo nm_Lo hown hK hw (by decide) (by decide) rfl (by decide) rfl 1 (by decide) (hts _ (List.mem_cons_of_mem _ tw_60)) (fun _ h9 => h9) rfl hin rfl (by decide +kernel) rfl rfl (Nat.le_of_ble_eq_true rfl) (ob_1_1 G _) (fun a ha => ⟨upI_ne ha, fun _ => rfl⟩) d_Lo_init_8 (fun H locs hw => ?_)
  refine lv_aload_n hx hb d_Lo_init_11 rfl (lv_at hl 0 rfl) ?_
  refine lv_iconst (v := 4) hx hb d_Lo_init_12 (by decide) ?_
  refine m_cnewj (n := 3) (k := 42) (N := 4) hx hb (hts _ (List.mem_cons_of_mem _ tw_76)) hK hw hs (by decide) rfl (by decide) rfl (by decide) rfl (by decide) (Nat.le_of_ble_eq_true rfl) (Nat.le_of_ble_eq_true rfl) d_Lo_init_13 (fun H hw => ?_)
  refine m_cputF (n := 4) (μ1 := z_2) (i := 1) (ci := 1) (v := .ref (G.2.1 0 + 3)) (ty := .array .long) (C := "RecipePlans$Lots") (T := T_Lo) (N := 4) hx hb hts (fun _ h9 => List.mem_cons_of_mem _ (inT_Lo _ h9)) ty_Lo tyok_Lo nm_Lo hown hK hw (by decide) (by decide) rfl (by decide) rfl 2 (by decide) (hts _ (List.mem_cons_of_mem _ tw_64)) (fun _ h9 => h9) rfl hin rfl (by decide +kernel) rfl rfl (Nat.le_of_ble_eq_true rfl) (ob_1_2 G _) (fun a ha => ⟨upI_ne ha, fun _ => rfl⟩) d_Lo_init_15 (fun H locs hw => ?_)
  refine lv_aload_n hx hb d_Lo_init_18 rfl (lv_at hl 0 rfl) ?_
  refine lv_bipush (v := 7) hx hb d_Lo_init_19 (by decide) ?_
  refine lv_iconst (v := 5) hx hb d_Lo_init_21 (by decide) ?_
  refine m_cmulti (n := 4) (k := 8) (N := 7) (K := 5) hx hb hown (hts _ (List.mem_cons_of_mem _ tw_58)) hO (hts _ (List.mem_cons_of_mem _ tw_76)) hK hw hs (by decide) rfl (by decide) (by decide) rfl rfl (by decide) (by decide) (by decide) rfl rfl (by decide) (by decide) (Nat.le_of_ble_eq_true rfl) (Nat.le_of_ble_eq_true rfl) d_Lo_init_22 (fun H hw => ?_)
  have hw : Wc G s 12 z_2 H _ := hw
  refine m_cputF (n := 12) (μ1 := z_3) (i := 1) (ci := 1) (v := .ref (G.2.1 0 + 4)) (ty := .array (.array .long)) (C := "RecipePlans$Lots") (T := T_Lo) (N := 4) hx hb hts (fun _ h9 => List.mem_cons_of_mem _ (inT_Lo _ h9)) ty_Lo tyok_Lo nm_Lo hown hK hw (by decide) (by decide) rfl (by decide) rfl 3 (by decide) (hts _ (List.mem_cons_of_mem _ tw_67)) (fun _ h9 => h9) rfl hin rfl (by decide +kernel) rfl rfl (Nat.le_of_ble_eq_true rfl) (ob_1_3 G _) (fun a ha => ⟨upI_ne ha, fun _ => rfl⟩) d_Lo_init_26 (fun H locs hw => ?_)
  refine lv_iconst (v := 0) hx hb d_Lo_init_29 (by decide) ?_
  refine lv_istore_n (lv' := [(1, .int 0), (0, .ref (G.2.1 0 + 1))]) hx hb d_Lo_init_30 rfl hl (by decide) rfl (fun ls hl => ?_)
  refine lv_iload_n hx hb d_Lo_init_31 rfl (lv_at hl 0 rfl) ?_
  refine lv_iconst (v := 4) hx hb d_Lo_init_32 (by decide) ?_
  refine lv_icmp_ge (tgt := 51) hx hb d_Lo_init_33 (by decide) (fun c9 => ?_) (fun c9 => ?_)
  · exact absurd c9 (by decide)
  refine lv_aload_n hx hb d_Lo_init_36 rfl (lv_at hl 1 rfl) ?_
  refine va_get (D := G.1) (ci := 1) (v := .ref (G.2.1 0 + 4)) (C := "RecipePlans$Lots") (T := T_Lo) (N := 4) hx hb hts (fun _ h9 => List.mem_cons_of_mem _ (inT_Lo _ h9)) hown hK hw.2.1 1 (WG_obj (ci := 1) (by decide) rfl (by decide)) rfl 3 (by decide) (hts _ (List.mem_cons_of_mem _ tw_67)) (fun _ h9 => h9) (by rfl) d_Lo_init_37 ?_
  refine lv_iconst (v := 5) hx hb d_Lo_init_40 (by decide) ?_
  refine m_caald (n := 12) (i := 4) (k := 8) (a := 10) hx hb hK hw (by decide) rfl (by decide) (by decide) (by decide) rfl d_Lo_init_41 ?_
  refine lv_iload_n hx hb d_Lo_init_42 rfl (lv_at hl 0 rfl) ?_
  refine lv_lconst (v := 1) hx hb d_Lo_init_43 (by decide) ?_
  refine m_clast (n := 12) (i := 10) (k := 52) hx hb hK hw (by decide) (by decide) rfl (by decide) (by decide) d_Lo_init_44 (fun H locs hw => ?_)
  have hw : Wc G s 12 z_4 H locs := hw
  refine lv_iinc (v := 1) (lv' := [(1, .int 1), (0, .ref (G.2.1 0 + 1))]) hx hb d_Lo_init_45 hl (k := 0) rfl rfl (by decide) rfl (fun ls hl => ?_)
  refine lv_goto (tgt := 31) hx hb d_Lo_init_48 (by decide) ?_
  refine lv_iload_n hx hb d_Lo_init_31 rfl (lv_at hl 0 rfl) ?_
  refine lv_iconst (v := 4) hx hb d_Lo_init_32 (by decide) ?_
  refine lv_icmp_ge (tgt := 51) hx hb d_Lo_init_33 (by decide) (fun c9 => ?_) (fun c9 => ?_)
  · exact absurd c9 (by decide)
  refine lv_aload_n hx hb d_Lo_init_36 rfl (lv_at hl 1 rfl) ?_
  refine va_get (D := G.1) (ci := 1) (v := .ref (G.2.1 0 + 4)) (C := "RecipePlans$Lots") (T := T_Lo) (N := 4) hx hb hts (fun _ h9 => List.mem_cons_of_mem _ (inT_Lo _ h9)) hown hK hw.2.1 1 (WG_obj (ci := 1) (by decide) rfl (by decide)) rfl 3 (by decide) (hts _ (List.mem_cons_of_mem _ tw_67)) (fun _ h9 => h9) (by rfl) d_Lo_init_37 ?_
  refine lv_iconst (v := 5) hx hb d_Lo_init_40 (by decide) ?_
  refine m_caald (n := 12) (i := 4) (k := 8) (a := 10) hx hb hK hw (by decide) rfl (by decide) (by decide) (by decide) rfl d_Lo_init_41 ?_
  refine lv_iload_n hx hb d_Lo_init_42 rfl (lv_at hl 0 rfl) ?_
  refine lv_lconst (v := 1) hx hb d_Lo_init_43 (by decide) ?_
  refine m_clast (n := 12) (i := 10) (k := 52) hx hb hK hw (by decide) (by decide) rfl (by decide) (by decide) d_Lo_init_44 (fun H locs hw => ?_)
  have hw : Wc G s 12 z_5 H locs := hw
  refine lv_iinc (v := 2) (lv' := [(1, .int 2), (0, .ref (G.2.1 0 + 1))]) hx hb d_Lo_init_45 hl (k := 0) rfl rfl (by decide) rfl (fun ls hl => ?_)
  refine lv_goto (tgt := 31) hx hb d_Lo_init_48 (by decide) ?_
  refine lv_iload_n hx hb d_Lo_init_31 rfl (lv_at hl 0 rfl) ?_
  refine lv_iconst (v := 4) hx hb d_Lo_init_32 (by decide) ?_
  refine lv_icmp_ge (tgt := 51) hx hb d_Lo_init_33 (by decide) (fun c9 => ?_) (fun c9 => ?_)
  · exact absurd c9 (by decide)
  refine lv_aload_n hx hb d_Lo_init_36 rfl (lv_at hl 1 rfl) ?_
  refine va_get (D := G.1) (ci := 1) (v := .ref (G.2.1 0 + 4)) (C := "RecipePlans$Lots") (T := T_Lo) (N := 4) hx hb hts (fun _ h9 => List.mem_cons_of_mem _ (inT_Lo _ h9)) hown hK hw.2.1 1 (WG_obj (ci := 1) (by decide) rfl (by decide)) rfl 3 (by decide) (hts _ (List.mem_cons_of_mem _ tw_67)) (fun _ h9 => h9) (by rfl) d_Lo_init_37 ?_
  refine lv_iconst (v := 5) hx hb d_Lo_init_40 (by decide) ?_
  refine m_caald (n := 12) (i := 4) (k := 8) (a := 10) hx hb hK hw (by decide) rfl (by decide) (by decide) (by decide) rfl d_Lo_init_41 ?_
  refine lv_iload_n hx hb d_Lo_init_42 rfl (lv_at hl 0 rfl) ?_
  refine lv_lconst (v := 1) hx hb d_Lo_init_43 (by decide) ?_
  refine m_clast (n := 12) (i := 10) (k := 52) hx hb hK hw (by decide) (by decide) rfl (by decide) (by decide) d_Lo_init_44 (fun H locs hw => ?_)
  have hw : Wc G s 12 z_6 H locs := hw
  refine lv_iinc (v := 3) (lv' := [(1, .int 3), (0, .ref (G.2.1 0 + 1))]) hx hb d_Lo_init_45 hl (k := 0) rfl rfl (by decide) rfl (fun ls hl => ?_)
  refine lv_goto (tgt := 31) hx hb d_Lo_init_48 (by decide) ?_
  refine lv_iload_n hx hb d_Lo_init_31 rfl (lv_at hl 0 rfl) ?_
  refine lv_iconst (v := 4) hx hb d_Lo_init_32 (by decide) ?_
  refine lv_icmp_ge (tgt := 51) hx hb d_Lo_init_33 (by decide) (fun c9 => ?_) (fun c9 => ?_)
  · exact absurd c9 (by decide)
  refine lv_aload_n hx hb d_Lo_init_36 rfl (lv_at hl 1 rfl) ?_
  refine va_get (D := G.1) (ci := 1) (v := .ref (G.2.1 0 + 4)) (C := "RecipePlans$Lots") (T := T_Lo) (N := 4) hx hb hts (fun _ h9 => List.mem_cons_of_mem _ (inT_Lo _ h9)) hown hK hw.2.1 1 (WG_obj (ci := 1) (by decide) rfl (by decide)) rfl 3 (by decide) (hts _ (List.mem_cons_of_mem _ tw_67)) (fun _ h9 => h9) (by rfl) d_Lo_init_37 ?_
  refine lv_iconst (v := 5) hx hb d_Lo_init_40 (by decide) ?_
  refine m_caald (n := 12) (i := 4) (k := 8) (a := 10) hx hb hK hw (by decide) rfl (by decide) (by decide) (by decide) rfl d_Lo_init_41 ?_
  refine lv_iload_n hx hb d_Lo_init_42 rfl (lv_at hl 0 rfl) ?_
  refine lv_lconst (v := 1) hx hb d_Lo_init_43 (by decide) ?_
  refine m_clast (n := 12) (i := 10) (k := 52) hx hb hK hw (by decide) (by decide) rfl (by decide) (by decide) d_Lo_init_44 (fun H locs hw => ?_)
  have hw : Wc G s 12 z_7 H locs := hw
  refine lv_iinc (v := 4) (lv' := [(1, .int 4), (0, .ref (G.2.1 0 + 1))]) hx hb d_Lo_init_45 hl (k := 0) rfl rfl (by decide) rfl (fun ls hl => ?_)
  refine lv_goto (tgt := 31) hx hb d_Lo_init_48 (by decide) ?_
  refine lv_iload_n hx hb d_Lo_init_31 rfl (lv_at hl 0 rfl) ?_
  refine lv_iconst (v := 4) hx hb d_Lo_init_32 (by decide) ?_
  refine lv_icmp_ge (tgt := 51) hx hb d_Lo_init_33 (by decide) (fun c9 => ?_) (fun c9 => ?_)
  · skip
    refine lv_aload_n hx hb d_Lo_init_51 rfl (lv_at hl 1 rfl) ?_
    refine va_get (D := G.1) (ci := 1) (v := .ref (G.2.1 0 + 4)) (C := "RecipePlans$Lots") (T := T_Lo) (N := 4) hx hb hts (fun _ h9 => List.mem_cons_of_mem _ (inT_Lo _ h9)) hown hK hw.2.1 1 (WG_obj (ci := 1) (by decide) rfl (by decide)) rfl 3 (by decide) (hts _ (List.mem_cons_of_mem _ tw_67)) (fun _ h9 => h9) (by rfl) d_Lo_init_52 ?_
    refine lv_bipush (v := 6) hx hb d_Lo_init_55 (by decide) ?_
    refine m_caald (n := 12) (i := 4) (k := 8) (a := 11) hx hb hK hw (by decide) rfl (by decide) (by decide) (by decide) rfl d_Lo_init_57 ?_
    refine lv_iconst (v := 4) hx hb d_Lo_init_58 (by decide) ?_
    refine lv_lconst (v := 1) hx hb d_Lo_init_59 (by decide) ?_
    refine m_clast (n := 12) (i := 11) (k := 53) hx hb hK hw (by decide) (by decide) rfl (by decide) (by decide) d_Lo_init_60 (fun H locs hw => ?_)
    have hw : Wc G s 12 z_8 H locs := hw
    refine W.cs (cells' := 10) (slots' := 50) rfl rfl ?_
    exact m_cvret hx hb hr hlk hw d_Lo_init_61
  · exact absurd (by decide) c9
set_option maxRecDepth 100000 in
set_option maxHeartbeats 4000000 in
theorem k_Ru_init (l : Launch) (G : Gw) : CTc l y_Ru_init ws_Ru_init { frames := 1, cells := 5, slots := 40, locals := 30 } [.ref (G.2.1 0 + 12)] G 13 z_9 18 z_14 5 40 := by
  refine m_cmet (cc := prog_5_method_1_code) (maxL := 1) (by decide) rfl rfl (Nat.le_of_ble_eq_true rfl) ?_
  intro p e s m args below meth c ls C hw hl
  obtain ⟨hx, hb, hr, hml, hown, hts, hlk, hK, hsz, hO, hin⟩ := id C
  have hs : G.2.1 0 ≤ s.heap.size := by rw [hsz]; exact Nat.le_add_right _ _
  have hl : lv_has ls 1 [(0, .ref (G.2.1 0 + 12))] := hl
  refine lv_aload_n hx hb d_Ru_init_0 rfl (lv_at hl 0 rfl) ?_
  refine W.objInit hx hb hown (hts _ (List.mem_cons_of_mem _ tw_82)) (hts _ (List.mem_cons_of_mem _ tw_50)) (hts _ (List.mem_cons_of_mem _ tw_51)) rfl (by rw [hml]; exact hl.1) rfl d_Ru_init_1 (Nat.le_of_ble_eq_true rfl) (Nat.le_of_ble_eq_true rfl) ?_
  refine W.eq (g2 := F0 m 4 ls []) rfl ?_
  refine lv_aload_n hx hb d_Ru_init_4 rfl (lv_at hl 0 rfl) ?_
  refine lv_bipush (v := 8) hx hb d_Ru_init_5 (by decide) ?_
  refine m_cnewi (n := 13) (k := 18) (N := 8) hx hb (hts _ (List.mem_cons_of_mem _ tw_75)) hK hw hs (by decide) rfl (by decide) (by decide) rfl (by decide) rfl (by decide) (Nat.le_of_ble_eq_true rfl) (Nat.le_of_ble_eq_true rfl) d_Ru_init_7 (fun H hw => ?_)
  refine m_cputF (n := 14) (μ1 := z_10) (i := 12) (ci := 2) (v := .ref (G.2.1 0 + 13)) (ty := .array .int) (C := "RecipePlans$Rules") (T := T_Ru) (N := 6) hx hb hts (fun _ h9 => List.mem_cons_of_mem _ (inT_Ru _ h9)) ty_Ru tyok_Ru nm_Ru hown hK hw (by decide) (by decide) rfl (by decide) rfl 1 (by decide) (hts _ (List.mem_cons_of_mem _ tw_86)) (fun _ h9 => h9) rfl hin rfl (by decide +kernel) rfl rfl (Nat.le_of_ble_eq_true rfl) (ob_2_1 G _) (fun a ha => ⟨upI_ne ha, fun _ => rfl⟩) d_Ru_init_9 (fun H locs hw => ?_)
  refine lv_aload_n hx hb d_Ru_init_12 rfl (lv_at hl 0 rfl) ?_
  refine lv_bipush (v := 8) hx hb d_Ru_init_13 (by decide) ?_
  refine m_cnewi (n := 14) (k := 19) (N := 8) hx hb (hts _ (List.mem_cons_of_mem _ tw_75)) hK hw hs (by decide) rfl (by decide) (by decide) rfl (by decide) rfl (by decide) (Nat.le_of_ble_eq_true rfl) (Nat.le_of_ble_eq_true rfl) d_Ru_init_15 (fun H hw => ?_)
  refine m_cputF (n := 15) (μ1 := z_11) (i := 12) (ci := 2) (v := .ref (G.2.1 0 + 14)) (ty := .array .int) (C := "RecipePlans$Rules") (T := T_Ru) (N := 6) hx hb hts (fun _ h9 => List.mem_cons_of_mem _ (inT_Ru _ h9)) ty_Ru tyok_Ru nm_Ru hown hK hw (by decide) (by decide) rfl (by decide) rfl 2 (by decide) (hts _ (List.mem_cons_of_mem _ tw_89)) (fun _ h9 => h9) rfl hin rfl (by decide +kernel) rfl rfl (Nat.le_of_ble_eq_true rfl) (ob_2_2 G _) (fun a ha => ⟨upI_ne ha, fun _ => rfl⟩) d_Ru_init_17 (fun H locs hw => ?_)
  refine lv_aload_n hx hb d_Ru_init_20 rfl (lv_at hl 0 rfl) ?_
  refine lv_bipush (v := 8) hx hb d_Ru_init_21 (by decide) ?_
  refine m_cnewi (n := 15) (k := 20) (N := 8) hx hb (hts _ (List.mem_cons_of_mem _ tw_75)) hK hw hs (by decide) rfl (by decide) (by decide) rfl (by decide) rfl (by decide) (Nat.le_of_ble_eq_true rfl) (Nat.le_of_ble_eq_true rfl) d_Ru_init_23 (fun H hw => ?_)
  refine m_cputF (n := 16) (μ1 := z_12) (i := 12) (ci := 2) (v := .ref (G.2.1 0 + 15)) (ty := .array .int) (C := "RecipePlans$Rules") (T := T_Ru) (N := 6) hx hb hts (fun _ h9 => List.mem_cons_of_mem _ (inT_Ru _ h9)) ty_Ru tyok_Ru nm_Ru hown hK hw (by decide) (by decide) rfl (by decide) rfl 3 (by decide) (hts _ (List.mem_cons_of_mem _ tw_92)) (fun _ h9 => h9) rfl hin rfl (by decide +kernel) rfl rfl (Nat.le_of_ble_eq_true rfl) (ob_2_3 G _) (fun a ha => ⟨upI_ne ha, fun _ => rfl⟩) d_Ru_init_25 (fun H locs hw => ?_)
  refine lv_aload_n hx hb d_Ru_init_28 rfl (lv_at hl 0 rfl) ?_
  refine lv_bipush (v := 8) hx hb d_Ru_init_29 (by decide) ?_
  refine m_cnewi (n := 16) (k := 21) (N := 8) hx hb (hts _ (List.mem_cons_of_mem _ tw_75)) hK hw hs (by decide) rfl (by decide) (by decide) rfl (by decide) rfl (by decide) (Nat.le_of_ble_eq_true rfl) (Nat.le_of_ble_eq_true rfl) d_Ru_init_31 (fun H hw => ?_)
  refine m_cputF (n := 17) (μ1 := z_13) (i := 12) (ci := 2) (v := .ref (G.2.1 0 + 16)) (ty := .array .int) (C := "RecipePlans$Rules") (T := T_Ru) (N := 6) hx hb hts (fun _ h9 => List.mem_cons_of_mem _ (inT_Ru _ h9)) ty_Ru tyok_Ru nm_Ru hown hK hw (by decide) (by decide) rfl (by decide) rfl 4 (by decide) (hts _ (List.mem_cons_of_mem _ tw_95)) (fun _ h9 => h9) rfl hin rfl (by decide +kernel) rfl rfl (Nat.le_of_ble_eq_true rfl) (ob_2_4 G _) (fun a ha => ⟨upI_ne ha, fun _ => rfl⟩) d_Ru_init_33 (fun H locs hw => ?_)
  refine lv_aload_n hx hb d_Ru_init_36 rfl (lv_at hl 0 rfl) ?_
  refine lv_bipush (v := 8) hx hb d_Ru_init_37 (by decide) ?_
  refine m_cnewi (n := 17) (k := 22) (N := 8) hx hb (hts _ (List.mem_cons_of_mem _ tw_75)) hK hw hs (by decide) rfl (by decide) (by decide) rfl (by decide) rfl (by decide) (Nat.le_of_ble_eq_true rfl) (Nat.le_of_ble_eq_true rfl) d_Ru_init_39 (fun H hw => ?_)
  refine m_cputF (n := 18) (μ1 := z_14) (i := 12) (ci := 2) (v := .ref (G.2.1 0 + 17)) (ty := .array .int) (C := "RecipePlans$Rules") (T := T_Ru) (N := 6) hx hb hts (fun _ h9 => List.mem_cons_of_mem _ (inT_Ru _ h9)) ty_Ru tyok_Ru nm_Ru hown hK hw (by decide) (by decide) rfl (by decide) rfl 5 (by decide) (hts _ (List.mem_cons_of_mem _ tw_98)) (fun _ h9 => h9) rfl hin rfl (by decide +kernel) rfl rfl (Nat.le_of_ble_eq_true rfl) (ob_2_5 G _) (fun a ha => ⟨upI_ne ha, fun _ => rfl⟩) d_Ru_init_41 (fun H locs hw => ?_)
  refine W.cs (cells' := 5) (slots' := 40) rfl rfl ?_
  exact m_cvret hx hb hr hlk hw d_Ru_init_44
set_option maxRecDepth 100000 in
set_option maxHeartbeats 4000000 in
theorem k_Si_init (l : Launch) (G : Gw) : CTc l y_Si_init ws_Si_init { frames := 1, cells := 18, slots := 104, locals := 30 } [.ref (G.2.1 0 + 18)] G 19 z_15 37 z_17 18 104 := by
  refine m_cmet (cc := prog_6_method_1_code) (maxL := 1) (by decide) rfl rfl (Nat.le_of_ble_eq_true rfl) ?_
  intro p e s m args below meth c ls C hw hl
  obtain ⟨hx, hb, hr, hml, hown, hts, hlk, hK, hsz, hO, hin⟩ := id C
  have hs : G.2.1 0 ≤ s.heap.size := by rw [hsz]; exact Nat.le_add_right _ _
  have hl : lv_has ls 1 [(0, .ref (G.2.1 0 + 18))] := hl
  refine lv_aload_n hx hb d_Si_init_0 rfl (lv_at hl 0 rfl) ?_
  refine W.objInit hx hb hown (hts _ (List.mem_cons_of_mem _ tw_111)) (hts _ (List.mem_cons_of_mem _ tw_50)) (hts _ (List.mem_cons_of_mem _ tw_51)) rfl (by rw [hml]; exact hl.1) rfl d_Si_init_1 (Nat.le_of_ble_eq_true rfl) (Nat.le_of_ble_eq_true rfl) ?_
  refine W.eq (g2 := F0 m 4 ls []) rfl ?_
  refine lv_aload_n hx hb d_Si_init_4 rfl (lv_at hl 0 rfl) ?_
  refine lv_bipush (v := 8) hx hb d_Si_init_5 (by decide) ?_
  refine m_cnewi (n := 19) (k := 23) (N := 8) hx hb (hts _ (List.mem_cons_of_mem _ tw_75)) hK hw hs (by decide) rfl (by decide) (by decide) rfl (by decide) rfl (by decide) (Nat.le_of_ble_eq_true rfl) (Nat.le_of_ble_eq_true rfl) d_Si_init_7 (fun H hw => ?_)
  refine m_cputF (n := 20) (μ1 := z_16) (i := 18) (ci := 3) (v := .ref (G.2.1 0 + 19)) (ty := .array .int) (C := "RecipePlans$Sides") (T := T_Si) (N := 3) hx hb hts (fun _ h9 => List.mem_cons_of_mem _ (inT_Si _ h9)) ty_Si tyok_Si nm_Si hown hK hw (by decide) (by decide) rfl (by decide) rfl 1 (by decide) (hts _ (List.mem_cons_of_mem _ tw_116)) (fun _ h9 => h9) rfl hin rfl (by decide +kernel) rfl rfl (Nat.le_of_ble_eq_true rfl) (ob_3_1 G _) (fun a ha => ⟨upI_ne ha, fun _ => rfl⟩) d_Si_init_9 (fun H locs hw => ?_)
  refine lv_aload_n hx hb d_Si_init_12 rfl (lv_at hl 0 rfl) ?_
  refine lv_bipush (v := 16) hx hb d_Si_init_13 (by decide) ?_
  refine lv_iconst (v := 5) hx hb d_Si_init_15 (by decide) ?_
  refine m_cmulti (n := 20) (k := 9) (N := 16) (K := 5) hx hb hown (hts _ (List.mem_cons_of_mem _ tw_112)) hO (hts _ (List.mem_cons_of_mem _ tw_76)) hK hw hs (by decide) rfl (by decide) (by decide) rfl rfl (by decide) (by decide) (by decide) rfl rfl (by decide) (by decide) (Nat.le_of_ble_eq_true rfl) (Nat.le_of_ble_eq_true rfl) d_Si_init_16 (fun H hw => ?_)
  have hw : Wc G s 37 z_16 H _ := hw
  refine m_cputF (n := 37) (μ1 := z_17) (i := 18) (ci := 3) (v := .ref (G.2.1 0 + 20)) (ty := .array (.array .long)) (C := "RecipePlans$Sides") (T := T_Si) (N := 3) hx hb hts (fun _ h9 => List.mem_cons_of_mem _ (inT_Si _ h9)) ty_Si tyok_Si nm_Si hown hK hw (by decide) (by decide) rfl (by decide) rfl 2 (by decide) (hts _ (List.mem_cons_of_mem _ tw_118)) (fun _ h9 => h9) rfl hin rfl (by decide +kernel) rfl rfl (Nat.le_of_ble_eq_true rfl) (ob_3_2 G _) (fun a ha => ⟨upI_ne ha, fun _ => rfl⟩) d_Si_init_20 (fun H locs hw => ?_)
  refine W.cs (cells' := 18) (slots' := 104) rfl rfl ?_
  exact m_cvret hx hb hr hlk hw d_Si_init_23
set_option maxRecDepth 100000 in
set_option maxHeartbeats 4000000 in
theorem k_CS_init (l : Launch) (G : Gw) : CTc l y_CS_init ws_CS_init { frames := 1, cells := 10, slots := 689, locals := 30 } [.ref (G.2.1 0 + 37), .ref (G.2.1 0 + 1), .ref (G.2.1 0 + 12), .ref (G.2.1 0 + 18)] G 38 z_18 48 z_26 10 689 := by
  refine m_cmet (cc := prog_2_method_1_code) (maxL := 4) (by decide) rfl rfl (Nat.le_of_ble_eq_true rfl) ?_
  intro p e s m args below meth c ls C hw hl
  obtain ⟨hx, hb, hr, hml, hown, hts, hlk, hK, hsz, hO, hin⟩ := id C
  have hs : G.2.1 0 ≤ s.heap.size := by rw [hsz]; exact Nat.le_add_right _ _
  have hl : lv_has ls 4 [(0, .ref (G.2.1 0 + 37)), (1, .ref (G.2.1 0 + 1)), (2, .ref (G.2.1 0 + 12)), (3, .ref (G.2.1 0 + 18))] := hl
  refine lv_aload_n hx hb d_CS_init_0 rfl (lv_at hl 0 rfl) ?_
  refine W.objInit hx hb hown (hts _ (List.mem_cons_of_mem _ tw_129)) (hts _ (List.mem_cons_of_mem _ tw_50)) (hts _ (List.mem_cons_of_mem _ tw_51)) rfl (by rw [hml]; exact hl.1) rfl d_CS_init_1 (Nat.le_of_ble_eq_true rfl) (Nat.le_of_ble_eq_true rfl) ?_
  refine W.eq (g2 := F0 m 4 ls []) rfl ?_
  refine lv_aload_n hx hb d_CS_init_4 rfl (lv_at hl 0 rfl) ?_
  refine lv_aload_n hx hb d_CS_init_5 rfl (lv_at hl 1 rfl) ?_
  refine m_cputF (n := 38) (μ1 := z_19) (i := 37) (ci := 4) (v := .ref (G.2.1 0 + 1)) (ty := .object "RecipePlans$Lots") (C := "RecipePlans$CutSearch") (T := T_CS) (N := 13) hx hb hts (fun _ h9 => List.mem_cons_of_mem _ (inT_CS _ h9)) ty_CS tyok_CS nm_CS hown hK hw (by decide) (by decide) rfl (by decide) rfl 0 (by decide) (hts _ (List.mem_cons_of_mem _ tw_131)) (fun _ h9 => h9) rfl hin rfl (by decide +kernel) rfl rfl (Nat.le_of_ble_eq_true rfl) (ob_4_0 G _) (fun a ha => ⟨upI_ne ha, fun _ => rfl⟩) d_CS_init_6 (fun H locs hw => ?_)
  refine lv_aload_n hx hb d_CS_init_9 rfl (lv_at hl 0 rfl) ?_
  refine lv_aload_n hx hb d_CS_init_10 rfl (lv_at hl 2 rfl) ?_
  refine m_cputF (n := 38) (μ1 := z_20) (i := 37) (ci := 4) (v := .ref (G.2.1 0 + 12)) (ty := .object "RecipePlans$Rules") (C := "RecipePlans$CutSearch") (T := T_CS) (N := 13) hx hb hts (fun _ h9 => List.mem_cons_of_mem _ (inT_CS _ h9)) ty_CS tyok_CS nm_CS hown hK hw (by decide) (by decide) rfl (by decide) rfl 1 (by decide) (hts _ (List.mem_cons_of_mem _ tw_132)) (fun _ h9 => h9) rfl hin rfl (by decide +kernel) rfl rfl (Nat.le_of_ble_eq_true rfl) (ob_4_1 G _) (fun a ha => ⟨upI_ne ha, fun _ => rfl⟩) d_CS_init_11 (fun H locs hw => ?_)
  refine lv_aload_n hx hb d_CS_init_14 rfl (lv_at hl 0 rfl) ?_
  refine lv_aload_n hx hb d_CS_init_15 rfl (lv_at hl 3 rfl) ?_
  refine m_cputF (n := 38) (μ1 := z_21) (i := 37) (ci := 4) (v := .ref (G.2.1 0 + 18)) (ty := .object "RecipePlans$Sides") (C := "RecipePlans$CutSearch") (T := T_CS) (N := 13) hx hb hts (fun _ h9 => List.mem_cons_of_mem _ (inT_CS _ h9)) ty_CS tyok_CS nm_CS hown hK hw (by decide) (by decide) rfl (by decide) rfl 2 (by decide) (hts _ (List.mem_cons_of_mem _ tw_133)) (fun _ h9 => h9) rfl hin rfl (by decide +kernel) rfl rfl (Nat.le_of_ble_eq_true rfl) (ob_4_2 G _) (fun a ha => ⟨upI_ne ha, fun _ => rfl⟩) d_CS_init_16 (fun H locs hw => ?_)
  refine lv_aload_n hx hb d_CS_init_19 rfl (lv_at hl 0 rfl) ?_
  refine lv_iconst (v := 5) hx hb d_CS_init_20 (by decide) ?_
  refine lv_bipush (v := 32) hx hb d_CS_init_21 (by decide) ?_
  refine m_cmulti (n := 38) (k := 10) (N := 5) (K := 32) hx hb hown (hts _ (List.mem_cons_of_mem _ tw_130)) hO (hts _ (List.mem_cons_of_mem _ tw_76)) hK hw hs (by decide) rfl (by decide) (by decide) rfl rfl (by decide) (by decide) (by decide) rfl rfl (by decide) (by decide) (Nat.le_of_ble_eq_true rfl) (Nat.le_of_ble_eq_true rfl) d_CS_init_23 (fun H hw => ?_)
  have hw : Wc G s 44 z_21 H _ := hw
  refine m_cputF (n := 44) (μ1 := z_22) (i := 37) (ci := 4) (v := .ref (G.2.1 0 + 38)) (ty := .array (.array .long)) (C := "RecipePlans$CutSearch") (T := T_CS) (N := 13) hx hb hts (fun _ h9 => List.mem_cons_of_mem _ (inT_CS _ h9)) ty_CS tyok_CS nm_CS hown hK hw (by decide) (by decide) rfl (by decide) rfl 3 (by decide) (hts _ (List.mem_cons_of_mem _ tw_134)) (fun _ h9 => h9) rfl hin rfl (by decide +kernel) rfl rfl (Nat.le_of_ble_eq_true rfl) (ob_4_3 G _) (fun a ha => ⟨upI_ne ha, fun _ => rfl⟩) d_CS_init_27 (fun H locs hw => ?_)
  refine lv_aload_n hx hb d_CS_init_30 rfl (lv_at hl 0 rfl) ?_
  refine lv_iconst (v := 5) hx hb d_CS_init_31 (by decide) ?_
  refine m_cnewj (n := 44) (k := 43) (N := 5) hx hb (hts _ (List.mem_cons_of_mem _ tw_76)) hK hw hs (by decide) rfl (by decide) rfl (by decide) rfl (by decide) (Nat.le_of_ble_eq_true rfl) (Nat.le_of_ble_eq_true rfl) d_CS_init_32 (fun H hw => ?_)
  refine m_cputF (n := 45) (μ1 := z_23) (i := 37) (ci := 4) (v := .ref (G.2.1 0 + 44)) (ty := .array .long) (C := "RecipePlans$CutSearch") (T := T_CS) (N := 13) hx hb hts (fun _ h9 => List.mem_cons_of_mem _ (inT_CS _ h9)) ty_CS tyok_CS nm_CS hown hK hw (by decide) (by decide) rfl (by decide) rfl 4 (by decide) (hts _ (List.mem_cons_of_mem _ tw_135)) (fun _ h9 => h9) rfl hin rfl (by decide +kernel) rfl rfl (Nat.le_of_ble_eq_true rfl) (ob_4_4 G _) (fun a ha => ⟨upI_ne ha, fun _ => rfl⟩) d_CS_init_34 (fun H locs hw => ?_)
  refine lv_aload_n hx hb d_CS_init_37 rfl (lv_at hl 0 rfl) ?_
  refine lv_bipush (v := 7) hx hb d_CS_init_38 (by decide) ?_
  refine m_cnewj (n := 45) (k := 44) (N := 7) hx hb (hts _ (List.mem_cons_of_mem _ tw_76)) hK hw hs (by decide) rfl (by decide) rfl (by decide) rfl (by decide) (Nat.le_of_ble_eq_true rfl) (Nat.le_of_ble_eq_true rfl) d_CS_init_40 (fun H hw => ?_)
  refine m_cputF (n := 46) (μ1 := z_24) (i := 37) (ci := 4) (v := .ref (G.2.1 0 + 45)) (ty := .array .long) (C := "RecipePlans$CutSearch") (T := T_CS) (N := 13) hx hb hts (fun _ h9 => List.mem_cons_of_mem _ (inT_CS _ h9)) ty_CS tyok_CS nm_CS hown hK hw (by decide) (by decide) rfl (by decide) rfl 5 (by decide) (hts _ (List.mem_cons_of_mem _ tw_136)) (fun _ h9 => h9) rfl hin rfl (by decide +kernel) rfl rfl (Nat.le_of_ble_eq_true rfl) (ob_4_5 G _) (fun a ha => ⟨upI_ne ha, fun _ => rfl⟩) d_CS_init_42 (fun H locs hw => ?_)
  refine lv_aload_n hx hb d_CS_init_45 rfl (lv_at hl 0 rfl) ?_
  refine lv_sipush (v := 256) hx hb d_CS_init_46 (by decide) ?_
  refine m_cnewz (n := 46) (k := 13) (N := 256) hx hb (hts _ (List.mem_cons_of_mem _ tw_161)) hK hw hs (by decide) rfl (by decide) (by decide) rfl (by decide) rfl (by decide) (Nat.le_of_ble_eq_true rfl) (Nat.le_of_ble_eq_true rfl) d_CS_init_49 (fun H hw => ?_)
  refine m_cputF (n := 47) (μ1 := z_25) (i := 37) (ci := 4) (v := .ref (G.2.1 0 + 46)) (ty := .array .boolean) (C := "RecipePlans$CutSearch") (T := T_CS) (N := 13) hx hb hts (fun _ h9 => List.mem_cons_of_mem _ (inT_CS _ h9)) ty_CS tyok_CS nm_CS hown hK hw (by decide) (by decide) rfl (by decide) rfl 6 (by decide) (hts _ (List.mem_cons_of_mem _ tw_137)) (fun _ h9 => h9) rfl hin rfl (by decide +kernel) rfl rfl (Nat.le_of_ble_eq_true rfl) (ob_4_6 G _) (fun a ha => ⟨upI_ne ha, fun _ => rfl⟩) d_CS_init_51 (fun H locs hw => ?_)
  refine lv_aload_n hx hb d_CS_init_54 rfl (lv_at hl 0 rfl) ?_
  refine lv_sipush (v := 256) hx hb d_CS_init_55 (by decide) ?_
  refine m_cnewi (n := 47) (k := 24) (N := 256) hx hb (hts _ (List.mem_cons_of_mem _ tw_75)) hK hw hs (by decide) rfl (by decide) (by decide) rfl (by decide) rfl (by decide) (Nat.le_of_ble_eq_true rfl) (Nat.le_of_ble_eq_true rfl) d_CS_init_58 (fun H hw => ?_)
  refine m_cputF (n := 48) (μ1 := z_26) (i := 37) (ci := 4) (v := .ref (G.2.1 0 + 47)) (ty := .array .int) (C := "RecipePlans$CutSearch") (T := T_CS) (N := 13) hx hb hts (fun _ h9 => List.mem_cons_of_mem _ (inT_CS _ h9)) ty_CS tyok_CS nm_CS hown hK hw (by decide) (by decide) rfl (by decide) rfl 7 (by decide) (hts _ (List.mem_cons_of_mem _ tw_138)) (fun _ h9 => h9) rfl hin rfl (by decide +kernel) rfl rfl (Nat.le_of_ble_eq_true rfl) (ob_4_7 G _) (fun a ha => ⟨upI_ne ha, fun _ => rfl⟩) d_CS_init_60 (fun H locs hw => ?_)
  refine W.cs (cells' := 10) (slots' := 689) rfl rfl ?_
  exact m_cvret hx hb hr hlk hw d_CS_init_63
set_option maxRecDepth 100000 in
set_option maxHeartbeats 4000000 in
theorem k_WS_init (l : Launch) (G : Gw) : CTc l y_WS_init ws_WS_init { frames := 1, cells := 15, slots := 183, locals := 30 } [.ref (G.2.1 0 + 48), .ref (G.2.1 0 + 1), .ref (G.2.1 0 + 18)] G 49 z_27 64 z_34 15 183 := by
  refine m_cmet (cc := prog_7_method_1_code) (maxL := 3) (by decide) rfl rfl (Nat.le_of_ble_eq_true rfl) ?_
  intro p e s m args below meth c ls C hw hl
  obtain ⟨hx, hb, hr, hml, hown, hts, hlk, hK, hsz, hO, hin⟩ := id C
  have hs : G.2.1 0 ≤ s.heap.size := by rw [hsz]; exact Nat.le_add_right _ _
  have hl : lv_has ls 3 [(0, .ref (G.2.1 0 + 48)), (1, .ref (G.2.1 0 + 1)), (2, .ref (G.2.1 0 + 18))] := hl
  refine lv_aload_n hx hb d_WS_init_0 rfl (lv_at hl 0 rfl) ?_
  refine W.objInit hx hb hown (hts _ (List.mem_cons_of_mem _ tw_167)) (hts _ (List.mem_cons_of_mem _ tw_50)) (hts _ (List.mem_cons_of_mem _ tw_51)) rfl (by rw [hml]; exact hl.1) rfl d_WS_init_1 (Nat.le_of_ble_eq_true rfl) (Nat.le_of_ble_eq_true rfl) ?_
  refine W.eq (g2 := F0 m 4 ls []) rfl ?_
  refine lv_aload_n hx hb d_WS_init_4 rfl (lv_at hl 0 rfl) ?_
  refine lv_aload_n hx hb d_WS_init_5 rfl (lv_at hl 1 rfl) ?_
  refine m_cputF (n := 49) (μ1 := z_28) (i := 48) (ci := 5) (v := .ref (G.2.1 0 + 1)) (ty := .object "RecipePlans$Lots") (C := "RecipePlans$WholeSearch") (T := T_WS) (N := 9) hx hb hts (fun _ h9 => List.mem_cons_of_mem _ (inT_WS _ h9)) ty_WS tyok_WS nm_WS hown hK hw (by decide) (by decide) rfl (by decide) rfl 0 (by decide) (hts _ (List.mem_cons_of_mem _ tw_169)) (fun _ h9 => h9) rfl hin rfl (by decide +kernel) rfl rfl (Nat.le_of_ble_eq_true rfl) (ob_5_0 G _) (fun a ha => ⟨upI_ne ha, fun _ => rfl⟩) d_WS_init_6 (fun H locs hw => ?_)
  refine lv_aload_n hx hb d_WS_init_9 rfl (lv_at hl 0 rfl) ?_
  refine lv_aload_n hx hb d_WS_init_10 rfl (lv_at hl 2 rfl) ?_
  refine m_cputF (n := 49) (μ1 := z_29) (i := 48) (ci := 5) (v := .ref (G.2.1 0 + 18)) (ty := .object "RecipePlans$Sides") (C := "RecipePlans$WholeSearch") (T := T_WS) (N := 9) hx hb hts (fun _ h9 => List.mem_cons_of_mem _ (inT_WS _ h9)) ty_WS tyok_WS nm_WS hown hK hw (by decide) (by decide) rfl (by decide) rfl 1 (by decide) (hts _ (List.mem_cons_of_mem _ tw_170)) (fun _ h9 => h9) rfl hin rfl (by decide +kernel) rfl rfl (Nat.le_of_ble_eq_true rfl) (ob_5_1 G _) (fun a ha => ⟨upI_ne ha, fun _ => rfl⟩) d_WS_init_11 (fun H locs hw => ?_)
  refine lv_aload_n hx hb d_WS_init_14 rfl (lv_at hl 0 rfl) ?_
  refine lv_iconst (v := 5) hx hb d_WS_init_15 (by decide) ?_
  refine lv_bipush (v := 16) hx hb d_WS_init_16 (by decide) ?_
  refine m_cmulti (n := 49) (k := 11) (N := 5) (K := 16) hx hb hown (hts _ (List.mem_cons_of_mem _ tw_168)) hO (hts _ (List.mem_cons_of_mem _ tw_76)) hK hw hs (by decide) rfl (by decide) (by decide) rfl rfl (by decide) (by decide) (by decide) rfl rfl (by decide) (by decide) (Nat.le_of_ble_eq_true rfl) (Nat.le_of_ble_eq_true rfl) d_WS_init_18 (fun H hw => ?_)
  have hw : Wc G s 55 z_29 H _ := hw
  refine m_cputF (n := 55) (μ1 := z_30) (i := 48) (ci := 5) (v := .ref (G.2.1 0 + 49)) (ty := .array (.array .long)) (C := "RecipePlans$WholeSearch") (T := T_WS) (N := 9) hx hb hts (fun _ h9 => List.mem_cons_of_mem _ (inT_WS _ h9)) ty_WS tyok_WS nm_WS hown hK hw (by decide) (by decide) rfl (by decide) rfl 2 (by decide) (hts _ (List.mem_cons_of_mem _ tw_171)) (fun _ h9 => h9) rfl hin rfl (by decide +kernel) rfl rfl (Nat.le_of_ble_eq_true rfl) (ob_5_2 G _) (fun a ha => ⟨upI_ne ha, fun _ => rfl⟩) d_WS_init_22 (fun H locs hw => ?_)
  refine lv_aload_n hx hb d_WS_init_25 rfl (lv_at hl 0 rfl) ?_
  refine lv_iconst (v := 5) hx hb d_WS_init_26 (by decide) ?_
  refine lv_bipush (v := 16) hx hb d_WS_init_27 (by decide) ?_
  refine m_cmulti (n := 55) (k := 12) (N := 5) (K := 16) hx hb hown (hts _ (List.mem_cons_of_mem _ tw_168)) hO (hts _ (List.mem_cons_of_mem _ tw_76)) hK hw hs (by decide) rfl (by decide) (by decide) rfl rfl (by decide) (by decide) (by decide) rfl rfl (by decide) (by decide) (Nat.le_of_ble_eq_true rfl) (Nat.le_of_ble_eq_true rfl) d_WS_init_29 (fun H hw => ?_)
  have hw : Wc G s 61 z_30 H _ := hw
  refine m_cputF (n := 61) (μ1 := z_31) (i := 48) (ci := 5) (v := .ref (G.2.1 0 + 55)) (ty := .array (.array .long)) (C := "RecipePlans$WholeSearch") (T := T_WS) (N := 9) hx hb hts (fun _ h9 => List.mem_cons_of_mem _ (inT_WS _ h9)) ty_WS tyok_WS nm_WS hown hK hw (by decide) (by decide) rfl (by decide) rfl 3 (by decide) (hts _ (List.mem_cons_of_mem _ tw_172)) (fun _ h9 => h9) rfl hin rfl (by decide +kernel) rfl rfl (Nat.le_of_ble_eq_true rfl) (ob_5_3 G _) (fun a ha => ⟨upI_ne ha, fun _ => rfl⟩) d_WS_init_33 (fun H locs hw => ?_)
  refine lv_aload_n hx hb d_WS_init_36 rfl (lv_at hl 0 rfl) ?_
  refine lv_iconst (v := 5) hx hb d_WS_init_37 (by decide) ?_
  refine m_cnewj (n := 61) (k := 45) (N := 5) hx hb (hts _ (List.mem_cons_of_mem _ tw_76)) hK hw hs (by decide) rfl (by decide) rfl (by decide) rfl (by decide) (Nat.le_of_ble_eq_true rfl) (Nat.le_of_ble_eq_true rfl) d_WS_init_38 (fun H hw => ?_)
  refine m_cputF (n := 62) (μ1 := z_32) (i := 48) (ci := 5) (v := .ref (G.2.1 0 + 61)) (ty := .array .long) (C := "RecipePlans$WholeSearch") (T := T_WS) (N := 9) hx hb hts (fun _ h9 => List.mem_cons_of_mem _ (inT_WS _ h9)) ty_WS tyok_WS nm_WS hown hK hw (by decide) (by decide) rfl (by decide) rfl 4 (by decide) (hts _ (List.mem_cons_of_mem _ tw_173)) (fun _ h9 => h9) rfl hin rfl (by decide +kernel) rfl rfl (Nat.le_of_ble_eq_true rfl) (ob_5_4 G _) (fun a ha => ⟨upI_ne ha, fun _ => rfl⟩) d_WS_init_40 (fun H locs hw => ?_)
  refine lv_aload_n hx hb d_WS_init_43 rfl (lv_at hl 0 rfl) ?_
  refine lv_iconst (v := 4) hx hb d_WS_init_44 (by decide) ?_
  refine m_cnewi (n := 62) (k := 25) (N := 4) hx hb (hts _ (List.mem_cons_of_mem _ tw_75)) hK hw hs (by decide) rfl (by decide) (by decide) rfl (by decide) rfl (by decide) (Nat.le_of_ble_eq_true rfl) (Nat.le_of_ble_eq_true rfl) d_WS_init_45 (fun H hw => ?_)
  refine m_cputF (n := 63) (μ1 := z_33) (i := 48) (ci := 5) (v := .ref (G.2.1 0 + 62)) (ty := .array .int) (C := "RecipePlans$WholeSearch") (T := T_WS) (N := 9) hx hb hts (fun _ h9 => List.mem_cons_of_mem _ (inT_WS _ h9)) ty_WS tyok_WS nm_WS hown hK hw (by decide) (by decide) rfl (by decide) rfl 5 (by decide) (hts _ (List.mem_cons_of_mem _ tw_174)) (fun _ h9 => h9) rfl hin rfl (by decide +kernel) rfl rfl (Nat.le_of_ble_eq_true rfl) (ob_5_5 G _) (fun a ha => ⟨upI_ne ha, fun _ => rfl⟩) d_WS_init_47 (fun H locs hw => ?_)
  refine lv_aload_n hx hb d_WS_init_50 rfl (lv_at hl 0 rfl) ?_
  refine lv_iconst (v := 4) hx hb d_WS_init_51 (by decide) ?_
  refine m_cnewi (n := 63) (k := 26) (N := 4) hx hb (hts _ (List.mem_cons_of_mem _ tw_75)) hK hw hs (by decide) rfl (by decide) (by decide) rfl (by decide) rfl (by decide) (Nat.le_of_ble_eq_true rfl) (Nat.le_of_ble_eq_true rfl) d_WS_init_52 (fun H hw => ?_)
  refine m_cputF (n := 64) (μ1 := z_34) (i := 48) (ci := 5) (v := .ref (G.2.1 0 + 63)) (ty := .array .int) (C := "RecipePlans$WholeSearch") (T := T_WS) (N := 9) hx hb hts (fun _ h9 => List.mem_cons_of_mem _ (inT_WS _ h9)) ty_WS tyok_WS nm_WS hown hK hw (by decide) (by decide) rfl (by decide) rfl 8 (by decide) (hts _ (List.mem_cons_of_mem _ tw_180)) (fun _ h9 => h9) rfl hin rfl (by decide +kernel) rfl rfl (Nat.le_of_ble_eq_true rfl) (ob_5_8 G _) (fun a ha => ⟨upI_ne ha, fun _ => rfl⟩) d_WS_init_54 (fun H locs hw => ?_)
  refine W.cs (cells' := 15) (slots' := 183) rfl rfl ?_
  exact m_cvret hx hb hr hlk hw d_WS_init_57
set_option maxRecDepth 100000 in
set_option maxHeartbeats 4000000 in
theorem k_Fo_init (l : Launch) (G : Gw) : CTc l y_Fo_init ws_Fo_init { frames := 1, cells := 1, slots := 4, locals := 30 } [.ref (G.2.1 0 + 64)] G 65 z_35 66 z_36 1 4 := by
  refine m_cmet (cc := prog_3_method_1_code) (maxL := 1) (by decide) rfl rfl (Nat.le_of_ble_eq_true rfl) ?_
  intro p e s m args below meth c ls C hw hl
  obtain ⟨hx, hb, hr, hml, hown, hts, hlk, hK, hsz, hO, hin⟩ := id C
  have hs : G.2.1 0 ≤ s.heap.size := by rw [hsz]; exact Nat.le_add_right _ _
  have hl : lv_has ls 1 [(0, .ref (G.2.1 0 + 64))] := hl
  refine lv_aload_n hx hb d_Fo_init_0 rfl (lv_at hl 0 rfl) ?_
  refine W.objInit hx hb hown (hts _ (List.mem_cons_of_mem _ tw_196)) (hts _ (List.mem_cons_of_mem _ tw_50)) (hts _ (List.mem_cons_of_mem _ tw_51)) rfl (by rw [hml]; exact hl.1) rfl d_Fo_init_1 (Nat.le_of_ble_eq_true rfl) (Nat.le_of_ble_eq_true rfl) ?_
  refine W.eq (g2 := F0 m 4 ls []) rfl ?_
  refine lv_aload_n hx hb d_Fo_init_4 rfl (lv_at hl 0 rfl) ?_
  refine lv_iconst (v := 4) hx hb d_Fo_init_5 (by decide) ?_
  refine m_cnewi (n := 65) (k := 27) (N := 4) hx hb (hts _ (List.mem_cons_of_mem _ tw_75)) hK hw hs (by decide) rfl (by decide) (by decide) rfl (by decide) rfl (by decide) (Nat.le_of_ble_eq_true rfl) (Nat.le_of_ble_eq_true rfl) d_Fo_init_6 (fun H hw => ?_)
  refine m_cputF (n := 66) (μ1 := z_36) (i := 64) (ci := 6) (v := .ref (G.2.1 0 + 65)) (ty := .array .int) (C := "RecipePlans$Found") (T := T_Fo) (N := 8) hx hb hts (fun _ h9 => List.mem_cons_of_mem _ (inT_Fo _ h9)) ty_Fo tyok_Fo nm_Fo hown hK hw (by decide) (by decide) rfl (by decide) rfl 2 (by decide) (hts _ (List.mem_cons_of_mem _ tw_201)) (fun _ h9 => h9) rfl hin rfl (by decide +kernel) rfl rfl (Nat.le_of_ble_eq_true rfl) (ob_6_2 G _) (fun a ha => ⟨upI_ne ha, fun _ => rfl⟩) d_Fo_init_8 (fun H locs hw => ?_)
  refine W.cs (cells' := 1) (slots' := 4) rfl rfl ?_
  exact m_cvret hx hb hr hlk hw d_Fo_init_11
set_option maxRecDepth 100000 in
set_option maxHeartbeats 4000000 in
theorem k_RP_init (l : Launch) (G : Gw) : CTc l y_RP_init ws_RP_init { frames := 2, cells := 67, slots := 1125, locals := 53 } [.ref (G.2.1 0 + 0)] G 1 z_0 68 z_39 67 1125 := by
  refine m_cmet (cc := prog_1_method_1_code) (maxL := 1) (by decide) rfl rfl (Nat.le_of_ble_eq_true rfl) ?_
  intro p e s m args below meth c ls C hw hl
  obtain ⟨hx, hb, hr, hml, hown, hts, hlk, hK, hsz, hO, hin⟩ := id C
  have hs : G.2.1 0 ≤ s.heap.size := by rw [hsz]; exact Nat.le_add_right _ _
  have hl : lv_has ls 1 [(0, .ref (G.2.1 0 + 0))] := hl
  refine lv_aload_n hx hb d_RP_init_0 rfl (lv_at hl 0 rfl) ?_
  refine W.objInit hx hb hown (hts _ (List.mem_cons_of_mem _ tw_49)) (hts _ (List.mem_cons_of_mem _ tw_50)) (hts _ (List.mem_cons_of_mem _ tw_51)) rfl (by rw [hml]; exact hl.1) rfl d_RP_init_1 (Nat.le_of_ble_eq_true rfl) (Nat.le_of_ble_eq_true rfl) ?_
  refine W.eq (g2 := F0 m 4 ls []) rfl ?_
  refine lv_aload_n hx hb d_RP_init_4 rfl (lv_at hl 0 rfl) ?_
  refine m_cnew (n := 1) (N := 4) (ci := 1) (C := "RecipePlans$Lots") (T := T_Lo) hx hb hts (fun _ h9 => List.mem_cons_of_mem _ (inT_Lo _ h9)) ty_Lo tyok_Lo hown (hts _ (List.mem_cons_of_mem _ tw_52)) (hts _ (List.mem_cons_of_mem _ tw_53)) (hts _ (List.mem_cons_of_mem _ tw_35)) hK hw hs (by decide) rfl (by decide) rfl df_Lo (Nat.le_of_ble_eq_true rfl) (Nat.le_of_ble_eq_true rfl) d_RP_init_5 (fun H hw => ?_)
  refine lv_dup hx hb d_RP_init_8 rfl ?_
  refine m_ccall (n1 := 12) (μ1 := z_8) (va_runI (As := []) (rest := [.ref (G.2.1 0 + 1), .ref (G.2.1 0 + 0)]) ⟨hx, hb, hml, hown, hts⟩ (k_Lo_init l G) (cwI 0 hts (gd0 tw_56) rfl rfl rfl (hts _ (List.mem_cons_of_mem _ tw_35)) (hts _ (List.mem_cons_of_mem _ tw_54)) (hts _ (List.mem_cons_of_mem _ tw_55)) rfl (by decide +kernel) ⟨Nat.le_of_ble_eq_true rfl, Nat.le_of_ble_eq_true rfl⟩) (m_cpre hK hO hw) rfl rfl hl.1 rfl (lv_room (Nat.le_of_ble_eq_true rfl)) d_RP_init_9 ⟨Nat.le_of_ble_eq_true rfl, Nat.le_of_ble_eq_true rfl⟩) hs hw (fun H locs hw => ?_)
  refine m_cputF (n := 12) (μ1 := z_9) (i := 0) (ci := 0) (v := .ref (G.2.1 0 + 1)) (ty := .object "RecipePlans$Lots") (C := "RecipePlans") (T := T_RP) (N := 8) hx hb hts (fun _ h9 => List.mem_cons_of_mem _ (inT_RP _ h9)) ty_RP tyok_RP nm_RP hown hK hw (by decide) (by decide) rfl (by decide) rfl 0 (by decide) (hts _ (List.mem_cons_of_mem _ tw_221)) (fun _ h9 => h9) rfl hin rfl (by decide +kernel) rfl rfl (Nat.le_of_ble_eq_true rfl) (ob_0_0 G _) (fun a ha => ⟨upI_ne ha, fun _ => rfl⟩) d_RP_init_12 (fun H locs hw => ?_)
  refine lv_aload_n hx hb d_RP_init_15 rfl (lv_at hl 0 rfl) ?_
  refine m_cnew (n := 12) (N := 6) (ci := 2) (C := "RecipePlans$Rules") (T := T_Ru) hx hb hts (fun _ h9 => List.mem_cons_of_mem _ (inT_Ru _ h9)) ty_Ru tyok_Ru hown (hts _ (List.mem_cons_of_mem _ tw_77)) (hts _ (List.mem_cons_of_mem _ tw_78)) (hts _ (List.mem_cons_of_mem _ tw_36)) hK hw hs (by decide) rfl (by decide) rfl df_Ru (Nat.le_of_ble_eq_true rfl) (Nat.le_of_ble_eq_true rfl) d_RP_init_16 (fun H hw => ?_)
  refine lv_dup hx hb d_RP_init_19 rfl ?_
  refine m_ccall (n1 := 18) (μ1 := z_14) (va_runI (As := []) (rest := [.ref (G.2.1 0 + 12), .ref (G.2.1 0 + 0)]) ⟨hx, hb, hml, hown, hts⟩ (k_Ru_init l G) (cwI 0 hts (gd0 tw_81) rfl rfl rfl (hts _ (List.mem_cons_of_mem _ tw_36)) (hts _ (List.mem_cons_of_mem _ tw_79)) (hts _ (List.mem_cons_of_mem _ tw_80)) rfl (by decide +kernel) ⟨Nat.le_of_ble_eq_true rfl, Nat.le_of_ble_eq_true rfl⟩) (m_cpre hK hO hw) rfl rfl hl.1 rfl (lv_room (Nat.le_of_ble_eq_true rfl)) d_RP_init_20 ⟨Nat.le_of_ble_eq_true rfl, Nat.le_of_ble_eq_true rfl⟩) hs hw (fun H locs hw => ?_)
  refine m_cputF (n := 18) (μ1 := z_15) (i := 0) (ci := 0) (v := .ref (G.2.1 0 + 12)) (ty := .object "RecipePlans$Rules") (C := "RecipePlans") (T := T_RP) (N := 8) hx hb hts (fun _ h9 => List.mem_cons_of_mem _ (inT_RP _ h9)) ty_RP tyok_RP nm_RP hown hK hw (by decide) (by decide) rfl (by decide) rfl 1 (by decide) (hts _ (List.mem_cons_of_mem _ tw_222)) (fun _ h9 => h9) rfl hin rfl (by decide +kernel) rfl rfl (Nat.le_of_ble_eq_true rfl) (ob_0_1 G _) (fun a ha => ⟨upI_ne ha, fun _ => rfl⟩) d_RP_init_23 (fun H locs hw => ?_)
  refine lv_aload_n hx hb d_RP_init_26 rfl (lv_at hl 0 rfl) ?_
  refine m_cnew (n := 18) (N := 3) (ci := 3) (C := "RecipePlans$Sides") (T := T_Si) hx hb hts (fun _ h9 => List.mem_cons_of_mem _ (inT_Si _ h9)) ty_Si tyok_Si hown (hts _ (List.mem_cons_of_mem _ tw_106)) (hts _ (List.mem_cons_of_mem _ tw_107)) (hts _ (List.mem_cons_of_mem _ tw_37)) hK hw hs (by decide) rfl (by decide) rfl df_Si (Nat.le_of_ble_eq_true rfl) (Nat.le_of_ble_eq_true rfl) d_RP_init_27 (fun H hw => ?_)
  refine lv_dup hx hb d_RP_init_30 rfl ?_
  refine m_ccall (n1 := 37) (μ1 := z_17) (va_runI (As := []) (rest := [.ref (G.2.1 0 + 18), .ref (G.2.1 0 + 0)]) ⟨hx, hb, hml, hown, hts⟩ (k_Si_init l G) (cwI 0 hts (gd0 tw_110) rfl rfl rfl (hts _ (List.mem_cons_of_mem _ tw_37)) (hts _ (List.mem_cons_of_mem _ tw_108)) (hts _ (List.mem_cons_of_mem _ tw_109)) rfl (by decide +kernel) ⟨Nat.le_of_ble_eq_true rfl, Nat.le_of_ble_eq_true rfl⟩) (m_cpre hK hO hw) rfl rfl hl.1 rfl (lv_room (Nat.le_of_ble_eq_true rfl)) d_RP_init_31 ⟨Nat.le_of_ble_eq_true rfl, Nat.le_of_ble_eq_true rfl⟩) hs hw (fun H locs hw => ?_)
  refine m_cputF (n := 37) (μ1 := z_18) (i := 0) (ci := 0) (v := .ref (G.2.1 0 + 18)) (ty := .object "RecipePlans$Sides") (C := "RecipePlans") (T := T_RP) (N := 8) hx hb hts (fun _ h9 => List.mem_cons_of_mem _ (inT_RP _ h9)) ty_RP tyok_RP nm_RP hown hK hw (by decide) (by decide) rfl (by decide) rfl 2 (by decide) (hts _ (List.mem_cons_of_mem _ tw_223)) (fun _ h9 => h9) rfl hin rfl (by decide +kernel) rfl rfl (Nat.le_of_ble_eq_true rfl) (ob_0_2 G _) (fun a ha => ⟨upI_ne ha, fun _ => rfl⟩) d_RP_init_34 (fun H locs hw => ?_)
  refine lv_aload_n hx hb d_RP_init_37 rfl (lv_at hl 0 rfl) ?_
  refine m_cnew (n := 37) (N := 13) (ci := 4) (C := "RecipePlans$CutSearch") (T := T_CS) hx hb hts (fun _ h9 => List.mem_cons_of_mem _ (inT_CS _ h9)) ty_CS tyok_CS hown (hts _ (List.mem_cons_of_mem _ tw_124)) (hts _ (List.mem_cons_of_mem _ tw_125)) (hts _ (List.mem_cons_of_mem _ tw_38)) hK hw hs (by decide) rfl (by decide) rfl df_CS (Nat.le_of_ble_eq_true rfl) (Nat.le_of_ble_eq_true rfl) d_RP_init_38 (fun H hw => ?_)
  refine lv_dup hx hb d_RP_init_41 rfl ?_
  refine lv_aload_n hx hb d_RP_init_42 rfl (lv_at hl 0 rfl) ?_
  refine va_get (D := G.1) (ci := 0) (v := .ref (G.2.1 0 + 1)) (C := "RecipePlans") (T := T_RP) (N := 8) hx hb hts (fun _ h9 => List.mem_cons_of_mem _ (inT_RP _ h9)) hown hK hw.2.1 0 (WG_obj (ci := 0) (by decide) rfl (by decide)) rfl 0 (by decide) (hts _ (List.mem_cons_of_mem _ tw_221)) (fun _ h9 => h9) (by rfl) d_RP_init_43 ?_
  refine lv_aload_n hx hb d_RP_init_46 rfl (lv_at hl 0 rfl) ?_
  refine va_get (D := G.1) (ci := 0) (v := .ref (G.2.1 0 + 12)) (C := "RecipePlans") (T := T_RP) (N := 8) hx hb hts (fun _ h9 => List.mem_cons_of_mem _ (inT_RP _ h9)) hown hK hw.2.1 0 (WG_obj (ci := 0) (by decide) rfl (by decide)) rfl 1 (by decide) (hts _ (List.mem_cons_of_mem _ tw_222)) (fun _ h9 => h9) (by rfl) d_RP_init_47 ?_
  refine lv_aload_n hx hb d_RP_init_50 rfl (lv_at hl 0 rfl) ?_
  refine va_get (D := G.1) (ci := 0) (v := .ref (G.2.1 0 + 18)) (C := "RecipePlans") (T := T_RP) (N := 8) hx hb hts (fun _ h9 => List.mem_cons_of_mem _ (inT_RP _ h9)) hown hK hw.2.1 0 (WG_obj (ci := 0) (by decide) rfl (by decide)) rfl 2 (by decide) (hts _ (List.mem_cons_of_mem _ tw_223)) (fun _ h9 => h9) (by rfl) d_RP_init_51 ?_
  refine m_ccall (n1 := 48) (μ1 := z_26) (va_runI (As := [.ref (G.2.1 0 + 1), .ref (G.2.1 0 + 12), .ref (G.2.1 0 + 18)]) (rest := [.ref (G.2.1 0 + 37), .ref (G.2.1 0 + 0)]) ⟨hx, hb, hml, hown, hts⟩ (k_CS_init l G) (cwI 3 hts (gd0 tw_128) rfl rfl rfl (hts _ (List.mem_cons_of_mem _ tw_38)) (hts _ (List.mem_cons_of_mem _ tw_126)) (hts _ (List.mem_cons_of_mem _ tw_127)) rfl (by decide +kernel) ⟨Nat.le_of_ble_eq_true rfl, Nat.le_of_ble_eq_true rfl⟩) (m_cpre hK hO hw) rfl rfl hl.1 rfl (lv_room (Nat.le_of_ble_eq_true rfl)) d_RP_init_54 ⟨Nat.le_of_ble_eq_true rfl, Nat.le_of_ble_eq_true rfl⟩) hs hw (fun H locs hw => ?_)
  refine m_cputF (n := 48) (μ1 := z_27) (i := 0) (ci := 0) (v := .ref (G.2.1 0 + 37)) (ty := .object "RecipePlans$CutSearch") (C := "RecipePlans") (T := T_RP) (N := 8) hx hb hts (fun _ h9 => List.mem_cons_of_mem _ (inT_RP _ h9)) ty_RP tyok_RP nm_RP hown hK hw (by decide) (by decide) rfl (by decide) rfl 3 (by decide) (hts _ (List.mem_cons_of_mem _ tw_224)) (fun _ h9 => h9) rfl hin rfl (by decide +kernel) rfl rfl (Nat.le_of_ble_eq_true rfl) (ob_0_3 G _) (fun a ha => ⟨upI_ne ha, fun _ => rfl⟩) d_RP_init_57 (fun H locs hw => ?_)
  refine lv_aload_n hx hb d_RP_init_60 rfl (lv_at hl 0 rfl) ?_
  refine m_cnew (n := 48) (N := 9) (ci := 5) (C := "RecipePlans$WholeSearch") (T := T_WS) hx hb hts (fun _ h9 => List.mem_cons_of_mem _ (inT_WS _ h9)) ty_WS tyok_WS hown (hts _ (List.mem_cons_of_mem _ tw_162)) (hts _ (List.mem_cons_of_mem _ tw_163)) (hts _ (List.mem_cons_of_mem _ tw_39)) hK hw hs (by decide) rfl (by decide) rfl df_WS (Nat.le_of_ble_eq_true rfl) (Nat.le_of_ble_eq_true rfl) d_RP_init_61 (fun H hw => ?_)
  refine lv_dup hx hb d_RP_init_64 rfl ?_
  refine lv_aload_n hx hb d_RP_init_65 rfl (lv_at hl 0 rfl) ?_
  refine va_get (D := G.1) (ci := 0) (v := .ref (G.2.1 0 + 1)) (C := "RecipePlans") (T := T_RP) (N := 8) hx hb hts (fun _ h9 => List.mem_cons_of_mem _ (inT_RP _ h9)) hown hK hw.2.1 0 (WG_obj (ci := 0) (by decide) rfl (by decide)) rfl 0 (by decide) (hts _ (List.mem_cons_of_mem _ tw_221)) (fun _ h9 => h9) (by rfl) d_RP_init_66 ?_
  refine lv_aload_n hx hb d_RP_init_69 rfl (lv_at hl 0 rfl) ?_
  refine va_get (D := G.1) (ci := 0) (v := .ref (G.2.1 0 + 18)) (C := "RecipePlans") (T := T_RP) (N := 8) hx hb hts (fun _ h9 => List.mem_cons_of_mem _ (inT_RP _ h9)) hown hK hw.2.1 0 (WG_obj (ci := 0) (by decide) rfl (by decide)) rfl 2 (by decide) (hts _ (List.mem_cons_of_mem _ tw_223)) (fun _ h9 => h9) (by rfl) d_RP_init_70 ?_
  refine m_ccall (n1 := 64) (μ1 := z_34) (va_runI (As := [.ref (G.2.1 0 + 1), .ref (G.2.1 0 + 18)]) (rest := [.ref (G.2.1 0 + 48), .ref (G.2.1 0 + 0)]) ⟨hx, hb, hml, hown, hts⟩ (k_WS_init l G) (cwI 2 hts (gd0 tw_166) rfl rfl rfl (hts _ (List.mem_cons_of_mem _ tw_39)) (hts _ (List.mem_cons_of_mem _ tw_164)) (hts _ (List.mem_cons_of_mem _ tw_165)) rfl (by decide +kernel) ⟨Nat.le_of_ble_eq_true rfl, Nat.le_of_ble_eq_true rfl⟩) (m_cpre hK hO hw) rfl rfl hl.1 rfl (lv_room (Nat.le_of_ble_eq_true rfl)) d_RP_init_73 ⟨Nat.le_of_ble_eq_true rfl, Nat.le_of_ble_eq_true rfl⟩) hs hw (fun H locs hw => ?_)
  refine m_cputF (n := 64) (μ1 := z_35) (i := 0) (ci := 0) (v := .ref (G.2.1 0 + 48)) (ty := .object "RecipePlans$WholeSearch") (C := "RecipePlans") (T := T_RP) (N := 8) hx hb hts (fun _ h9 => List.mem_cons_of_mem _ (inT_RP _ h9)) ty_RP tyok_RP nm_RP hown hK hw (by decide) (by decide) rfl (by decide) rfl 4 (by decide) (hts _ (List.mem_cons_of_mem _ tw_225)) (fun _ h9 => h9) rfl hin rfl (by decide +kernel) rfl rfl (Nat.le_of_ble_eq_true rfl) (ob_0_4 G _) (fun a ha => ⟨upI_ne ha, fun _ => rfl⟩) d_RP_init_76 (fun H locs hw => ?_)
  refine lv_aload_n hx hb d_RP_init_79 rfl (lv_at hl 0 rfl) ?_
  refine m_cnew (n := 64) (N := 8) (ci := 6) (C := "RecipePlans$Found") (T := T_Fo) hx hb hts (fun _ h9 => List.mem_cons_of_mem _ (inT_Fo _ h9)) ty_Fo tyok_Fo hown (hts _ (List.mem_cons_of_mem _ tw_191)) (hts _ (List.mem_cons_of_mem _ tw_192)) (hts _ (List.mem_cons_of_mem _ tw_40)) hK hw hs (by decide) rfl (by decide) rfl df_Fo (Nat.le_of_ble_eq_true rfl) (Nat.le_of_ble_eq_true rfl) d_RP_init_80 (fun H hw => ?_)
  refine lv_dup hx hb d_RP_init_83 rfl ?_
  refine m_ccall (n1 := 66) (μ1 := z_36) (va_runI (As := []) (rest := [.ref (G.2.1 0 + 64), .ref (G.2.1 0 + 0)]) ⟨hx, hb, hml, hown, hts⟩ (k_Fo_init l G) (cwI 0 hts (gd0 tw_195) rfl rfl rfl (hts _ (List.mem_cons_of_mem _ tw_40)) (hts _ (List.mem_cons_of_mem _ tw_193)) (hts _ (List.mem_cons_of_mem _ tw_194)) rfl (by decide +kernel) ⟨Nat.le_of_ble_eq_true rfl, Nat.le_of_ble_eq_true rfl⟩) (m_cpre hK hO hw) rfl rfl hl.1 rfl (lv_room (Nat.le_of_ble_eq_true rfl)) d_RP_init_84 ⟨Nat.le_of_ble_eq_true rfl, Nat.le_of_ble_eq_true rfl⟩) hs hw (fun H locs hw => ?_)
  refine m_cputF (n := 66) (μ1 := z_37) (i := 0) (ci := 0) (v := .ref (G.2.1 0 + 64)) (ty := .object "RecipePlans$Found") (C := "RecipePlans") (T := T_RP) (N := 8) hx hb hts (fun _ h9 => List.mem_cons_of_mem _ (inT_RP _ h9)) ty_RP tyok_RP nm_RP hown hK hw (by decide) (by decide) rfl (by decide) rfl 5 (by decide) (hts _ (List.mem_cons_of_mem _ tw_226)) (fun _ h9 => h9) rfl hin rfl (by decide +kernel) rfl rfl (Nat.le_of_ble_eq_true rfl) (ob_0_5 G _) (fun a ha => ⟨upI_ne ha, fun _ => rfl⟩) d_RP_init_87 (fun H locs hw => ?_)
  refine lv_aload_n hx hb d_RP_init_90 rfl (lv_at hl 0 rfl) ?_
  refine lv_iconst (v := 5) hx hb d_RP_init_91 (by decide) ?_
  refine m_cnewj (n := 66) (k := 40) (N := 5) hx hb (hts _ (List.mem_cons_of_mem _ tw_76)) hK hw hs (by decide) rfl (by decide) rfl (by decide) rfl (by decide) (Nat.le_of_ble_eq_true rfl) (Nat.le_of_ble_eq_true rfl) d_RP_init_92 (fun H hw => ?_)
  refine m_cputF (n := 67) (μ1 := z_38) (i := 0) (ci := 0) (v := .ref (G.2.1 0 + 66)) (ty := .array .long) (C := "RecipePlans") (T := T_RP) (N := 8) hx hb hts (fun _ h9 => List.mem_cons_of_mem _ (inT_RP _ h9)) ty_RP tyok_RP nm_RP hown hK hw (by decide) (by decide) rfl (by decide) rfl 6 (by decide) (hts _ (List.mem_cons_of_mem _ tw_227)) (fun _ h9 => h9) rfl hin rfl (by decide +kernel) rfl rfl (Nat.le_of_ble_eq_true rfl) (ob_0_6 G _) (fun a ha => ⟨upI_ne ha, fun _ => rfl⟩) d_RP_init_94 (fun H locs hw => ?_)
  refine lv_aload_n hx hb d_RP_init_97 rfl (lv_at hl 0 rfl) ?_
  refine lv_bipush (v := 7) hx hb d_RP_init_98 (by decide) ?_
  refine m_cnewj (n := 67) (k := 41) (N := 7) hx hb (hts _ (List.mem_cons_of_mem _ tw_76)) hK hw hs (by decide) rfl (by decide) rfl (by decide) rfl (by decide) (Nat.le_of_ble_eq_true rfl) (Nat.le_of_ble_eq_true rfl) d_RP_init_100 (fun H hw => ?_)
  refine m_cputF (n := 68) (μ1 := z_39) (i := 0) (ci := 0) (v := .ref (G.2.1 0 + 67)) (ty := .array .long) (C := "RecipePlans") (T := T_RP) (N := 8) hx hb hts (fun _ h9 => List.mem_cons_of_mem _ (inT_RP _ h9)) ty_RP tyok_RP nm_RP hown hK hw (by decide) (by decide) rfl (by decide) rfl 7 (by decide) (hts _ (List.mem_cons_of_mem _ tw_228)) (fun _ h9 => h9) rfl hin rfl (by decide +kernel) rfl rfl (Nat.le_of_ble_eq_true rfl) (ob_0_7 G _) (fun a ha => ⟨upI_ne ha, fun _ => rfl⟩) d_RP_init_102 (fun H locs hw => ?_)
  refine W.cs (cells' := 67) (slots' := 1125) rfl rfl ?_
  exact m_cvret hx hb hr hlk hw d_RP_init_105
set_option maxRecDepth 100000 in
set_option maxHeartbeats 4000000 in
theorem k_Mo_init (l : Launch) (G : Gw) : CTc l y_Mo_init ws_Mo_init { frames := 1, cells := 16, slots := 492, locals := 30 } [.ref (G.2.1 0 + 68)] G 69 z_39 85 z_56 16 492 := by
  refine m_cmet (cc := prog_9_method_1_code) (maxL := 1) (by decide) rfl rfl (Nat.le_of_ble_eq_true rfl) ?_
  intro p e s m args below meth c ls C hw hl
  obtain ⟨hx, hb, hr, hml, hown, hts, hlk, hK, hsz, hO, hin⟩ := id C
  have hs : G.2.1 0 ≤ s.heap.size := by rw [hsz]; exact Nat.le_add_right _ _
  have hl : lv_has ls 1 [(0, .ref (G.2.1 0 + 68))] := hl
  refine lv_aload_n hx hb d_Mo_init_0 rfl (lv_at hl 0 rfl) ?_
  refine W.objInit hx hb hown (hts _ (List.mem_cons_of_mem _ tw_452)) (hts _ (List.mem_cons_of_mem _ tw_50)) (hts _ (List.mem_cons_of_mem _ tw_51)) rfl (by rw [hml]; exact hl.1) rfl d_Mo_init_1 (Nat.le_of_ble_eq_true rfl) (Nat.le_of_ble_eq_true rfl) ?_
  refine W.eq (g2 := F0 m 4 ls []) rfl ?_
  refine lv_aload_n hx hb d_Mo_init_4 rfl (lv_at hl 0 rfl) ?_
  refine lv_iconst (v := 4) hx hb d_Mo_init_5 (by decide) ?_
  refine m_cnewi (n := 69) (k := 28) (N := 4) hx hb (hts _ (List.mem_cons_of_mem _ tw_75)) hK hw hs (by decide) rfl (by decide) (by decide) rfl (by decide) rfl (by decide) (Nat.le_of_ble_eq_true rfl) (Nat.le_of_ble_eq_true rfl) d_Mo_init_6 (fun H hw => ?_)
  refine m_cputF (n := 70) (μ1 := z_40) (i := 68) (ci := 7) (v := .ref (G.2.1 0 + 69)) (ty := .array .int) (C := "RecipePlansModel") (T := T_Mo) (N := 24) hx hb hts (fun _ h9 => List.mem_cons_of_mem _ (inT_Mo _ h9)) ty_Mo tyok_Mo nm_Mo hown hK hw (by decide) (by decide) rfl (by decide) rfl 1 (by decide) (hts _ (List.mem_cons_of_mem _ tw_454)) (fun _ h9 => h9) rfl hin rfl (by decide +kernel) rfl rfl (Nat.le_of_ble_eq_true rfl) (ob_7_1 G _) (fun a ha => ⟨upI_ne ha, fun _ => rfl⟩) d_Mo_init_8 (fun H locs hw => ?_)
  refine lv_aload_n hx hb d_Mo_init_11 rfl (lv_at hl 0 rfl) ?_
  refine lv_iconst (v := 4) hx hb d_Mo_init_12 (by decide) ?_
  refine m_cnewi (n := 70) (k := 29) (N := 4) hx hb (hts _ (List.mem_cons_of_mem _ tw_75)) hK hw hs (by decide) rfl (by decide) (by decide) rfl (by decide) rfl (by decide) (Nat.le_of_ble_eq_true rfl) (Nat.le_of_ble_eq_true rfl) d_Mo_init_13 (fun H hw => ?_)
  refine m_cputF (n := 71) (μ1 := z_41) (i := 68) (ci := 7) (v := .ref (G.2.1 0 + 70)) (ty := .array .int) (C := "RecipePlansModel") (T := T_Mo) (N := 24) hx hb hts (fun _ h9 => List.mem_cons_of_mem _ (inT_Mo _ h9)) ty_Mo tyok_Mo nm_Mo hown hK hw (by decide) (by decide) rfl (by decide) rfl 2 (by decide) (hts _ (List.mem_cons_of_mem _ tw_455)) (fun _ h9 => h9) rfl hin rfl (by decide +kernel) rfl rfl (Nat.le_of_ble_eq_true rfl) (ob_7_2 G _) (fun a ha => ⟨upI_ne ha, fun _ => rfl⟩) d_Mo_init_15 (fun H locs hw => ?_)
  refine lv_aload_n hx hb d_Mo_init_18 rfl (lv_at hl 0 rfl) ?_
  refine lv_bipush (v := 20) hx hb d_Mo_init_19 (by decide) ?_
  refine m_cnewi (n := 71) (k := 30) (N := 20) hx hb (hts _ (List.mem_cons_of_mem _ tw_75)) hK hw hs (by decide) rfl (by decide) (by decide) rfl (by decide) rfl (by decide) (Nat.le_of_ble_eq_true rfl) (Nat.le_of_ble_eq_true rfl) d_Mo_init_21 (fun H hw => ?_)
  refine m_cputF (n := 72) (μ1 := z_42) (i := 68) (ci := 7) (v := .ref (G.2.1 0 + 71)) (ty := .array .int) (C := "RecipePlansModel") (T := T_Mo) (N := 24) hx hb hts (fun _ h9 => List.mem_cons_of_mem _ (inT_Mo _ h9)) ty_Mo tyok_Mo nm_Mo hown hK hw (by decide) (by decide) rfl (by decide) rfl 3 (by decide) (hts _ (List.mem_cons_of_mem _ tw_456)) (fun _ h9 => h9) rfl hin rfl (by decide +kernel) rfl rfl (Nat.le_of_ble_eq_true rfl) (ob_7_3 G _) (fun a ha => ⟨upI_ne ha, fun _ => rfl⟩) d_Mo_init_23 (fun H locs hw => ?_)
  refine lv_aload_n hx hb d_Mo_init_26 rfl (lv_at hl 0 rfl) ?_
  refine lv_bipush (v := 8) hx hb d_Mo_init_27 (by decide) ?_
  refine m_cnewz (n := 72) (k := 14) (N := 8) hx hb (hts _ (List.mem_cons_of_mem _ tw_161)) hK hw hs (by decide) rfl (by decide) (by decide) rfl (by decide) rfl (by decide) (Nat.le_of_ble_eq_true rfl) (Nat.le_of_ble_eq_true rfl) d_Mo_init_29 (fun H hw => ?_)
  refine m_cputF (n := 73) (μ1 := z_43) (i := 68) (ci := 7) (v := .ref (G.2.1 0 + 72)) (ty := .array .boolean) (C := "RecipePlansModel") (T := T_Mo) (N := 24) hx hb hts (fun _ h9 => List.mem_cons_of_mem _ (inT_Mo _ h9)) ty_Mo tyok_Mo nm_Mo hown hK hw (by decide) (by decide) rfl (by decide) rfl 4 (by decide) (hts _ (List.mem_cons_of_mem _ tw_457)) (fun _ h9 => h9) rfl hin rfl (by decide +kernel) rfl rfl (Nat.le_of_ble_eq_true rfl) (ob_7_4 G _) (fun a ha => ⟨upI_ne ha, fun _ => rfl⟩) d_Mo_init_31 (fun H locs hw => ?_)
  refine lv_aload_n hx hb d_Mo_init_34 rfl (lv_at hl 0 rfl) ?_
  refine lv_bipush (v := 8) hx hb d_Mo_init_35 (by decide) ?_
  refine m_cnewi (n := 73) (k := 31) (N := 8) hx hb (hts _ (List.mem_cons_of_mem _ tw_75)) hK hw hs (by decide) rfl (by decide) (by decide) rfl (by decide) rfl (by decide) (Nat.le_of_ble_eq_true rfl) (Nat.le_of_ble_eq_true rfl) d_Mo_init_37 (fun H hw => ?_)
  refine m_cputF (n := 74) (μ1 := z_44) (i := 68) (ci := 7) (v := .ref (G.2.1 0 + 73)) (ty := .array .int) (C := "RecipePlansModel") (T := T_Mo) (N := 24) hx hb hts (fun _ h9 => List.mem_cons_of_mem _ (inT_Mo _ h9)) ty_Mo tyok_Mo nm_Mo hown hK hw (by decide) (by decide) rfl (by decide) rfl 5 (by decide) (hts _ (List.mem_cons_of_mem _ tw_458)) (fun _ h9 => h9) rfl hin rfl (by decide +kernel) rfl rfl (Nat.le_of_ble_eq_true rfl) (ob_7_5 G _) (fun a ha => ⟨upI_ne ha, fun _ => rfl⟩) d_Mo_init_39 (fun H locs hw => ?_)
  refine lv_aload_n hx hb d_Mo_init_42 rfl (lv_at hl 0 rfl) ?_
  refine lv_bipush (v := 8) hx hb d_Mo_init_43 (by decide) ?_
  refine m_cnewi (n := 74) (k := 32) (N := 8) hx hb (hts _ (List.mem_cons_of_mem _ tw_75)) hK hw hs (by decide) rfl (by decide) (by decide) rfl (by decide) rfl (by decide) (Nat.le_of_ble_eq_true rfl) (Nat.le_of_ble_eq_true rfl) d_Mo_init_45 (fun H hw => ?_)
  refine m_cputF (n := 75) (μ1 := z_45) (i := 68) (ci := 7) (v := .ref (G.2.1 0 + 74)) (ty := .array .int) (C := "RecipePlansModel") (T := T_Mo) (N := 24) hx hb hts (fun _ h9 => List.mem_cons_of_mem _ (inT_Mo _ h9)) ty_Mo tyok_Mo nm_Mo hown hK hw (by decide) (by decide) rfl (by decide) rfl 6 (by decide) (hts _ (List.mem_cons_of_mem _ tw_459)) (fun _ h9 => h9) rfl hin rfl (by decide +kernel) rfl rfl (Nat.le_of_ble_eq_true rfl) (ob_7_6 G _) (fun a ha => ⟨upI_ne ha, fun _ => rfl⟩) d_Mo_init_47 (fun H locs hw => ?_)
  refine lv_aload_n hx hb d_Mo_init_50 rfl (lv_at hl 0 rfl) ?_
  refine lv_bipush (v := 8) hx hb d_Mo_init_51 (by decide) ?_
  refine m_cnewi (n := 75) (k := 33) (N := 8) hx hb (hts _ (List.mem_cons_of_mem _ tw_75)) hK hw hs (by decide) rfl (by decide) (by decide) rfl (by decide) rfl (by decide) (Nat.le_of_ble_eq_true rfl) (Nat.le_of_ble_eq_true rfl) d_Mo_init_53 (fun H hw => ?_)
  refine m_cputF (n := 76) (μ1 := z_46) (i := 68) (ci := 7) (v := .ref (G.2.1 0 + 75)) (ty := .array .int) (C := "RecipePlansModel") (T := T_Mo) (N := 24) hx hb hts (fun _ h9 => List.mem_cons_of_mem _ (inT_Mo _ h9)) ty_Mo tyok_Mo nm_Mo hown hK hw (by decide) (by decide) rfl (by decide) rfl 7 (by decide) (hts _ (List.mem_cons_of_mem _ tw_460)) (fun _ h9 => h9) rfl hin rfl (by decide +kernel) rfl rfl (Nat.le_of_ble_eq_true rfl) (ob_7_7 G _) (fun a ha => ⟨upI_ne ha, fun _ => rfl⟩) d_Mo_init_55 (fun H locs hw => ?_)
  refine lv_aload_n hx hb d_Mo_init_58 rfl (lv_at hl 0 rfl) ?_
  refine lv_bipush (v := 8) hx hb d_Mo_init_59 (by decide) ?_
  refine m_cnewi (n := 76) (k := 34) (N := 8) hx hb (hts _ (List.mem_cons_of_mem _ tw_75)) hK hw hs (by decide) rfl (by decide) (by decide) rfl (by decide) rfl (by decide) (Nat.le_of_ble_eq_true rfl) (Nat.le_of_ble_eq_true rfl) d_Mo_init_61 (fun H hw => ?_)
  refine m_cputF (n := 77) (μ1 := z_47) (i := 68) (ci := 7) (v := .ref (G.2.1 0 + 76)) (ty := .array .int) (C := "RecipePlansModel") (T := T_Mo) (N := 24) hx hb hts (fun _ h9 => List.mem_cons_of_mem _ (inT_Mo _ h9)) ty_Mo tyok_Mo nm_Mo hown hK hw (by decide) (by decide) rfl (by decide) rfl 8 (by decide) (hts _ (List.mem_cons_of_mem _ tw_461)) (fun _ h9 => h9) rfl hin rfl (by decide +kernel) rfl rfl (Nat.le_of_ble_eq_true rfl) (ob_7_8 G _) (fun a ha => ⟨upI_ne ha, fun _ => rfl⟩) d_Mo_init_63 (fun H locs hw => ?_)
  refine lv_aload_n hx hb d_Mo_init_66 rfl (lv_at hl 0 rfl) ?_
  refine lv_bipush (v := 8) hx hb d_Mo_init_67 (by decide) ?_
  refine m_cnewi (n := 77) (k := 35) (N := 8) hx hb (hts _ (List.mem_cons_of_mem _ tw_75)) hK hw hs (by decide) rfl (by decide) (by decide) rfl (by decide) rfl (by decide) (Nat.le_of_ble_eq_true rfl) (Nat.le_of_ble_eq_true rfl) d_Mo_init_69 (fun H hw => ?_)
  refine m_cputF (n := 78) (μ1 := z_48) (i := 68) (ci := 7) (v := .ref (G.2.1 0 + 77)) (ty := .array .int) (C := "RecipePlansModel") (T := T_Mo) (N := 24) hx hb hts (fun _ h9 => List.mem_cons_of_mem _ (inT_Mo _ h9)) ty_Mo tyok_Mo nm_Mo hown hK hw (by decide) (by decide) rfl (by decide) rfl 9 (by decide) (hts _ (List.mem_cons_of_mem _ tw_462)) (fun _ h9 => h9) rfl hin rfl (by decide +kernel) rfl rfl (Nat.le_of_ble_eq_true rfl) (ob_7_9 G _) (fun a ha => ⟨upI_ne ha, fun _ => rfl⟩) d_Mo_init_71 (fun H locs hw => ?_)
  refine lv_aload_n hx hb d_Mo_init_74 rfl (lv_at hl 0 rfl) ?_
  refine lv_iconst (v := 3) hx hb d_Mo_init_75 (by decide) ?_
  refine m_cputI (n := 78) (μ1 := z_49) (i := 68) (ci := 7) (v := .int 3) (ty := .int) (C := "RecipePlansModel") (T := T_Mo) (N := 24) hx hb hts (fun _ h9 => List.mem_cons_of_mem _ (inT_Mo _ h9)) ty_Mo tyok_Mo nm_Mo hown hK hw (by decide) (by decide) rfl (by decide) rfl 10 (by decide) (hts _ (List.mem_cons_of_mem _ tw_463)) (fun _ h9 => h9) rfl (by decide +kernel) rfl rfl (Nat.le_of_ble_eq_true rfl) (by simp [obK, rfc, z_49, upI]) (fun a ha => ⟨upI_ne ha, fun _ => rfl⟩) d_Mo_init_76 (fun H locs hw => ?_)
  refine lv_aload_n hx hb d_Mo_init_79 rfl (lv_at hl 0 rfl) ?_
  refine lv_iconst (v := 4) hx hb d_Mo_init_80 (by decide) ?_
  refine m_cnewi (n := 78) (k := 36) (N := 4) hx hb (hts _ (List.mem_cons_of_mem _ tw_75)) hK hw hs (by decide) rfl (by decide) (by decide) rfl (by decide) rfl (by decide) (Nat.le_of_ble_eq_true rfl) (Nat.le_of_ble_eq_true rfl) d_Mo_init_81 (fun H hw => ?_)
  refine m_cputF (n := 79) (μ1 := z_50) (i := 68) (ci := 7) (v := .ref (G.2.1 0 + 78)) (ty := .array .int) (C := "RecipePlansModel") (T := T_Mo) (N := 24) hx hb hts (fun _ h9 => List.mem_cons_of_mem _ (inT_Mo _ h9)) ty_Mo tyok_Mo nm_Mo hown hK hw (by decide) (by decide) rfl (by decide) rfl 12 (by decide) (hts _ (List.mem_cons_of_mem _ tw_465)) (fun _ h9 => h9) rfl hin rfl (by decide +kernel) rfl rfl (Nat.le_of_ble_eq_true rfl) (ob_7_12 G _) (fun a ha => ⟨upI_ne ha, fun _ => rfl⟩) d_Mo_init_83 (fun H locs hw => ?_)
  refine lv_aload_n hx hb d_Mo_init_86 rfl (lv_at hl 0 rfl) ?_
  refine lv_iconst (v := 4) hx hb d_Mo_init_87 (by decide) ?_
  refine m_cnewi (n := 79) (k := 37) (N := 4) hx hb (hts _ (List.mem_cons_of_mem _ tw_75)) hK hw hs (by decide) rfl (by decide) (by decide) rfl (by decide) rfl (by decide) (Nat.le_of_ble_eq_true rfl) (Nat.le_of_ble_eq_true rfl) d_Mo_init_88 (fun H hw => ?_)
  refine m_cputF (n := 80) (μ1 := z_51) (i := 68) (ci := 7) (v := .ref (G.2.1 0 + 79)) (ty := .array .int) (C := "RecipePlansModel") (T := T_Mo) (N := 24) hx hb hts (fun _ h9 => List.mem_cons_of_mem _ (inT_Mo _ h9)) ty_Mo tyok_Mo nm_Mo hown hK hw (by decide) (by decide) rfl (by decide) rfl 17 (by decide) (hts _ (List.mem_cons_of_mem _ tw_470)) (fun _ h9 => h9) rfl hin rfl (by decide +kernel) rfl rfl (Nat.le_of_ble_eq_true rfl) (ob_7_17 G _) (fun a ha => ⟨upI_ne ha, fun _ => rfl⟩) d_Mo_init_90 (fun H locs hw => ?_)
  refine lv_aload_n hx hb d_Mo_init_93 rfl (lv_at hl 0 rfl) ?_
  refine lv_bipush (v := 120) hx hb d_Mo_init_94 (by decide) ?_
  refine m_cnewi (n := 80) (k := 38) (N := 120) hx hb (hts _ (List.mem_cons_of_mem _ tw_75)) hK hw hs (by decide) rfl (by decide) (by decide) rfl (by decide) rfl (by decide) (Nat.le_of_ble_eq_true rfl) (Nat.le_of_ble_eq_true rfl) d_Mo_init_96 (fun H hw => ?_)
  refine m_cputF (n := 81) (μ1 := z_52) (i := 68) (ci := 7) (v := .ref (G.2.1 0 + 80)) (ty := .array .int) (C := "RecipePlansModel") (T := T_Mo) (N := 24) hx hb hts (fun _ h9 => List.mem_cons_of_mem _ (inT_Mo _ h9)) ty_Mo tyok_Mo nm_Mo hown hK hw (by decide) (by decide) rfl (by decide) rfl 18 (by decide) (hts _ (List.mem_cons_of_mem _ tw_471)) (fun _ h9 => h9) rfl hin rfl (by decide +kernel) rfl rfl (Nat.le_of_ble_eq_true rfl) (ob_7_18 G _) (fun a ha => ⟨upI_ne ha, fun _ => rfl⟩) d_Mo_init_98 (fun H locs hw => ?_)
  refine lv_aload_n hx hb d_Mo_init_101 rfl (lv_at hl 0 rfl) ?_
  refine lv_bipush (v := 24) hx hb d_Mo_init_102 (by decide) ?_
  refine m_cnewz (n := 81) (k := 15) (N := 24) hx hb (hts _ (List.mem_cons_of_mem _ tw_161)) hK hw hs (by decide) rfl (by decide) (by decide) rfl (by decide) rfl (by decide) (Nat.le_of_ble_eq_true rfl) (Nat.le_of_ble_eq_true rfl) d_Mo_init_104 (fun H hw => ?_)
  refine m_cputF (n := 82) (μ1 := z_53) (i := 68) (ci := 7) (v := .ref (G.2.1 0 + 81)) (ty := .array .boolean) (C := "RecipePlansModel") (T := T_Mo) (N := 24) hx hb hts (fun _ h9 => List.mem_cons_of_mem _ (inT_Mo _ h9)) ty_Mo tyok_Mo nm_Mo hown hK hw (by decide) (by decide) rfl (by decide) rfl 19 (by decide) (hts _ (List.mem_cons_of_mem _ tw_472)) (fun _ h9 => h9) rfl hin rfl (by decide +kernel) rfl rfl (Nat.le_of_ble_eq_true rfl) (ob_7_19 G _) (fun a ha => ⟨upI_ne ha, fun _ => rfl⟩) d_Mo_init_106 (fun H locs hw => ?_)
  refine lv_aload_n hx hb d_Mo_init_109 rfl (lv_at hl 0 rfl) ?_
  refine lv_iconst (v := 4) hx hb d_Mo_init_110 (by decide) ?_
  refine m_cnewi (n := 82) (k := 39) (N := 4) hx hb (hts _ (List.mem_cons_of_mem _ tw_75)) hK hw hs (by decide) rfl (by decide) (by decide) rfl (by decide) rfl (by decide) (Nat.le_of_ble_eq_true rfl) (Nat.le_of_ble_eq_true rfl) d_Mo_init_111 (fun H hw => ?_)
  refine m_cputF (n := 83) (μ1 := z_54) (i := 68) (ci := 7) (v := .ref (G.2.1 0 + 82)) (ty := .array .int) (C := "RecipePlansModel") (T := T_Mo) (N := 24) hx hb hts (fun _ h9 => List.mem_cons_of_mem _ (inT_Mo _ h9)) ty_Mo tyok_Mo nm_Mo hown hK hw (by decide) (by decide) rfl (by decide) rfl 20 (by decide) (hts _ (List.mem_cons_of_mem _ tw_473)) (fun _ h9 => h9) rfl hin rfl (by decide +kernel) rfl rfl (Nat.le_of_ble_eq_true rfl) (ob_7_20 G _) (fun a ha => ⟨upI_ne ha, fun _ => rfl⟩) d_Mo_init_113 (fun H locs hw => ?_)
  refine lv_aload_n hx hb d_Mo_init_116 rfl (lv_at hl 0 rfl) ?_
  refine lv_iconst (v := 4) hx hb d_Mo_init_117 (by decide) ?_
  refine m_cnewj (n := 83) (k := 46) (N := 4) hx hb (hts _ (List.mem_cons_of_mem _ tw_76)) hK hw hs (by decide) rfl (by decide) rfl (by decide) rfl (by decide) (Nat.le_of_ble_eq_true rfl) (Nat.le_of_ble_eq_true rfl) d_Mo_init_118 (fun H hw => ?_)
  refine m_cputF (n := 84) (μ1 := z_55) (i := 68) (ci := 7) (v := .ref (G.2.1 0 + 83)) (ty := .array .long) (C := "RecipePlansModel") (T := T_Mo) (N := 24) hx hb hts (fun _ h9 => List.mem_cons_of_mem _ (inT_Mo _ h9)) ty_Mo tyok_Mo nm_Mo hown hK hw (by decide) (by decide) rfl (by decide) rfl 21 (by decide) (hts _ (List.mem_cons_of_mem _ tw_474)) (fun _ h9 => h9) rfl hin rfl (by decide +kernel) rfl rfl (Nat.le_of_ble_eq_true rfl) (ob_7_21 G _) (fun a ha => ⟨upI_ne ha, fun _ => rfl⟩) d_Mo_init_120 (fun H locs hw => ?_)
  refine lv_aload_n hx hb d_Mo_init_123 rfl (lv_at hl 0 rfl) ?_
  refine lv_sipush (v := 256) hx hb d_Mo_init_124 (by decide) ?_
  refine m_cnewz (n := 84) (k := 16) (N := 256) hx hb (hts _ (List.mem_cons_of_mem _ tw_161)) hK hw hs (by decide) rfl (by decide) (by decide) rfl (by decide) rfl (by decide) (Nat.le_of_ble_eq_true rfl) (Nat.le_of_ble_eq_true rfl) d_Mo_init_127 (fun H hw => ?_)
  refine m_cputF (n := 85) (μ1 := z_56) (i := 68) (ci := 7) (v := .ref (G.2.1 0 + 84)) (ty := .array .boolean) (C := "RecipePlansModel") (T := T_Mo) (N := 24) hx hb hts (fun _ h9 => List.mem_cons_of_mem _ (inT_Mo _ h9)) ty_Mo tyok_Mo nm_Mo hown hK hw (by decide) (by decide) rfl (by decide) rfl 23 (by decide) (hts _ (List.mem_cons_of_mem _ tw_476)) (fun _ h9 => h9) rfl hin rfl (by decide +kernel) rfl rfl (Nat.le_of_ble_eq_true rfl) (ob_7_23 G _) (fun a ha => ⟨upI_ne ha, fun _ => rfl⟩) d_Mo_init_129 (fun H locs hw => ?_)
  refine W.cs (cells' := 16) (slots' := 492) rfl rfl ?_
  exact m_cvret hx hb hr hlk hw d_Mo_init_132
end
