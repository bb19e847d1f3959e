def T_RP : u_T := fun k => match k with
  | 0 => ("RecipePlans", "lots", "LRecipePlans$Lots;", true)
  | 1 => ("RecipePlans", "rules", "LRecipePlans$Rules;", true)
  | 2 => ("RecipePlans", "sides", "LRecipePlans$Sides;", true)
  | 3 => ("RecipePlans", "cuts", "LRecipePlans$CutSearch;", true)
  | 4 => ("RecipePlans", "wholes", "LRecipePlans$WholeSearch;", true)
  | 5 => ("RecipePlans", "found", "LRecipePlans$Found;", true)
  | 6 => ("RecipePlans", "point", "[J", true)
  | _ => ("RecipePlans", "held", "[J", true)
def ty_RP : Nat → FieldType := fun k => match k with
  | 0 => .object "RecipePlans$Lots"
  | 1 => .object "RecipePlans$Rules"
  | 2 => .object "RecipePlans$Sides"
  | 3 => .object "RecipePlans$CutSearch"
  | 4 => .object "RecipePlans$WholeSearch"
  | 5 => .object "RecipePlans$Found"
  | 6 => .array .long
  | _ => .array .long
set_option maxRecDepth 100000 in
theorem nm_RP : ∀ a, a < 8 → ∀ b, b < 8 → a ≠ b → (T_RP a).2.1 ≠ (T_RP b).2.1 := by decide +kernel
set_option maxRecDepth 100000 in
theorem tyok_RP : ∀ k, k < 8 → parseFieldDescriptor (T_RP k).2.2.1 = some (ty_RP k) := by decide +kernel
set_option maxRecDepth 100000 in
theorem inT_RP : ∀ w ∈ u_ws "RecipePlans" T_RP 8, w ∈ wsAll := by decide +kernel
def T_Lo : u_T := fun k => match k with
  | 0 => ("RecipePlans$Lots", "count", "I", false)
  | 1 => ("RecipePlans$Lots", "stock", "[I", true)
  | 2 => ("RecipePlans$Lots", "cents", "[J", true)
  | _ => ("RecipePlans$Lots", "forms", "[[J", true)
def ty_Lo : Nat → FieldType := fun k => match k with
  | 0 => .int
  | 1 => .array .int
  | 2 => .array .long
  | _ => .array (.array .long)
set_option maxRecDepth 100000 in
theorem nm_Lo : ∀ a, a < 4 → ∀ b, b < 4 → a ≠ b → (T_Lo a).2.1 ≠ (T_Lo b).2.1 := by decide +kernel
set_option maxRecDepth 100000 in
theorem tyok_Lo : ∀ k, k < 4 → parseFieldDescriptor (T_Lo k).2.2.1 = some (ty_Lo k) := by decide +kernel
set_option maxRecDepth 100000 in
theorem inT_Lo : ∀ w ∈ u_ws "RecipePlans$Lots" T_Lo 4, w ∈ wsAll := by decide +kernel
def T_Ru : u_T := fun k => match k with
  | 0 => ("RecipePlans$Rules", "told", "I", false)
  | 1 => ("RecipePlans$Rules", "first", "[I", true)
  | 2 => ("RecipePlans$Rules", "second", "[I", true)
  | 3 => ("RecipePlans$Rules", "low", "[I", true)
  | 4 => ("RecipePlans$Rules", "high", "[I", true)
  | _ => ("RecipePlans$Rules", "over", "[I", true)
def ty_Ru : Nat → FieldType := fun k => match k with
  | 0 => .int
  | 1 => .array .int
  | 2 => .array .int
  | 3 => .array .int
  | 4 => .array .int
  | _ => .array .int
set_option maxRecDepth 100000 in
theorem nm_Ru : ∀ a, a < 6 → ∀ b, b < 6 → a ≠ b → (T_Ru a).2.1 ≠ (T_Ru b).2.1 := by decide +kernel
set_option maxRecDepth 100000 in
theorem tyok_Ru : ∀ k, k < 6 → parseFieldDescriptor (T_Ru k).2.2.1 = some (ty_Ru k) := by decide +kernel
set_option maxRecDepth 100000 in
theorem inT_Ru : ∀ w ∈ u_ws "RecipePlans$Rules" T_Ru 6, w ∈ wsAll := by decide +kernel
def T_Si : u_T := fun k => match k with
  | 0 => ("RecipePlans$Sides", "count", "I", false)
  | 1 => ("RecipePlans$Sides", "rule", "[I", true)
  | _ => ("RecipePlans$Sides", "row", "[[J", true)
def ty_Si : Nat → FieldType := fun k => match k with
  | 0 => .int
  | 1 => .array .int
  | _ => .array (.array .long)
set_option maxRecDepth 100000 in
theorem nm_Si : ∀ a, a < 3 → ∀ b, b < 3 → a ≠ b → (T_Si a).2.1 ≠ (T_Si b).2.1 := by decide +kernel
set_option maxRecDepth 100000 in
theorem tyok_Si : ∀ k, k < 3 → parseFieldDescriptor (T_Si k).2.2.1 = some (ty_Si k) := by decide +kernel
set_option maxRecDepth 100000 in
theorem inT_Si : ∀ w ∈ u_ws "RecipePlans$Sides" T_Si 3, w ∈ wsAll := by decide +kernel
def T_CS : u_T := fun k => match k with
  | 0 => ("RecipePlans$CutSearch", "lots", "LRecipePlans$Lots;", true)
  | 1 => ("RecipePlans$CutSearch", "rules", "LRecipePlans$Rules;", true)
  | 2 => ("RecipePlans$CutSearch", "sides", "LRecipePlans$Sides;", true)
  | 3 => ("RecipePlans$CutSearch", "minors", "[[J", true)
  | 4 => ("RecipePlans$CutSearch", "point", "[J", true)
  | 5 => ("RecipePlans$CutSearch", "held", "[J", true)
  | 6 => ("RecipePlans$CutSearch", "seen", "[Z", true)
  | 7 => ("RecipePlans$CutSearch", "breaks", "[I", true)
  | 8 => ("RecipePlans$CutSearch", "breakCount", "I", false)
  | 9 => ("RecipePlans$CutSearch", "open", "I", false)
  | 10 => ("RecipePlans$CutSearch", "suits", "Z", false)
  | 11 => ("RecipePlans$CutSearch", "above", "J", false)
  | _ => ("RecipePlans$CutSearch", "below", "J", false)
def ty_CS : Nat → FieldType := fun k => match k with
  | 0 => .object "RecipePlans$Lots"
  | 1 => .object "RecipePlans$Rules"
  | 2 => .object "RecipePlans$Sides"
  | 3 => .array (.array .long)
  | 4 => .array .long
  | 5 => .array .long
  | 6 => .array .boolean
  | 7 => .array .int
  | 8 => .int
  | 9 => .int
  | 10 => .boolean
  | 11 => .long
  | _ => .long
set_option maxRecDepth 100000 in
theorem nm_CS : ∀ a, a < 13 → ∀ b, b < 13 → a ≠ b → (T_CS a).2.1 ≠ (T_CS b).2.1 := by decide +kernel
set_option maxRecDepth 100000 in
theorem tyok_CS : ∀ k, k < 13 → parseFieldDescriptor (T_CS k).2.2.1 = some (ty_CS k) := by decide +kernel
set_option maxRecDepth 100000 in
theorem inT_CS : ∀ w ∈ u_ws "RecipePlans$CutSearch" T_CS 13, w ∈ wsAll := by decide +kernel
def T_WS : u_T := fun k => match k with
  | 0 => ("RecipePlans$WholeSearch", "lots", "LRecipePlans$Lots;", true)
  | 1 => ("RecipePlans$WholeSearch", "sides", "LRecipePlans$Sides;", true)
  | 2 => ("RecipePlans$WholeSearch", "value", "[[J", true)
  | 3 => ("RecipePlans$WholeSearch", "reach", "[[J", true)
  | 4 => ("RecipePlans$WholeSearch", "least", "[J", true)
  | 5 => ("RecipePlans$WholeSearch", "taken", "[I", true)
  | 6 => ("RecipePlans$WholeSearch", "suits", "Z", false)
  | 7 => ("RecipePlans$WholeSearch", "total", "J", false)
  | _ => ("RecipePlans$WholeSearch", "mix", "[I", true)
def ty_WS : Nat → FieldType := fun k => match k with
  | 0 => .object "RecipePlans$Lots"
  | 1 => .object "RecipePlans$Sides"
  | 2 => .array (.array .long)
  | 3 => .array (.array .long)
  | 4 => .array .long
  | 5 => .array .int
  | 6 => .boolean
  | 7 => .long
  | _ => .array .int
set_option maxRecDepth 100000 in
theorem nm_WS : ∀ a, a < 9 → ∀ b, b < 9 → a ≠ b → (T_WS a).2.1 ≠ (T_WS b).2.1 := by decide +kernel
set_option maxRecDepth 100000 in
theorem tyok_WS : ∀ k, k < 9 → parseFieldDescriptor (T_WS k).2.2.1 = some (ty_WS k) := by decide +kernel
set_option maxRecDepth 100000 in
theorem inT_WS : ∀ w ∈ u_ws "RecipePlans$WholeSearch" T_WS 9, w ∈ wsAll := by decide +kernel
def T_Fo : u_T := fun k => match k with
  | 0 => ("RecipePlans$Found", "whole", "Z", false)
  | 1 => ("RecipePlans$Found", "lots", "I", false)
  | 2 => ("RecipePlans$Found", "mix", "[I", true)
  | 3 => ("RecipePlans$Found", "total", "J", false)
  | 4 => ("RecipePlans$Found", "cuttable", "Z", false)
  | 5 => ("RecipePlans$Found", "above", "J", false)
  | 6 => ("RecipePlans$Found", "below", "J", false)
  | _ => ("RecipePlans$Found", "clashing", "I", false)
def ty_Fo : Nat → FieldType := fun k => match k with
  | 0 => .boolean
  | 1 => .int
  | 2 => .array .int
  | 3 => .long
  | 4 => .boolean
  | 5 => .long
  | 6 => .long
  | _ => .int
set_option maxRecDepth 100000 in
theorem nm_Fo : ∀ a, a < 8 → ∀ b, b < 8 → a ≠ b → (T_Fo a).2.1 ≠ (T_Fo b).2.1 := by decide +kernel
set_option maxRecDepth 100000 in
theorem tyok_Fo : ∀ k, k < 8 → parseFieldDescriptor (T_Fo k).2.2.1 = some (ty_Fo k) := by decide +kernel
set_option maxRecDepth 100000 in
theorem inT_Fo : ∀ w ∈ u_ws "RecipePlans$Found" T_Fo 8, w ∈ wsAll := by decide +kernel
def T_Mo : u_T := fun k => match k with
  | 0 => ("RecipePlansModel", "lots", "I", false)
  | 1 => ("RecipePlansModel", "stocks", "[I", true)
  | 2 => ("RecipePlansModel", "cents", "[I", true)
  | 3 => ("RecipePlansModel", "amounts", "[I", true)
  | 4 => ("RecipePlansModel", "told", "[Z", true)
  | 5 => ("RecipePlansModel", "lows", "[I", true)
  | 6 => ("RecipePlansModel", "highs", "[I", true)
  | 7 => ("RecipePlansModel", "overs", "[I", true)
  | 8 => ("RecipePlansModel", "firsts", "[I", true)
  | 9 => ("RecipePlansModel", "seconds", "[I", true)
  | 10 => ("RecipePlansModel", "found", "I", false)
  | 11 => ("RecipePlansModel", "foundLots", "I", false)
  | 12 => ("RecipePlansModel", "best", "[I", true)
  | 13 => ("RecipePlansModel", "bestCost", "J", false)
  | 14 => ("RecipePlansModel", "cutOver", "J", false)
  | 15 => ("RecipePlansModel", "cutUnder", "J", false)
  | 16 => ("RecipePlansModel", "clashSet", "I", false)
  | 17 => ("RecipePlansModel", "mix", "[I", true)
  | 18 => ("RecipePlansModel", "limits", "[I", true)
  | 19 => ("RecipePlansModel", "isLimit", "[Z", true)
  | 20 => ("RecipePlansModel", "corner", "[I", true)
  | 21 => ("RecipePlansModel", "over", "[J", true)
  | 22 => ("RecipePlansModel", "under", "J", false)
  | _ => ("RecipePlansModel", "kept", "[Z", true)
def ty_Mo : Nat → FieldType := fun k => match k with
  | 0 => .int
  | 1 => .array .int
  | 2 => .array .int
  | 3 => .array .int
  | 4 => .array .boolean
  | 5 => .array .int
  | 6 => .array .int
  | 7 => .array .int
  | 8 => .array .int
  | 9 => .array .int
  | 10 => .int
  | 11 => .int
  | 12 => .array .int
  | 13 => .long
  | 14 => .long
  | 15 => .long
  | 16 => .int
  | 17 => .array .int
  | 18 => .array .int
  | 19 => .array .boolean
  | 20 => .array .int
  | 21 => .array .long
  | 22 => .long
  | _ => .array .boolean
set_option maxRecDepth 100000 in
theorem nm_Mo : ∀ a, a < 24 → ∀ b, b < 24 → a ≠ b → (T_Mo a).2.1 ≠ (T_Mo b).2.1 := by decide +kernel
set_option maxRecDepth 100000 in
theorem tyok_Mo : ∀ k, k < 24 → parseFieldDescriptor (T_Mo k).2.2.1 = some (ty_Mo k) := by decide +kernel
set_option maxRecDepth 100000 in
theorem inT_Mo : ∀ w ∈ u_ws "RecipePlansModel" T_Mo 24, w ∈ wsAll := by decide +kernel
abbrev vwCl : List vw_C := [("RecipePlans", T_RP, 8), ("RecipePlans$Lots", T_Lo, 4), ("RecipePlans$Rules", T_Ru, 6), ("RecipePlans$Sides", T_Si, 3), ("RecipePlans$CutSearch", T_CS, 13), ("RecipePlans$WholeSearch", T_WS, 9), ("RecipePlans$Found", T_Fo, 8), ("RecipePlansModel", T_Mo, 24)]
theorem ws_good : ∀ w ∈ wsAll, goodWord w = true := by decide +kernel
theorem gd0 {c cg : Cond} (h : cg ∈ wsAll) : GoodIn (c :: wsAll) (cg :: wsAll) := fun w hw => by
  have hm : w ∈ wsAll := by
    rcases List.mem_cons.mp hw with rfl | h1
    · exact h
    · exact h1
  exact ⟨List.mem_cons_of_mem _ hm, good_of_word (ws_good w hm)⟩
theorem gd1 {c : Cond} {l : List Cond} (h : ∀ w ∈ l, w ∈ wsAll) : GoodIn (c :: wsAll) l := fun w hw => ⟨List.mem_cons_of_mem _ (h w hw), good_of_word (ws_good w (h w hw))⟩
theorem gdV {c cg : Cond} {own C : String} {idx : Nat} {y : MethodName} (h1 : Cond.methodLink own idx y ∈ wsAll) (h2 : Cond.instanceMethod y ∈ wsAll) (h3 : Cond.selects C y y ∈ wsAll) (h4 : Cond.initialized C ∈ wsAll) (h5 : cg ∈ wsAll) : GoodIn (c :: wsAll) (wsV own idx C y (cg :: wsAll)) := gd1 (fun w hw => by
  simp only [wsV, List.mem_append, List.mem_cons, List.not_mem_nil, or_false] at hw
  rcases hw with (rfl | rfl | rfl | rfl) | rfl | h
  · exact h1
  · exact h2
  · exact h3
  · exact h4
  · exact h5
  · exact h)
theorem gdS {c cg : Cond} {own : String} {idx : Nat} {y : MethodName} (h1 : Cond.methodLink own idx y ∈ wsAll) (h2 : Cond.static y ∈ wsAll) (h4 : Cond.initialized y.cls ∈ wsAll) (h5 : cg ∈ wsAll) : GoodIn (c :: wsAll) (va_wsS own idx y (cg :: wsAll)) := gd1 (fun w hw => by
  simp only [va_wsS, List.mem_append, List.mem_cons, List.not_mem_nil, or_false] at hw
  rcases hw with (rfl | rfl | rfl) | rfl | h
  · exact h1
  · exact h2
  · exact h4
  · exact h5
  · exact h)
abbrev y_RP_init : MethodName := ⟨"RecipePlans", "<init>", "()V"⟩
abbrev ws_RP_init : List Cond := .code y_RP_init prog_1_method_1_code 1 none :: wsAll
abbrev y_RP_lot : MethodName := ⟨"RecipePlans", "lot", "(IJ)I"⟩
abbrev ws_RP_lot : List Cond := .code y_RP_lot prog_1_method_2_code 5 (some .int) :: wsAll
abbrev y_RP_amount : MethodName := ⟨"RecipePlans", "amount", "(III)Z"⟩
abbrev ws_RP_amount : List Cond := .code y_RP_amount prog_1_method_3_code 4 (some .boolean) :: wsAll
abbrev y_RP_span : MethodName := ⟨"RecipePlans", "span", "(III)Z"⟩
abbrev ws_RP_span : List Cond := .code y_RP_span prog_1_method_4_code 4 (some .boolean) :: wsAll
abbrev y_RP_ratio : MethodName := ⟨"RecipePlans", "ratio", "(IIIIII)Z"⟩
abbrev ws_RP_ratio : List Cond := .code y_RP_ratio prog_1_method_5_code 7 (some .boolean) :: wsAll
abbrev y_RP_loads : MethodName := ⟨"RecipePlans", "loads", "(II)Z"⟩
abbrev ws_RP_loads : List Cond := .code y_RP_loads prog_1_method_6_code 3 (some .boolean) :: wsAll
abbrev y_RP_untell : MethodName := ⟨"RecipePlans", "untell", "(I)Z"⟩
abbrev ws_RP_untell : List Cond := .code y_RP_untell prog_1_method_7_code 2 (some .boolean) :: wsAll
abbrev y_RP_run : MethodName := ⟨"RecipePlans", "run", "()I"⟩
abbrev ws_RP_run : List Cond := .code y_RP_run prog_1_method_8_code 1 (some .int) :: wsAll
abbrev y_RP_best : MethodName := ⟨"RecipePlans", "best", "(I)I"⟩
abbrev ws_RP_best : List Cond := .code y_RP_best prog_1_method_9_code 2 (some .int) :: wsAll
abbrev y_RP_cost : MethodName := ⟨"RecipePlans", "cost", "()J"⟩
abbrev ws_RP_cost : List Cond := .code y_RP_cost prog_1_method_10_code 1 (some .long) :: wsAll
abbrev y_RP_cut : MethodName := ⟨"RecipePlans", "cut", "(I)J"⟩
abbrev ws_RP_cut : List Cond := .code y_RP_cut prog_1_method_11_code 2 (some .long) :: wsAll
abbrev y_RP_clashes : MethodName := ⟨"RecipePlans", "clashes", "()I"⟩
abbrev ws_RP_clashes : List Cond := .code y_RP_clashes prog_1_method_12_code 1 (some .int) :: wsAll
abbrev y_RP_clash : MethodName := ⟨"RecipePlans", "clash", "(I)Z"⟩
abbrev ws_RP_clash : List Cond := .code y_RP_clash prog_1_method_13_code 2 (some .boolean) :: wsAll
abbrev y_RP_broken : MethodName := ⟨"RecipePlans", "broken", "(IIII)I"⟩
abbrev ws_RP_broken : List Cond := .code y_RP_broken prog_1_method_14_code 6 (some .int) :: wsAll
abbrev y_RP_within : MethodName := ⟨"RecipePlans", "within", "(JJJ)Z"⟩
abbrev ws_RP_within : List Cond := .code y_RP_within prog_1_method_15_code 6 (some .boolean) :: wsAll
abbrev y_RP_isRange : MethodName := ⟨"RecipePlans", "isRange", "(IIII)Z"⟩
abbrev ws_RP_isRange : List Cond := .code y_RP_isRange prog_1_method_16_code 4 (some .boolean) :: wsAll
abbrev y_RP_isWhat : MethodName := ⟨"RecipePlans", "isWhat", "(I)Z"⟩
abbrev ws_RP_isWhat : List Cond := .code y_RP_isWhat prog_1_method_17_code 1 (some .boolean) :: wsAll
abbrev y_RP_hasBit : MethodName := ⟨"RecipePlans", "hasBit", "(II)Z"⟩
abbrev ws_RP_hasBit : List Cond := .code y_RP_hasBit prog_1_method_18_code 2 (some .boolean) :: wsAll
abbrev y_Mo_init : MethodName := ⟨"RecipePlansModel", "<init>", "()V"⟩
abbrev ws_Mo_init : List Cond := .code y_Mo_init prog_9_method_1_code 1 none :: wsAll
abbrev y_Mo_isIn : MethodName := ⟨"RecipePlansModel", "isIn", "(JJJ)Z"⟩
abbrev ws_Mo_isIn : List Cond := .code y_Mo_isIn prog_9_method_3_code 6 (some .boolean) :: wsAll
abbrev y_Mo_isWhat : MethodName := ⟨"RecipePlansModel", "isWhat", "(I)Z"⟩
abbrev ws_Mo_isWhat : List Cond := .code y_Mo_isWhat prog_9_method_4_code 1 (some .boolean) :: wsAll
abbrev y_Mo_lot : MethodName := ⟨"RecipePlansModel", "lot", "(IJ)I"⟩
abbrev ws_Mo_lot : List Cond := .code y_Mo_lot prog_9_method_5_code 4 (some .int) :: wsAll
abbrev y_Mo_amount : MethodName := ⟨"RecipePlansModel", "amount", "(III)Z"⟩
abbrev ws_Mo_amount : List Cond := .code y_Mo_amount prog_9_method_6_code 4 (some .boolean) :: wsAll
abbrev y_Mo_tell : MethodName := ⟨"RecipePlansModel", "tell", "(III)Z"⟩
abbrev ws_Mo_tell : List Cond := .code y_Mo_tell prog_9_method_7_code 4 (some .boolean) :: wsAll
abbrev y_Mo_span : MethodName := ⟨"RecipePlansModel", "span", "(III)Z"⟩
abbrev ws_Mo_span : List Cond := .code y_Mo_span prog_9_method_8_code 4 (some .boolean) :: wsAll
abbrev y_Mo_ratio : MethodName := ⟨"RecipePlansModel", "ratio", "(IIIIII)Z"⟩
abbrev ws_Mo_ratio : List Cond := .code y_Mo_ratio prog_9_method_9_code 7 (some .boolean) :: wsAll
abbrev y_Mo_loads : MethodName := ⟨"RecipePlansModel", "loads", "(II)Z"⟩
abbrev ws_Mo_loads : List Cond := .code y_Mo_loads prog_9_method_10_code 3 (some .boolean) :: wsAll
abbrev y_Mo_untell : MethodName := ⟨"RecipePlansModel", "untell", "(I)Z"⟩
abbrev ws_Mo_untell : List Cond := .code y_Mo_untell prog_9_method_11_code 2 (some .boolean) :: wsAll
abbrev y_Mo_holds : MethodName := ⟨"RecipePlansModel", "holds", "(I)I"⟩
abbrev ws_Mo_holds : List Cond := .code y_Mo_holds prog_9_method_12_code 4 (some .int) :: wsAll
abbrev y_Mo_keeps : MethodName := ⟨"RecipePlansModel", "keeps", "(I)Z"⟩
abbrev ws_Mo_keeps : List Cond := .code y_Mo_keeps prog_9_method_13_code 6 (some .boolean) :: wsAll
abbrev y_Mo_firstBroken : MethodName := ⟨"RecipePlansModel", "firstBroken", "()I"⟩
abbrev ws_Mo_firstBroken : List Cond := .code y_Mo_firstBroken prog_9_method_14_code 2 (some .int) :: wsAll
abbrev y_Mo_broken : MethodName := ⟨"RecipePlansModel", "broken", "(IIII)I"⟩
abbrev ws_Mo_broken : List Cond := .code y_Mo_broken prog_9_method_15_code 6 (some .int) :: wsAll
abbrev y_Mo_findWhole : MethodName := ⟨"RecipePlansModel", "findWhole", "()Z"⟩
abbrev ws_Mo_findWhole : List Cond := .code y_Mo_findWhole prog_9_method_16_code 8 (some .boolean) :: wsAll
abbrev y_Mo_setLimit : MethodName := ⟨"RecipePlansModel", "setLimit", "(IIZ)V"⟩
abbrev ws_Mo_setLimit : List Cond := .code y_Mo_setLimit prog_9_method_17_code 8 none :: wsAll
abbrev y_Mo_setLimits : MethodName := ⟨"RecipePlansModel", "setLimits", "()V"⟩
abbrev ws_Mo_setLimits : List Cond := .code y_Mo_setLimits prog_9_method_18_code 5 none :: wsAll
abbrev y_Mo_at : MethodName := ⟨"RecipePlansModel", "at", "(III)J"⟩
abbrev ws_Mo_at : List Cond := .code y_Mo_at prog_9_method_19_code 4 (some .long) :: wsAll
abbrev y_Mo_minor : MethodName := ⟨"RecipePlansModel", "minor", "(IIIII)J"⟩
abbrev ws_Mo_minor : List Cond := .code y_Mo_minor prog_9_method_20_code 6 (some .long) :: wsAll
abbrev y_Mo_determinant : MethodName := ⟨"RecipePlansModel", "determinant", "(I)J"⟩
abbrev ws_Mo_determinant : List Cond := .code y_Mo_determinant prog_9_method_21_code 2 (some .long) :: wsAll
abbrev y_Mo_common : MethodName := ⟨"RecipePlansModel", "common", "(JJ)J"⟩
abbrev ws_Mo_common : List Cond := .code y_Mo_common prog_9_method_22_code 10 (some .long) :: wsAll
abbrev y_Mo_meet : MethodName := ⟨"RecipePlansModel", "meet", "()Z"⟩
abbrev ws_Mo_meet : List Cond := .code y_Mo_meet prog_9_method_23_code 4 (some .boolean) :: wsAll
abbrev y_Mo_isKept : MethodName := ⟨"RecipePlansModel", "isKept", "(I)Z"⟩
abbrev ws_Mo_isKept : List Cond := .code y_Mo_isKept prog_9_method_24_code 13 (some .boolean) :: wsAll
abbrev y_Mo_keptRules : MethodName := ⟨"RecipePlansModel", "keptRules", "()I"⟩
abbrev ws_Mo_keptRules : List Cond := .code y_Mo_keptRules prog_9_method_25_code 3 (some .int) :: wsAll
abbrev y_Mo_isLess : MethodName := ⟨"RecipePlansModel", "isLess", "(JJJJ)Z"⟩
abbrev ws_Mo_isLess : List Cond := .code y_Mo_isLess prog_9_method_26_code 25 (some .boolean) :: wsAll
abbrev y_Mo_lookAtCorner : MethodName := ⟨"RecipePlansModel", "lookAtCorner", "()V"⟩
abbrev ws_Mo_lookAtCorner : List Cond := .code y_Mo_lookAtCorner prog_9_method_27_code 6 none :: wsAll
abbrev y_Mo_lookAtCorners : MethodName := ⟨"RecipePlansModel", "lookAtCorners", "()V"⟩
abbrev ws_Mo_lookAtCorners : List Cond := .code y_Mo_lookAtCorners prog_9_method_28_code 5 none :: wsAll
abbrev y_Mo_canBeKept : MethodName := ⟨"RecipePlansModel", "canBeKept", "(I)Z"⟩
abbrev ws_Mo_canBeKept : List Cond := .code y_Mo_canBeKept prog_9_method_29_code 3 (some .boolean) :: wsAll
abbrev y_Mo_sizeOf : MethodName := ⟨"RecipePlansModel", "sizeOf", "(I)I"⟩
abbrev ws_Mo_sizeOf : List Cond := .code y_Mo_sizeOf prog_9_method_30_code 3 (some .int) :: wsAll
abbrev y_Mo_findClash : MethodName := ⟨"RecipePlansModel", "findClash", "()V"⟩
abbrev ws_Mo_findClash : List Cond := .code y_Mo_findClash prog_9_method_31_code 4 none :: wsAll
abbrev y_Mo_run : MethodName := ⟨"RecipePlansModel", "run", "()I"⟩
abbrev ws_Mo_run : List Cond := .code y_Mo_run prog_9_method_32_code 2 (some .int) :: wsAll
abbrev y_Mo_best : MethodName := ⟨"RecipePlansModel", "best", "(I)I"⟩
abbrev ws_Mo_best : List Cond := .code y_Mo_best prog_9_method_33_code 2 (some .int) :: wsAll
abbrev y_Mo_cost : MethodName := ⟨"RecipePlansModel", "cost", "()J"⟩
abbrev ws_Mo_cost : List Cond := .code y_Mo_cost prog_9_method_34_code 1 (some .long) :: wsAll
abbrev y_Mo_cut : MethodName := ⟨"RecipePlansModel", "cut", "(I)J"⟩
abbrev ws_Mo_cut : List Cond := .code y_Mo_cut prog_9_method_35_code 2 (some .long) :: wsAll
abbrev y_Mo_clashes : MethodName := ⟨"RecipePlansModel", "clashes", "()I"⟩
abbrev ws_Mo_clashes : List Cond := .code y_Mo_clashes prog_9_method_36_code 1 (some .int) :: wsAll
abbrev y_Mo_clash : MethodName := ⟨"RecipePlansModel", "clash", "(I)Z"⟩
abbrev ws_Mo_clash : List Cond := .code y_Mo_clash prog_9_method_37_code 2 (some .boolean) :: wsAll
abbrev y_CS_init : MethodName := ⟨"RecipePlans$CutSearch", "<init>", "(LRecipePlans$Lots;LRecipePlans$Rules;LRecipePlans$Sides;)V"⟩
abbrev ws_CS_init : List Cond := .code y_CS_init prog_2_method_1_code 4 none :: wsAll
abbrev y_CS_search : MethodName := ⟨"RecipePlans$CutSearch", "search", "()V"⟩
abbrev ws_CS_search : List Cond := .code y_CS_search prog_2_method_2_code 1 none :: wsAll
abbrev y_CS_begin : MethodName := ⟨"RecipePlans$CutSearch", "begin", "()V"⟩
abbrev ws_CS_begin : List Cond := .code y_CS_begin prog_2_method_3_code 2 none :: wsAll
abbrev y_CS_tighten : MethodName := ⟨"RecipePlans$CutSearch", "tighten", "(II)V"⟩
abbrev ws_CS_tighten : List Cond := .code y_CS_tighten prog_2_method_4_code 5 none :: wsAll
abbrev y_CS_addBoth : MethodName := ⟨"RecipePlans$CutSearch", "addBoth", "(II)Z"⟩
abbrev ws_CS_addBoth : List Cond := .code y_CS_addBoth prog_2_method_5_code 3 (some .boolean) :: wsAll
abbrev y_CS_add : MethodName := ⟨"RecipePlans$CutSearch", "add", "(I[J)Z"⟩
abbrev ws_CS_add : List Cond := .code y_CS_add prog_2_method_6_code 8 (some .boolean) :: wsAll
abbrev y_CS_expand : MethodName := ⟨"RecipePlans$CutSearch", "expand", "([J[JI)J"⟩
abbrev ws_CS_expand : List Cond := .code y_CS_expand prog_2_method_7_code 8 (some .long) :: wsAll
abbrev y_CS_visitCorners : MethodName := ⟨"RecipePlans$CutSearch", "visitCorners", "(I)V"⟩
abbrev ws_CS_visitCorners : List Cond := .code y_CS_visitCorners prog_2_method_8_code 7 none :: wsAll
abbrev y_CS_meets : MethodName := ⟨"RecipePlans$CutSearch", "meets", "([JII)Z"⟩
abbrev ws_CS_meets : List Cond := .code y_CS_meets prog_2_method_9_code 13 (some .boolean) :: wsAll
abbrev y_CS_replaced : MethodName := ⟨"RecipePlans$CutSearch", "replaced", "([JIII)J"⟩
abbrev ws_CS_replaced : List Cond := .code y_CS_replaced prog_2_method_10_code 14 (some .long) :: wsAll
abbrev y_CS_weigh : MethodName := ⟨"RecipePlans$CutSearch", "weigh", "()V"⟩
abbrev ws_CS_weigh : List Cond := .code y_CS_weigh prog_2_method_11_code 5 none :: wsAll
abbrev y_CS_isLess : MethodName := ⟨"RecipePlans$CutSearch", "isLess", "(JJJJ)Z"⟩
abbrev ws_CS_isLess : List Cond := .code y_CS_isLess prog_2_method_12_code 17 (some .boolean) :: wsAll
abbrev y_CS_commonDivisor : MethodName := ⟨"RecipePlans$CutSearch", "commonDivisor", "()J"⟩
abbrev ws_CS_commonDivisor : List Cond := .code y_CS_commonDivisor prog_2_method_13_code 8 (some .long) :: wsAll
abbrev y_CS_fewestClashing : MethodName := ⟨"RecipePlans$CutSearch", "fewestClashing", "()I"⟩
abbrev ws_CS_fewestClashing : List Cond := .code y_CS_fewestClashing prog_2_method_14_code 4 (some .int) :: wsAll
abbrev y_CS_allBreak : MethodName := ⟨"RecipePlans$CutSearch", "allBreak", "(I)Z"⟩
abbrev ws_CS_allBreak : List Cond := .code y_CS_allBreak prog_2_method_15_code 3 (some .boolean) :: wsAll
abbrev y_Fo_init : MethodName := ⟨"RecipePlans$Found", "<init>", "()V"⟩
abbrev ws_Fo_init : List Cond := .code y_Fo_init prog_3_method_1_code 1 none :: wsAll
abbrev y_Fo_takeCut : MethodName := ⟨"RecipePlans$Found", "takeCut", "(LRecipePlans$CutSearch;)V"⟩
abbrev ws_Fo_takeCut : List Cond := .code y_Fo_takeCut prog_3_method_2_code 4 none :: wsAll
abbrev y_Fo_takeWhole : MethodName := ⟨"RecipePlans$Found", "takeWhole", "(LRecipePlans$WholeSearch;I)V"⟩
abbrev ws_Fo_takeWhole : List Cond := .code y_Fo_takeWhole prog_3_method_3_code 4 none :: wsAll
abbrev y_Lo_init : MethodName := ⟨"RecipePlans$Lots", "<init>", "()V"⟩
abbrev ws_Lo_init : List Cond := .code y_Lo_init prog_4_method_1_code 2 none :: wsAll
abbrev y_Lo_hold : MethodName := ⟨"RecipePlans$Lots", "hold", "([J[J)V"⟩
abbrev ws_Lo_hold : List Cond := .code y_Lo_hold prog_4_method_2_code 8 none :: wsAll
abbrev y_Lo_price : MethodName := ⟨"RecipePlans$Lots", "price", "([J)J"⟩
abbrev ws_Lo_price : List Cond := .code y_Lo_price prog_4_method_3_code 5 (some .long) :: wsAll
abbrev y_Lo_inStock : MethodName := ⟨"RecipePlans$Lots", "inStock", "()I"⟩
abbrev ws_Lo_inStock : List Cond := .code y_Lo_inStock prog_4_method_4_code 3 (some .int) :: wsAll
abbrev y_Ru_init : MethodName := ⟨"RecipePlans$Rules", "<init>", "()V"⟩
abbrev ws_Ru_init : List Cond := .code y_Ru_init prog_5_method_1_code 1 none :: wsAll
abbrev y_Ru_tell : MethodName := ⟨"RecipePlans$Rules", "tell", "(IIIIII)V"⟩
abbrev ws_Ru_tell : List Cond := .code y_Ru_tell prog_5_method_2_code 7 none :: wsAll
abbrev y_Ru_isTold : MethodName := ⟨"RecipePlans$Rules", "isTold", "(I)Z"⟩
abbrev ws_Ru_isTold : List Cond := .code y_Ru_isTold prog_5_method_3_code 2 (some .boolean) :: wsAll
abbrev y_Ru_keeps : MethodName := ⟨"RecipePlans$Rules", "keeps", "(I[J)Z"⟩
abbrev ws_Ru_keeps : List Cond := .code y_Ru_keeps prog_5_method_4_code 7 (some .boolean) :: wsAll
abbrev y_Ru_atLeast : MethodName := ⟨"RecipePlans$Rules", "atLeast", "(JJJJ)Z"⟩
abbrev ws_Ru_atLeast : List Cond := .code y_Ru_atLeast prog_5_method_5_code 12 (some .boolean) :: wsAll
abbrev y_Si_init : MethodName := ⟨"RecipePlans$Sides", "<init>", "()V"⟩
abbrev ws_Si_init : List Cond := .code y_Si_init prog_6_method_1_code 1 none :: wsAll
abbrev y_Si_build : MethodName := ⟨"RecipePlans$Sides", "build", "(LRecipePlans$Lots;LRecipePlans$Rules;)V"⟩
abbrev ws_Si_build : List Cond := .code y_Si_build prog_6_method_2_code 4 none :: wsAll
abbrev y_Si_fill : MethodName := ⟨"RecipePlans$Sides", "fill", "([J[JLRecipePlans$Rules;I)V"⟩
abbrev ws_Si_fill : List Cond := .code y_Si_fill prog_6_method_3_code 10 none :: wsAll
abbrev y_WS_init : MethodName := ⟨"RecipePlans$WholeSearch", "<init>", "(LRecipePlans$Lots;LRecipePlans$Sides;)V"⟩
abbrev ws_WS_init : List Cond := .code y_WS_init prog_7_method_1_code 3 none :: wsAll
abbrev y_WS_search : MethodName := ⟨"RecipePlans$WholeSearch", "search", "(Z)V"⟩
abbrev ws_WS_search : List Cond := .code y_WS_search prog_7_method_2_code 2 none :: wsAll
abbrev y_WS_begin : MethodName := ⟨"RecipePlans$WholeSearch", "begin", "()V"⟩
abbrev ws_WS_begin : List Cond := .code y_WS_begin prog_7_method_3_code 3 none :: wsAll
abbrev y_WS_place : MethodName := ⟨"RecipePlans$WholeSearch", "place", "(IJ)V"⟩
abbrev ws_WS_place : List Cond := .code y_WS_place prog_7_method_4_code 7 none :: wsAll
abbrev y_WS_take : MethodName := ⟨"RecipePlans$WholeSearch", "take", "(IIJ)V"⟩
abbrev ws_WS_take : List Cond := .code y_WS_take prog_7_method_5_code 6 none :: wsAll
abbrev y_WS_offer : MethodName := ⟨"RecipePlans$WholeSearch", "offer", "(J)V"⟩
abbrev ws_WS_offer : List Cond := .code y_WS_offer prog_7_method_6_code 4 none :: wsAll
abbrev y_WS_mostLoads : MethodName := ⟨"RecipePlans$WholeSearch", "mostLoads", "(I)I"⟩
abbrev ws_WS_mostLoads : List Cond := .code y_WS_mostLoads prog_7_method_7_code 9 (some .int) :: wsAll
abbrev y_WS_fewestLoads : MethodName := ⟨"RecipePlans$WholeSearch", "fewestLoads", "(I)I"⟩
abbrev ws_WS_fewestLoads : List Cond := .code y_WS_fewestLoads prog_7_method_8_code 9 (some .int) :: wsAll
abbrev y_In_bitCount : MethodName := ⟨"java/lang/Integer", "bitCount", "(I)I"⟩
abbrev ws_In_bitCount : List Cond := .code y_In_bitCount prog_10_method_49_code 1 (some .int) :: wsAll
abbrev y_Ma_abs : MethodName := ⟨"java/lang/Math", "abs", "(J)J"⟩
abbrev ws_Ma_abs : List Cond := .code y_Ma_abs prog_11_method_61_code 2 (some .long) :: wsAll
abbrev y_Ma_floorDiv : MethodName := ⟨"java/lang/Math", "floorDiv", "(JJ)J"⟩
abbrev ws_Ma_floorDiv : List Cond := .code y_Ma_floorDiv prog_11_method_49_code 6 (some .long) :: wsAll
abbrev y_Ma_max : MethodName := ⟨"java/lang/Math", "max", "(JJ)J"⟩
abbrev ws_Ma_max : List Cond := .code y_Ma_max prog_11_method_66_code 4 (some .long) :: wsAll
abbrev y_Ma_min : MethodName := ⟨"java/lang/Math", "min", "(JJ)J"⟩
abbrev ws_Ma_min : List Cond := .code y_Ma_min prog_11_method_70_code 4 (some .long) :: wsAll
