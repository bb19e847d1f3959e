abbrev rm_RP_within : Room := { frames := 0, cells := 0, slots := 0, locals := 0 }
abbrev rm_RP_lot : Room := { frames := 1, cells := 0, slots := 0, locals := 25 }
abbrev rm_RP_isWhat : Room := { frames := 1, cells := 0, slots := 0, locals := 25 }
abbrev rm_RP_amount : Room := { frames := 2, cells := 0, slots := 0, locals := 45 }
abbrev rm_RP_isRange : Room := { frames := 0, cells := 0, slots := 0, locals := 0 }
abbrev rm_Ru_tell : Room := { frames := 0, cells := 0, slots := 0, locals := 0 }
abbrev rm_RP_span : Room := { frames := 2, cells := 0, slots := 0, locals := 45 }
abbrev rm_RP_ratio : Room := { frames := 2, cells := 0, slots := 0, locals := 45 }
abbrev rm_RP_loads : Room := { frames := 1, cells := 0, slots := 0, locals := 26 }
abbrev rm_RP_hasBit : Room := { frames := 0, cells := 0, slots := 0, locals := 0 }
abbrev rm_Ru_isTold : Room := { frames := 1, cells := 0, slots := 0, locals := 21 }
abbrev rm_RP_untell : Room := { frames := 2, cells := 0, slots := 0, locals := 42 }
abbrev rm_Si_fill : Room := { frames := 0, cells := 0, slots := 0, locals := 0 }
abbrev rm_Si_build : Room := { frames := 2, cells := 0, slots := 0, locals := 42 }
abbrev rm_Lo_inStock : Room := { frames := 0, cells := 0, slots := 0, locals := 0 }
abbrev rm_CS_begin : Room := { frames := 1, cells := 0, slots := 0, locals := 22 }
abbrev rm_In_bitCount : Room := { frames := 0, cells := 0, slots := 0, locals := 0 }
abbrev rm_CS_replaced : Room := { frames := 1, cells := 0, slots := 0, locals := 21 }
abbrev rm_CS_meets : Room := { frames := 2, cells := 0, slots := 0, locals := 54 }
abbrev rm_Lo_price : Room := { frames := 0, cells := 0, slots := 0, locals := 0 }
abbrev rm_Ma_floorDiv : Room := { frames := 0, cells := 0, slots := 0, locals := 0 }
abbrev rm_CS_isLess : Room := { frames := 1, cells := 0, slots := 0, locals := 25 }
abbrev rm_Lo_hold : Room := { frames := 0, cells := 0, slots := 0, locals := 0 }
abbrev rm_Ru_atLeast : Room := { frames := 0, cells := 0, slots := 0, locals := 0 }
abbrev rm_Ru_keeps : Room := { frames := 1, cells := 0, slots := 0, locals := 31 }
abbrev rm_CS_weigh : Room := { frames := 2, cells := 0, slots := 0, locals := 61 }
abbrev rm_CS_visitCorners : Room := { frames := 3, cells := 0, slots := 0, locals := 86 }
abbrev rm_CS_expand : Room := { frames := 1, cells := 0, slots := 0, locals := 21 }
abbrev rm_CS_add : Room := { frames := 2, cells := 0, slots := 0, locals := 48 }
abbrev rm_CS_addBoth : Room := { frames := 3, cells := 0, slots := 0, locals := 75 }
abbrev rm_CS_tighten (d : Nat) : Room := { frames := 1 * d + 4, cells := 0, slots := 0, locals := 24 * d + 112 }
abbrev rm_CS_search : Room := { frames := 11, cells := 0, slots := 0, locals := 280 }
abbrev rm_Ma_min : Room := { frames := 0, cells := 0, slots := 0, locals := 0 }
abbrev rm_Ma_max : Room := { frames := 0, cells := 0, slots := 0, locals := 0 }
abbrev rm_WS_begin : Room := { frames := 1, cells := 0, slots := 0, locals := 23 }
abbrev rm_WS_mostLoads : Room := { frames := 1, cells := 0, slots := 0, locals := 25 }
abbrev rm_WS_fewestLoads : Room := { frames := 1, cells := 0, slots := 0, locals := 25 }
abbrev rm_WS_take (d : Nat) : Room := { frames := 2 * d + 3, cells := 0, slots := 0, locals := 51 * d + 79 }
abbrev rm_WS_offer : Room := { frames := 0, cells := 0, slots := 0, locals := 0 }
abbrev rm_WS_place (d : Nat) : Room := { frames := 2 * d + 2, cells := 0, slots := 0, locals := 51 * d + 53 }
abbrev rm_WS_search : Room := { frames := 13, cells := 0, slots := 0, locals := 334 }
abbrev rm_Ma_abs : Room := { frames := 0, cells := 0, slots := 0, locals := 0 }
abbrev rm_CS_commonDivisor : Room := { frames := 1, cells := 0, slots := 0, locals := 21 }
abbrev rm_CS_allBreak : Room := { frames := 0, cells := 0, slots := 0, locals := 0 }
abbrev rm_CS_fewestClashing : Room := { frames := 1, cells := 0, slots := 0, locals := 22 }
abbrev rm_Fo_takeCut : Room := { frames := 2, cells := 0, slots := 0, locals := 48 }
abbrev rm_Fo_takeWhole : Room := { frames := 0, cells := 0, slots := 0, locals := 0 }
abbrev rm_RP_run : Room := { frames := 14, cells := 0, slots := 0, locals := 355 }
abbrev rm_RP_best : Room := { frames := 1, cells := 0, slots := 0, locals := 25 }
abbrev rm_RP_cost : Room := { frames := 0, cells := 0, slots := 0, locals := 0 }
abbrev rm_RP_cut : Room := { frames := 1, cells := 0, slots := 0, locals := 25 }
abbrev rm_RP_clashes : Room := { frames := 1, cells := 0, slots := 0, locals := 20 }
abbrev rm_RP_clash : Room := { frames := 1, cells := 0, slots := 0, locals := 25 }
abbrev rm_RP_broken : Room := { frames := 2, cells := 0, slots := 0, locals := 57 }
abbrev rm_Mo_isIn : Room := { frames := 0, cells := 0, slots := 0, locals := 0 }
abbrev rm_Mo_isWhat : Room := { frames := 0, cells := 0, slots := 0, locals := 0 }
abbrev rm_Mo_lot : Room := { frames := 1, cells := 0, slots := 0, locals := 25 }
abbrev rm_Mo_amount : Room := { frames := 1, cells := 0, slots := 0, locals := 25 }
abbrev rm_Mo_tell : Room := { frames := 0, cells := 0, slots := 0, locals := 0 }
abbrev rm_Mo_span : Room := { frames := 1, cells := 0, slots := 0, locals := 25 }
abbrev rm_Mo_ratio : Room := { frames := 1, cells := 0, slots := 0, locals := 25 }
abbrev rm_Mo_loads : Room := { frames := 1, cells := 0, slots := 0, locals := 25 }
abbrev rm_Mo_untell : Room := { frames := 0, cells := 0, slots := 0, locals := 0 }
abbrev rm_Mo_holds : Room := { frames := 0, cells := 0, slots := 0, locals := 0 }
abbrev rm_Mo_keeps : Room := { frames := 1, cells := 0, slots := 0, locals := 25 }
abbrev rm_Mo_firstBroken : Room := { frames := 2, cells := 0, slots := 0, locals := 50 }
abbrev rm_Mo_broken : Room := { frames := 3, cells := 0, slots := 0, locals := 71 }
abbrev rm_Mo_findWhole : Room := { frames := 3, cells := 0, slots := 0, locals := 71 }
abbrev rm_Mo_setLimit : Room := { frames := 0, cells := 0, slots := 0, locals := 0 }
abbrev rm_Mo_setLimits : Room := { frames := 1, cells := 0, slots := 0, locals := 27 }
abbrev rm_Mo_at : Room := { frames := 0, cells := 0, slots := 0, locals := 0 }
abbrev rm_Mo_minor : Room := { frames := 1, cells := 0, slots := 0, locals := 23 }
abbrev rm_Mo_determinant : Room := { frames := 2, cells := 0, slots := 0, locals := 48 }
abbrev rm_Mo_common : Room := { frames := 0, cells := 0, slots := 0, locals := 0 }
abbrev rm_Mo_meet : Room := { frames := 3, cells := 0, slots := 0, locals := 69 }
abbrev rm_Mo_isKept : Room := { frames := 0, cells := 0, slots := 0, locals := 0 }
abbrev rm_Mo_keptRules : Room := { frames := 1, cells := 0, slots := 0, locals := 32 }
abbrev rm_Mo_isLess : Room := { frames := 0, cells := 0, slots := 0, locals := 0 }
abbrev rm_Mo_lookAtCorner : Room := { frames := 4, cells := 0, slots := 0, locals := 92 }
abbrev rm_Mo_lookAtCorners : Room := { frames := 5, cells := 0, slots := 0, locals := 117 }
abbrev rm_Mo_canBeKept : Room := { frames := 0, cells := 0, slots := 0, locals := 0 }
abbrev rm_Mo_sizeOf : Room := { frames := 0, cells := 0, slots := 0, locals := 0 }
abbrev rm_Mo_findClash : Room := { frames := 1, cells := 0, slots := 0, locals := 22 }
abbrev rm_Mo_run : Room := { frames := 6, cells := 0, slots := 0, locals := 141 }
abbrev rm_Mo_best : Room := { frames := 0, cells := 0, slots := 0, locals := 0 }
abbrev rm_Mo_cost : Room := { frames := 0, cells := 0, slots := 0, locals := 0 }
abbrev rm_Mo_cut : Room := { frames := 0, cells := 0, slots := 0, locals := 0 }
abbrev rm_Mo_clashes : Room := { frames := 1, cells := 0, slots := 0, locals := 22 }
abbrev rm_Mo_clash : Room := { frames := 0, cells := 0, slots := 0, locals := 0 }
def M_RP_within (N : Nat) (x0 : Int64) (x2 : Int64) (x4 : Int64) : Option Int32 := if (0 : Int32) < (lg_cmp x2 x0) then (okZ (0 : Int32)) else (if (0 : Int32) < (lg_cmp x0 x4) then (okZ (0 : Int32)) else (okZ (1 : Int32)))
def M_RP_lot (N : Nat) (x1 : Int32) (x2 : Int64) (μ : Mem) : Option (Int32 × Mem) := if (4 : Int32) ≤ (μ.1 1 0) then (some ((-1 : Int32), μ)) else ((M_RP_within N x1.toInt64 (0 : Int64) (9 : Int64)).bind fun r17 => if r17 = (0 : Int32) then (some ((-1 : Int32), μ)) else ((M_RP_within N x2 (-1000 : Int64) (1000 : Int64)).bind fun r30 => if r30 = (0 : Int32) then (some ((-1 : Int32), μ)) else (nm (μ.1 1 0) fun x4_45 => (stI μ 17 x4_45 x1).bind fun μ57 => (stJ μ57 42 x4_45 x2).bind fun μ68 => (pI μ68 1 0 ((μ68.1 1 0) + (1 : Int32))).bind fun μ79 => some (x4_45, μ79))))
def M_RP_isWhat (N : Nat) (x0 : Int32) : Option Int32 := (M_RP_within N x0.toInt64 (0 : Int64) (4 : Int64)).bind fun r6 => okZ r6
def M_RP_amount (N : Nat) (x1 : Int32) (x2 : Int32) (x3 : Int32) (μ : Mem) : Option (Int32 × Mem) := (M_RP_within N x1.toInt64 (0 : Int64) (((μ.1 1 0) - (1 : Int32)).toInt64)).bind fun r13 => if r13 = (0 : Int32) then (reZ (0 : Int32) μ) else ((M_RP_isWhat N x2).bind fun r20 => if r20 = (0 : Int32) then (reZ (0 : Int32) μ) else ((M_RP_within N x3.toInt64 (-100 : Int64) (100 : Int64)).bind fun r34 => if r34 = (0 : Int32) then (reZ (0 : Int32) μ) else ((ldA 8 x2).bind fun a50 => (stJ μ a50 x1 x3.toInt64).bind fun μ54 => reZ (1 : Int32) μ54)))
def M_RP_isRange (N : Nat) (x0 : Int32) (x1 : Int32) (x2 : Int32) (x3 : Int32) : Option Int32 := if x0 < x2 then (okZ (0 : Int32)) else (if x1 < x0 then (okZ (0 : Int32)) else (if x3 < x1 then (okZ (0 : Int32)) else (okZ (1 : Int32))))
def M_Ru_tell (N : Nat) (x1 : Int32) (x2 : Int32) (x3 : Int32) (x4 : Int32) (x5 : Int32) (x6 : Int32) (μ : Mem) : Option Mem := (stI μ 18 x1 x2).bind fun μ6 => (stI μ6 19 x1 x3).bind fun μ13 => (stI μ13 20 x1 x4).bind fun μ21 => (stI μ21 21 x1 x5).bind fun μ29 => (stI μ29 22 x1 x6).bind fun μ37 => (pI μ37 2 0 ((μ37.1 2 0) ||| ((1 : Int32) <<< (x1 &&& 31)))).bind fun μ47 => some μ47
def M_RP_span (N : Nat) (x1 : Int32) (x2 : Int32) (x3 : Int32) (μ : Mem) : Option (Int32 × Mem) := (M_RP_isWhat N x1).bind fun r1 => if r1 = (0 : Int32) then (reZ (0 : Int32) μ) else ((M_RP_isRange N x2 x3 (-100000 : Int32) (100000 : Int32)).bind fun r13 => if r13 = (0 : Int32) then (reZ (0 : Int32) μ) else ((M_Ru_tell N x1 x1 (6 : Int32) x2 x3 (1 : Int32) μ).bind fun μ32 => reZ (1 : Int32) μ32))
def M_RP_ratio (N : Nat) (x1 : Int32) (x2 : Int32) (x3 : Int32) (x4 : Int32) (x5 : Int32) (x6 : Int32) (μ : Mem) : Option (Int32 × Mem) := (M_RP_within N x1.toInt64 (0 : Int64) (1 : Int64)).bind fun r4 => if r4 = (0 : Int32) then (reZ (0 : Int32) μ) else ((M_RP_isWhat N x2).bind fun r11 => if r11 = (0 : Int32) then (reZ (0 : Int32) μ) else ((M_RP_isWhat N x3).bind fun r18 => if r18 = (0 : Int32) then (reZ (0 : Int32) μ) else ((M_RP_isRange N x4 x5 (0 : Int32) (100 : Int32)).bind fun r33 => if r33 = (0 : Int32) then (reZ (0 : Int32) μ) else ((M_RP_within N x6.toInt64 (1 : Int64) (100 : Int64)).bind fun r46 => if r46 = (0 : Int32) then (reZ (0 : Int32) μ) else ((M_Ru_tell N ((5 : Int32) + x1) x2 x3 x4 x5 x6 μ).bind fun μ69 => reZ (1 : Int32) μ69)))))
def M_RP_loads (N : Nat) (x1 : Int32) (x2 : Int32) (μ : Mem) : Option (Int32 × Mem) := (M_RP_isRange N x1 x2 (0 : Int32) (36 : Int32)).bind fun r5 => if r5 = (0 : Int32) then (reZ (0 : Int32) μ) else ((M_Ru_tell N (7 : Int32) (5 : Int32) (6 : Int32) x1 x2 (1 : Int32) μ).bind fun μ25 => reZ (1 : Int32) μ25)
def M_RP_hasBit (N : Nat) (x0 : Int32) (x1 : Int32) : Option Int32 := if ((x0 >>> (x1 &&& 31)) &&& (1 : Int32)) = (0 : Int32) then (okZ (0 : Int32)) else (okZ (1 : Int32))
def M_Ru_isTold (N : Nat) (x1 : Int32) (μ : Mem) : Option (Int32 × Mem) := (M_RP_hasBit N (μ.1 2 0) x1).bind fun r5 => reZ r5 μ
def M_RP_untell (N : Nat) (x1 : Int32) (μ : Mem) : Option (Int32 × Mem) := (M_RP_within N x1.toInt64 (0 : Int64) (7 : Int64)).bind fun r6 => if r6 = (0 : Int32) then (reZ (0 : Int32) μ) else (bn2 (M_Ru_isTold N x1 μ) fun r17 μ17 => if r17 = (0 : Int32) then (reZ (0 : Int32) μ17) else ((pI μ17 2 0 ((μ17.1 2 0) ^^^ ((1 : Int32) <<< (x1 &&& 31)))).bind fun μ37 => reZ (1 : Int32) μ37))
def M_Si_fill_31 (N : Nat) : Nat → Nat → Nat → Int32 → Nat → Nat → Int32 → Mem → Option Mem
  | 0, _, _, _, _, _, _, _ => none
  | n + 1, k1, k2, x4, k5, k6, x7, μ => if (5 : Int32) ≤ x7 then (some μ) else ((ldI μ 22 x4).bind fun v43 => (ldJ μ k1 x7).bind fun v48 => nm (v43.toInt64 * v48) fun x8_50 => (ldI μ 20 x4).bind fun v64 => (ldJ μ k2 x7).bind fun v69 => (stJ μ k5 x7 (x8_50 - (v64.toInt64 * v69))).bind fun μ72 => (ldI μ72 21 x4).bind fun v83 => (ldJ μ72 k2 x7).bind fun v88 => (stJ μ72 k6 x7 ((v83.toInt64 * v88) - x8_50)).bind fun μ93 => M_Si_fill_31 N n k1 k2 x4 k5 k6 (x7 + 1) μ93)
def M_Si_fill (N : Nat) (k1 : Nat) (k2 : Nat) (x4 : Int32) (μ : Mem) : Option Mem := (ldA 9 ((2 : Int32) * (μ.1 3 0))).bind fun a10 => (ldA 9 (((2 : Int32) * (μ.1 3 0)) + (1 : Int32))).bind fun a25 => M_Si_fill_31 N N k1 k2 x4 a10 a25 (0 : Int32) μ
def M_Si_build_7 (N : Nat) : Nat → Int32 → Mem → Option Mem
  | 0, _, _ => none
  | n + 1, x3, μ => if (8 : Int32) ≤ x3 then (some μ) else (bn2 (M_Ru_isTold N x3 μ) fun r15 μ15 => if r15 = (0 : Int32) then (M_Si_build_7 N n (x3 + 1) μ15) else ((stI μ15 23 (μ15.1 3 0) x3).bind fun μ30 => (ldI μ30 18 x3).bind fun v41 => (ldA 8 v41).bind fun a42 => (ldI μ30 19 x3).bind fun v52 => (ldA 8 v52).bind fun a53 => (M_Si_fill N a42 a53 x3 μ30).bind fun μ56 => (pI μ56 3 0 ((μ56.1 3 0) + (1 : Int32))).bind fun μ66 => M_Si_build_7 N n (x3 + 1) μ66))
def M_Si_build (N : Nat) (μ : Mem) : Option Mem := (pI μ 3 0 (0 : Int32)).bind fun μ2 => M_Si_build_7 N N (0 : Int32) μ2
def M_Lo_inStock_4 (N : Nat) : Nat → Int32 → Int32 → Mem → Option (Int32 × Mem)
  | 0, _, _, _ => none
  | n + 1, x1, x2, μ => if (4 : Int32) ≤ x2 then (some (x1, μ)) else ((ldI μ 17 x2).bind fun v14 => if v14 ≤ (0 : Int32) then (M_Lo_inStock_4 N n x1 (x2 + 1) μ) else (nm (x1 ||| ((1 : Int32) <<< (x2 &&& 31))) fun x1_23 => M_Lo_inStock_4 N n x1_23 (x2 + 1) μ))
def M_Lo_inStock (N : Nat) (μ : Mem) : Option (Int32 × Mem) := M_Lo_inStock_4 N N (0 : Int32) (0 : Int32) μ
def M_CS_begin_2 (N : Nat) : Nat → Int32 → Mem → Option Mem
  | 0, _, _ => none
  | n + 1, x1, μ => if (μ.1 4 8) ≤ x1 then ((pI μ 4 8 (0 : Int32)).bind fun μ30 => (pZ μ30 4 10 (0 : Int32)).bind fun μ35 => (pJ μ35 4 11 (0 : Int64)).bind fun μ40 => (pJ μ40 4 12 (1 : Int64)).bind fun μ45 => bn2 (M_Lo_inStock N μ45) fun r53 μ53 => (pI μ53 4 9 r53).bind fun μ56 => (ldA 10 (0 : Int32)).bind fun a64 => (stJ μ56 a64 (0 : Int32) (1 : Int64)).bind fun μ67 => some μ67) else ((ldI μ 24 x1).bind fun v19 => (stZ μ 13 v19 (0 : Int32)).bind fun μ21 => M_CS_begin_2 N n (x1 + 1) μ21)
def M_CS_begin (N : Nat) (μ : Mem) : Option Mem := M_CS_begin_2 N N (0 : Int32) μ
def M_In_bitCount (N : Nat) (x0 : Int32) : Option Int32 := nm (x0 - (((x0.toUInt32 >>> ((1 : Int32).toUInt32 &&& Int32.toUInt32 31)).toInt32) &&& (1431655765 : Int32))) fun x0_9 => nm ((x0_9 &&& (858993459 : Int32)) + (((x0_9.toUInt32 >>> ((2 : Int32).toUInt32 &&& Int32.toUInt32 31)).toInt32) &&& (858993459 : Int32))) fun x0_23 => nm ((x0_23 + ((x0_23.toUInt32 >>> ((4 : Int32).toUInt32 &&& Int32.toUInt32 31)).toInt32)) &&& (252645135 : Int32)) fun x0_33 => nm (x0_33 + ((x0_33.toUInt32 >>> ((8 : Int32).toUInt32 &&& Int32.toUInt32 31)).toInt32)) fun x0_40 => nm (x0_40 + ((x0_40.toUInt32 >>> ((16 : Int32).toUInt32 &&& Int32.toUInt32 31)).toInt32)) fun x0_47 => some (x0_47 &&& (63 : Int32))
def M_CS_replaced_109 (N : Nat) (K13 : Nat → Int32 → Int32 → Int64 → Int32 → Int32 → Mem → Option (Int64 × Mem)) (k1 : Nat) (x2 : Int32) (x4 : Int32) (x7 : Int32) (x8 : Int32) (y0 : Int64) (y1 : Int64) (μ : Mem) : Option (Int64 × Mem) := nm (y0 + y1) fun x5_110 => K13 k1 x2 x4 x5_110 x7 (x8 + 1) μ
def M_CS_replaced_59 (N : Nat) (K13 : Nat → Int32 → Int32 → Int64 → Int32 → Int32 → Mem → Option (Int64 × Mem)) (k1 : Nat) (x2 : Int32) (x4 : Int32) (x5 : Int64) (x7 : Int32) (x8 : Int32) (y0 : Int64) (μ : Mem) : Option (Int64 × Mem) := nm (x2 &&& (x7 ^^^ (((1 : Int32) <<< (x8 &&& 31)) - (1 : Int32)))) fun x11_72 => (ldJ μ k1 (x2 ||| ((1 : Int32) <<< (x8 &&& 31)))).bind fun v83 => nm (y0 * v83) fun x12_85 => (M_In_bitCount N x11_72).bind fun r91 => (M_RP_hasBit N r91 (0 : Int32)).bind fun r95 => if r95 = (0 : Int32) then (M_CS_replaced_109 N K13 k1 x2 x4 x7 x8 x5 x12_85 μ) else (M_CS_replaced_109 N K13 k1 x2 x4 x7 x8 x5 (-x12_85) μ)
def M_CS_replaced_38 (N : Nat) (K13 : Nat → Int32 → Int32 → Int64 → Int32 → Int32 → Mem → Option (Int64 × Mem)) (k1 : Nat) (x2 : Int32) (x4 : Int32) (x5 : Int64) (x7 : Int32) (x8 : Int32) (μ : Mem) : Option (Int64 × Mem) := if x8 = (4 : Int32) then (M_CS_replaced_59 N K13 k1 x2 x4 x5 x7 x8 (1 : Int64) μ) else ((ldI μ 17 x8).bind fun v57 => M_CS_replaced_59 N K13 k1 x2 x4 x5 x7 x8 v57.toInt64 μ)
def M_CS_replaced_13 (N : Nat) : Nat → Nat → Int32 → Int32 → Int64 → Int32 → Int32 → Mem → Option (Int64 × Mem)
  | 0, _, _, _, _, _, _, _ => none
  | n + 1, k1, x2, x4, x5, x7, x8, μ => if (5 : Int32) ≤ x8 then (some (x5, μ)) else (if x8 = (4 : Int32) then (M_CS_replaced_38 N (M_CS_replaced_13 N n) k1 x2 x4 x5 x7 x8 μ) else ((M_RP_hasBit N x4 x8).bind fun r29 => if r29 = (0 : Int32) then (M_CS_replaced_13 N n k1 x2 x4 x5 x7 (x8 + 1) μ) else (M_CS_replaced_38 N (M_CS_replaced_13 N n) k1 x2 x4 x5 x7 x8 μ)))
def M_CS_replaced (N : Nat) (k1 : Nat) (x2 : Int32) (x3 : Int32) (x4 : Int32) (μ : Mem) : Option (Int64 × Mem) := nm (((1 : Int32) <<< (x3 &&& 31)) - (1 : Int32)) fun x7_8 => M_CS_replaced_13 N N k1 x2 x4 (0 : Int64) x7_8 (0 : Int32) μ
def M_CS_meets_88 (N : Nat) (K36 : Nat → Int32 → Int32 → Int64 → Int64 → Int32 → Mem → Option (Int32 × Mem)) (k1 : Nat) (x2 : Int32) (x3 : Int32) (x4 : Int64) (x6 : Int64) (x8 : Int32) (y1 : Int32) (y2 : Int64) (μ : Mem) : Option (Int32 × Mem) := (stJ μ 43 y1 y2).bind fun μ88 => K36 k1 x2 x3 x4 x6 (x8 + 1) μ88
def M_CS_meets_36 (N : Nat) : Nat → Nat → Int32 → Int32 → Int64 → Int64 → Int32 → Mem → Option (Int32 × Mem)
  | 0, _, _, _, _, _, _, _ => none
  | n + 1, k1, x2, x3, x4, x6, x8, μ => if (4 : Int32) ≤ x8 then (reZ (1 : Int32) μ) else ((ldI μ 17 x8).bind fun v51 => nm (v51.toInt64 * x6) fun x9_56 => (M_RP_hasBit N x2 x8).bind fun r61 => if r61 = (0 : Int32) then ((M_RP_hasBit N x3 x8).bind fun r76 => if r76 = (0 : Int32) then (M_CS_meets_88 N (M_CS_meets_36 N n) k1 x2 x3 x4 x6 x8 x8 (0 : Int64) μ) else (M_CS_meets_88 N (M_CS_meets_36 N n) k1 x2 x3 x4 x6 x8 x8 x9_56 μ)) else (bn2 (M_CS_replaced N k1 (x2 ^^^ ((1 : Int32) <<< (x8 &&& 31))) x8 x3 μ) fun r106 μ106 => nm ((-x4) * r106) fun x11_110 => (M_RP_within N x11_110 (0 : Int64) x9_56).bind fun r117 => if r117 = (0 : Int32) then (reZ (0 : Int32) μ106) else ((stJ μ106 43 x8 x11_110).bind fun μ133 => M_CS_meets_36 N n k1 x2 x3 x4 x6 (x8 + 1) μ133)))
def M_CS_meets_15 (N : Nat) (k1 : Nat) (x2 : Int32) (x3 : Int32) (y0 : Int64) (μ : Mem) : Option (Int32 × Mem) := (ldJ μ k1 x2).bind fun v21 => nm (y0 * v21) fun x6_23 => (stJ μ 43 (4 : Int32) x6_23).bind fun μ32 => M_CS_meets_36 N N k1 x2 x3 y0 x6_23 (0 : Int32) μ32
def M_CS_meets (N : Nat) (k1 : Nat) (x2 : Int32) (x3 : Int32) (μ : Mem) : Option (Int32 × Mem) := (ldJ μ k1 x2).bind fun v2 => if (0 : Int32) ≤ (lg_cmp v2 (0 : Int64)) then (M_CS_meets_15 N k1 x2 x3 (1 : Int64) μ) else (M_CS_meets_15 N k1 x2 x3 (-1 : Int64) μ)
def M_Lo_price_5 (N : Nat) : Nat → Nat → Int64 → Int32 → Mem → Option (Int64 × Mem)
  | 0, _, _, _, _ => none
  | n + 1, k1, x2, x4, μ => if (4 : Int32) ≤ x4 then (some (x2, μ)) else ((ldJ μ 42 x4).bind fun v18 => (ldJ μ k1 x4).bind fun v22 => nm (x2 + (v18 * v22)) fun x2_25 => M_Lo_price_5 N n k1 x2_25 (x4 + 1) μ)
def M_Lo_price (N : Nat) (k1 : Nat) (μ : Mem) : Option (Int64 × Mem) := M_Lo_price_5 N N k1 (0 : Int64) (0 : Int32) μ
def M_Ma_floorDiv (N : Nat) (x0 : Int64) (x2 : Int64) : Option Int64 := (dvJ x0 x2).bind fun v2 => if (0 : Int32) ≤ (lg_cmp (x0 ^^^ x2) (0 : Int64)) then (some v2) else (if (lg_cmp (v2 * x2) x0) = (0 : Int32) then (some v2) else (some (v2 - (1 : Int64))))
def M_CS_isLess_96 (N : Nat) (x15 : Int64) : Option Int32 := if (lg_cmp x15 (0 : Int64)) = (0 : Int32) then (okZ (0 : Int32)) else (okZ (1 : Int32))
def M_CS_isLess_3 (N : Nat) : Nat → Int64 → Int64 → Int64 → Int64 → Int32 → Option Int32
  | 0, _, _, _, _, _ => none
  | n + 1, x0, x2, x4, x6, x8 => if (200 : Int32) ≤ x8 then (okZ (0 : Int32)) else (if (lg_cmp x2 (0 : Int64)) ≤ (0 : Int32) then (okZ (0 : Int32)) else (if (0 : Int32) < (lg_cmp x6 (0 : Int64)) then ((M_Ma_floorDiv N x0 x2).bind fun r28 => (M_Ma_floorDiv N x4 x6).bind fun r37 => if (lg_cmp r28 r37) = (0 : Int32) then (nm (x0 - (r28 * x2)) fun x13_70 => nm (x4 - (r37 * x6)) fun x15_80 => if (lg_cmp x13_70 (0 : Int64)) = (0 : Int32) then (M_CS_isLess_96 N x15_80) else (if (lg_cmp x15_80 (0 : Int64)) = (0 : Int32) then (M_CS_isLess_96 N x15_80) else (M_CS_isLess_3 N n x6 x15_80 x2 x13_70 (x8 + 1)))) else (if (0 : Int32) ≤ (lg_cmp r28 r37) then (okZ (0 : Int32)) else (okZ (1 : Int32)))) else (okZ (0 : Int32))))
def M_CS_isLess (N : Nat) (x0 : Int64) (x2 : Int64) (x4 : Int64) (x6 : Int64) : Option Int32 := M_CS_isLess_3 N N x0 x2 x4 x6 (0 : Int32)
def M_Lo_hold_22 (N : Nat) (K2 : Nat → Nat → Int32 → Mem → Option Mem) : Nat → Nat → Nat → Int32 → Nat → Int64 → Int32 → Mem → Option Mem
  | 0, _, _, _, _, _, _, _ => none
  | n + 1, k1, k2, x3, k4, x5, x7, μ => if (5 : Int32) ≤ x7 then ((stJ μ k2 x3 x5).bind fun μ53 => K2 k1 k2 (x3 + 1) μ53) else ((ldJ μ k4 x7).bind fun v34 => (ldJ μ k1 x7).bind fun v38 => nm (x5 + (v34 * v38)) fun x5_41 => M_Lo_hold_22 N K2 n k1 k2 x3 k4 x5_41 (x7 + 1) μ)
def M_Lo_hold_2 (N : Nat) : Nat → Nat → Nat → Int32 → Mem → Option Mem
  | 0, _, _, _, _ => none
  | n + 1, k1, k2, x3, μ => if (7 : Int32) ≤ x3 then (some μ) else ((ldA 8 x3).bind fun a13 => M_Lo_hold_22 N (M_Lo_hold_2 N n) N k1 k2 x3 a13 (0 : Int64) (0 : Int32) μ)
def M_Lo_hold (N : Nat) (k1 : Nat) (k2 : Nat) (μ : Mem) : Option Mem := M_Lo_hold_2 N N k1 k2 (0 : Int32) μ
def M_Ru_atLeast (N : Nat) (x0 : Int64) (x2 : Int64) (x4 : Int64) (x6 : Int64) : Option Int32 := nm ((x0 * (x2 >>> ((20 : Int32).toInt64 &&& 63))) - (x4 * (x6 >>> ((20 : Int32).toInt64 &&& 63)))) fun x8_15 => nm ((x0 * (x2 &&& (1048575 : Int64))) - (x4 * (x6 &&& (1048575 : Int64)))) fun x10_34 => if (lg_cmp (x8_15 + (x10_34 >>> ((20 : Int32).toInt64 &&& 63))) (0 : Int64)) < (0 : Int32) then (okZ (0 : Int32)) else (okZ (1 : Int32))
def M_Ru_keeps (N : Nat) (x1 : Int32) (k2 : Nat) (μ : Mem) : Option (Int32 × Mem) := (ldI μ 18 x1).bind fun v6 => (ldJ μ k2 v6).bind fun v7 => (ldI μ 19 x1).bind fun v15 => (ldJ μ k2 v15).bind fun v16 => (ldI μ 22 x1).bind fun v24 => (ldI μ 20 x1).bind fun v32 => (M_Ru_atLeast N v24.toInt64 v7 v32.toInt64 v16).bind fun r36 => if r36 = (0 : Int32) then (reZ (0 : Int32) μ) else ((ldI μ 21 x1).bind fun v47 => (ldI μ 22 x1).bind fun v56 => (M_Ru_atLeast N v47.toInt64 v16 v56.toInt64 v7).bind fun r59 => if r59 = (0 : Int32) then (reZ (0 : Int32) μ) else (reZ (1 : Int32) μ))
def M_CS_weigh_61 (N : Nat) : Nat → Int64 → Int32 → Int32 → Mem → Option Mem
  | 0, _, _, _, _ => none
  | n + 1, x1, x3, x4, μ => if (μ.1 3 0) ≤ x4 then (if x3 = (0 : Int32) then ((pZ μ 4 10 (1 : Int32)).bind fun μ124 => (pJ μ124 4 11 x1).bind fun μ129 => (ldJ μ129 43 (4 : Int32)).bind fun v138 => (pJ μ129 4 12 v138).bind fun μ139 => some μ139) else ((ldZ μ 13 x3).bind fun v150 => if v150 = (0 : Int32) then ((stZ μ 13 x3 (1 : Int32)).bind fun μ160 => (stI μ160 24 (μ160.1 4 8) x3).bind fun μ170 => (pI μ170 4 8 ((μ170.1 4 8) + (1 : Int32))).bind fun μ178 => some μ178) else (some μ))) else ((ldI μ 23 x4).bind fun v86 => bn2 (M_Ru_keeps N v86 44 μ) fun r91 μ91 => if r91 = (0 : Int32) then ((ldI μ91 23 x4).bind fun v108 => nm (x3 ||| ((1 : Int32) <<< (v108 &&& 31))) fun x3_111 => M_CS_weigh_61 N n x1 x3_111 (x4 + 1) μ91) else (M_CS_weigh_61 N n x1 x3 (x4 + 1) μ91))
def M_CS_weigh_41 (N : Nat) (x1 : Int64) (μ : Mem) : Option Mem := (M_Lo_hold N 43 44 μ).bind fun μ53 => M_CS_weigh_61 N N x1 (0 : Int32) (0 : Int32) μ53
def M_CS_weigh (N : Nat) (μ : Mem) : Option Mem := bn2 (M_Lo_price N 43 μ) fun r8 μ8 => if (μ8.1 4 10) = (0 : Int32) then (M_CS_weigh_41 N r8 μ8) else ((ldJ μ8 43 (4 : Int32)).bind fun v25 => (M_CS_isLess N r8 v25 (μ8.2 4 11) (μ8.2 4 12)).bind fun r34 => if r34 = (0 : Int32) then (some μ8) else (M_CS_weigh_41 N r8 μ8))
def M_CS_visitCorners_69 (N : Nat) (K13 : Int32 → Nat → Int32 → Mem → Option Mem) : Nat → Int32 → Nat → Int32 → Int32 → Int32 → Int32 → Mem → Option Mem
  | 0, _, _, _, _, _, _, _ => none
  | n + 1, x1, k2, x3, x4, x5, x6, μ => if (16 : Int32) ≤ x6 then (K13 x1 k2 (x3 + 1) μ) else (if (x6 &&& (x5 ^^^ (-1 : Int32))) = (0 : Int32) then (bn2 (M_CS_meets N k2 x4 x6 μ) fun r92 μ92 => if r92 = (0 : Int32) then (M_CS_visitCorners_69 N K13 n x1 k2 x3 x4 x5 (x6 + 1) μ92) else ((M_CS_weigh N μ92).bind fun μ99 => M_CS_visitCorners_69 N K13 n x1 k2 x3 x4 x5 (x6 + 1) μ99)) else (M_CS_visitCorners_69 N K13 n x1 k2 x3 x4 x5 (x6 + 1) μ))
def M_CS_visitCorners_13 (N : Nat) : Nat → Int32 → Nat → Int32 → Mem → Option Mem
  | 0, _, _, _, _ => none
  | n + 1, x1, k2, x3, μ => (ldS tSTARTS (x1 + (1 : Int32))).bind fun v20 => if v20 ≤ x3 then (some μ) else ((ldS tSETS x3).bind fun v28 => if (v28 &&& ((μ.1 4 9) ^^^ (-1 : Int32))) = (0 : Int32) then ((ldJ μ k2 v28).bind fun v46 => if (lg_cmp v46 (0 : Int64)) = (0 : Int32) then (M_CS_visitCorners_13 N n x1 k2 (x3 + 1) μ) else (nm ((μ.1 4 9) &&& (v28 ^^^ (-1 : Int32))) fun x5_64 => M_CS_visitCorners_69 N (M_CS_visitCorners_13 N n) N x1 k2 x3 v28 x5_64 (0 : Int32) μ)) else (M_CS_visitCorners_13 N n x1 k2 (x3 + 1) μ))
def M_CS_visitCorners (N : Nat) (x1 : Int32) (μ : Mem) : Option Mem := (ldA 10 x1).bind fun a5 => (ldS tSTARTS x1).bind fun v11 => M_CS_visitCorners_13 N N x1 a5 v11 μ
def M_CS_expand_8 (N : Nat) : Nat → Nat → Nat → Int32 → Int64 → Int64 → Int32 → Mem → Option (Int64 × Mem)
  | 0, _, _, _, _, _, _, _ => none
  | n + 1, k0, k1, x2, x3, x5, x7, μ => if x7 < (0 : Int32) then (some (x3, μ)) else ((M_RP_hasBit N x2 x7).bind fun r16 => if r16 = (0 : Int32) then (M_CS_expand_8 N n k0 k1 x2 x3 x5 (x7 + (-1)) μ) else ((ldJ μ k1 x7).bind fun v28 => (ldJ μ k0 (x2 ^^^ ((1 : Int32) <<< (x7 &&& 31)))).bind fun v37 => nm (x3 + ((x5 * v28) * v37)) fun x3_40 => nm (-x5) fun x5_44 => M_CS_expand_8 N n k0 k1 x2 x3_40 x5_44 (x7 + (-1)) μ))
def M_CS_expand (N : Nat) (k0 : Nat) (k1 : Nat) (x2 : Int32) (μ : Mem) : Option (Int64 × Mem) := M_CS_expand_8 N N k0 k1 x2 (0 : Int64) (1 : Int64) (4 : Int32) μ
def M_CS_add_29 (N : Nat) : Nat → Int32 → Nat → Nat → Nat → Int32 → Int32 → Mem → Option (Int32 × Mem)
  | 0, _, _, _, _, _, _, _ => none
  | n + 1, x1, k2, k3, k4, x5, x6, μ => (ldS tSTARTS (x1 + (2 : Int32))).bind fun v37 => if v37 ≤ x6 then (reZ x5 μ) else ((ldS tSETS x6).bind fun v46 => bn2 (M_CS_expand N k3 k2 v46 μ) fun r57 μ57 => (stJ μ57 k4 v46 r57).bind fun μ60 => (ldJ μ60 k4 v46).bind fun v65 => if (lg_cmp v65 (0 : Int64)) = (0 : Int32) then (M_CS_add_29 N n x1 k2 k3 k4 x5 (x6 + 1) μ60) else (if (v46 &&& ((μ60.1 4 9) ^^^ (-1 : Int32))) = (0 : Int32) then (M_CS_add_29 N n x1 k2 k3 k4 (1 : Int32) (x6 + 1) μ60) else (M_CS_add_29 N n x1 k2 k3 k4 x5 (x6 + 1) μ60)))
def M_CS_add (N : Nat) (x1 : Int32) (k2 : Nat) (μ : Mem) : Option (Int32 × Mem) := (ldA 10 x1).bind fun a5 => (ldA 10 (x1 + (1 : Int32))).bind fun a14 => (ldS tSTARTS (x1 + (1 : Int32))).bind fun v26 => M_CS_add_29 N N x1 k2 a5 a14 (0 : Int32) v26 μ
def M_CS_addBoth (N : Nat) (x1 : Int32) (x2 : Int32) (μ : Mem) : Option (Int32 × Mem) := (ldI μ 19 x2).bind fun v8 => if v8 = (6 : Int32) then (reZ (0 : Int32) μ) else (if (4 : Int32) < (x1 + (2 : Int32)) then (reZ (0 : Int32) μ) else ((ldI μ 18 x2).bind fun v38 => (ldA 8 v38).bind fun a39 => bn2 (M_CS_add N x1 a39 μ) fun r40 μ40 => if r40 = (0 : Int32) then (reZ (0 : Int32) μ40) else ((ldI μ40 19 x2).bind fun v65 => (ldA 8 v65).bind fun a66 => bn2 (M_CS_add N (x1 + (1 : Int32)) a66 μ40) fun r67 μ67 => if r67 = (0 : Int32) then (reZ (0 : Int32) μ67) else (reZ (1 : Int32) μ67))))
def M_CS_tighten_134 (N : Nat) (T_CS_tighten : Int32 → Int32 → Mem → Option Mem) (K21 : Int32 → Int32 → Mem → Option Mem) (x2 : Int32) (x3 : Int32) (x4 : Int32) (μ : Mem) : Option Mem := bn2 (M_CS_addBoth N x2 x4 μ) fun r138 μ138 => if r138 = (0 : Int32) then (K21 x2 (x3 + 1) μ138) else ((T_CS_tighten (x3 + (1 : Int32)) (x2 + (2 : Int32)) μ138).bind fun μ151 => K21 x2 (x3 + 1) μ151)
def M_CS_tighten_77 (N : Nat) (T_CS_tighten : Int32 → Int32 → Mem → Option Mem) (K21 : Int32 → Int32 → Mem → Option Mem) (x2 : Int32) (x3 : Int32) (x4 : Int32) (μ : Mem) : Option Mem := (ldI μ 20 x4).bind fun v86 => (ldI μ 21 x4).bind fun v96 => if v86 = v96 then (K21 x2 (x3 + 1) μ) else ((ldA 9 (((2 : Int32) * x3) + (1 : Int32))).bind fun a117 => bn2 (M_CS_add N x2 a117 μ) fun r118 μ118 => if r118 = (0 : Int32) then (M_CS_tighten_134 N T_CS_tighten K21 x2 x3 x4 μ118) else ((T_CS_tighten (x3 + (1 : Int32)) (x2 + (1 : Int32)) μ118).bind fun μ131 => M_CS_tighten_134 N T_CS_tighten K21 x2 x3 x4 μ131))
def M_CS_tighten_21 (N : Nat) (T_CS_tighten : Int32 → Int32 → Mem → Option Mem) : Nat → Int32 → Int32 → Mem → Option Mem
  | 0, _, _, _ => none
  | n + 1, x2, x3, μ => if (μ.1 3 0) ≤ x3 then (some μ) else (if (4 : Int32) ≤ x2 then (some μ) else ((ldI μ 23 x3).bind fun v45 => (ldA 9 ((2 : Int32) * x3)).bind fun a60 => bn2 (M_CS_add N x2 a60 μ) fun r61 μ61 => if r61 = (0 : Int32) then (M_CS_tighten_77 N T_CS_tighten (M_CS_tighten_21 N T_CS_tighten n) x2 x3 v45 μ61) else ((T_CS_tighten (x3 + (1 : Int32)) (x2 + (1 : Int32)) μ61).bind fun μ74 => M_CS_tighten_77 N T_CS_tighten (M_CS_tighten_21 N T_CS_tighten n) x2 x3 v45 μ74)))
def M_CS_tighten (N : Nat) : Nat → Int32 → Int32 → Mem → Option Mem
  | 0, _, _, _ => none
  | d + 1, x1, x2, μ => if x1 < (0 : Int32) then (some μ) else (if x2 < (0 : Int32) then (some μ) else (if x2 ≤ (4 : Int32) then ((M_CS_visitCorners N x2 μ).bind fun μ16 => M_CS_tighten_21 N (M_CS_tighten N d) N x2 x1 μ16) else (some μ)))
def M_CS_search (N : Nat) (μ : Mem) : Option Mem := (M_CS_begin N μ).bind fun μ1 => (M_CS_tighten N 6 (0 : Int32) (0 : Int32) μ1).bind fun μ7 => some μ7
def M_Ma_min (N : Nat) (x0 : Int64) (x2 : Int64) : Option Int64 := if (0 : Int32) < (lg_cmp x0 x2) then (some x2) else (some x0)
def M_Ma_max (N : Nat) (x0 : Int64) (x2 : Int64) : Option Int64 := if (lg_cmp x0 x2) < (0 : Int32) then (some x2) else (some x0)
def M_WS_begin_87 (N : Nat) (K42 : Int32 → Mem → Option Mem) : Nat → Int32 → Int32 → Mem → Option Mem
  | 0, _, _, _ => none
  | n + 1, x1, x2, μ => if ((2 : Int32) * (μ.1 3 0)) ≤ x2 then (K42 (x1 + (-1)) μ) else ((ldA 12 x1).bind fun a105 => (ldA 12 (x1 + (1 : Int32))).bind fun a114 => (ldJ μ a114 x2).bind fun v116 => (ldA 9 x2).bind fun a126 => (ldJ μ a126 x1).bind fun v128 => (ldI μ 17 x1).bind fun v137 => (M_Ma_max N (0 : Int64) (v128 * v137.toInt64)).bind fun r140 => (stJ μ a105 x2 (v116 + r140)).bind fun μ144 => M_WS_begin_87 N K42 n x1 (x2 + 1) μ144)
def M_WS_begin_42 (N : Nat) : Nat → Int32 → Mem → Option Mem
  | 0, _, _ => none
  | n + 1, x1, μ => if x1 < (0 : Int32) then (some μ) else ((ldJ μ 45 (x1 + (1 : Int32))).bind fun v58 => (ldJ μ 42 x1).bind fun v68 => (ldI μ 17 x1).bind fun v77 => (M_Ma_min N (0 : Int64) (v68 * v77.toInt64)).bind fun r80 => (stJ μ 45 x1 (v58 + r80)).bind fun μ84 => M_WS_begin_87 N (M_WS_begin_42 N n) N x1 (0 : Int32) μ84)
def M_WS_begin_2 (N : Nat) : Nat → Int32 → Mem → Option Mem
  | 0, _, _ => none
  | n + 1, x1, μ => if ((2 : Int32) * (μ.1 3 0)) ≤ x1 then (M_WS_begin_42 N N (3 : Int32) μ) else ((ldA 11 (0 : Int32)).bind fun a20 => (ldA 9 x1).bind fun a30 => (ldJ μ a30 (4 : Int32)).bind fun v32 => (stJ μ a20 x1 v32).bind fun μ33 => M_WS_begin_2 N n (x1 + 1) μ33)
def M_WS_begin (N : Nat) (μ : Mem) : Option Mem := M_WS_begin_2 N N (0 : Int32) μ
def M_WS_mostLoads_14 (N : Nat) : Nat → Int32 → Int64 → Int32 → Mem → Option (Int32 × Mem)
  | 0, _, _, _, _ => none
  | n + 1, x1, x2, x4, μ => if ((2 : Int32) * (μ.1 3 0)) ≤ x4 then ((M_Ma_max N x2 (-1 : Int64)).bind fun r114 => some (r114.toInt32, μ)) else ((ldA 9 x4).bind fun a37 => (ldJ μ a37 x1).bind fun v39 => (ldA 11 x1).bind fun a47 => (ldJ μ a47 x4).bind fun v50 => (ldA 12 (x1 + (1 : Int32))).bind fun a58 => (ldJ μ a58 x4).bind fun v61 => nm (v50 + v61) fun x7_63 => if (0 : Int32) ≤ (lg_cmp v39 (0 : Int64)) then (if (lg_cmp v39 (0 : Int64)) = (0 : Int32) then (if (0 : Int32) ≤ (lg_cmp x7_63 (0 : Int64)) then (M_WS_mostLoads_14 N n x1 x2 (x4 + 1) μ) else (some ((-1 : Int32), μ))) else (M_WS_mostLoads_14 N n x1 x2 (x4 + 1) μ)) else ((M_Ma_floorDiv N x7_63 (-v39)).bind fun r78 => (M_Ma_min N x2 r78).bind fun r81 => M_WS_mostLoads_14 N n x1 r81 (x4 + 1) μ))
def M_WS_mostLoads (N : Nat) (x1 : Int32) (μ : Mem) : Option (Int32 × Mem) := (ldI μ 17 x1).bind fun v8 => nm v8.toInt64 fun x2_10 => M_WS_mostLoads_14 N N x1 x2_10 (0 : Int32) μ
def M_WS_fewestLoads_5 (N : Nat) : Nat → Int32 → Int64 → Int32 → Mem → Option (Int32 × Mem)
  | 0, _, _, _, _ => none
  | n + 1, x1, x2, x4, μ => if ((2 : Int32) * (μ.1 3 0)) ≤ x4 then ((M_Ma_min N x2 (10 : Int64)).bind fun r86 => some (r86.toInt32, μ)) else ((ldA 9 x4).bind fun a28 => (ldJ μ a28 x1).bind fun v30 => if (lg_cmp v30 (0 : Int64)) ≤ (0 : Int32) then (M_WS_fewestLoads_5 N n x1 x2 (x4 + 1) μ) else ((ldA 11 x1).bind fun a45 => (ldJ μ a45 x4).bind fun v48 => (ldA 12 (x1 + (1 : Int32))).bind fun a56 => (ldJ μ a56 x4).bind fun v59 => nm (v48 + v59) fun x7_61 => (M_Ma_floorDiv N x7_61 v30).bind fun r68 => (M_Ma_max N x2 (-r68)).bind fun r72 => M_WS_fewestLoads_5 N n x1 r72 (x4 + 1) μ))
def M_WS_fewestLoads (N : Nat) (x1 : Int32) (μ : Mem) : Option (Int32 × Mem) := M_WS_fewestLoads_5 N N x1 (0 : Int64) (0 : Int32) μ
def M_WS_take_36 (N : Nat) (T_WS_place : Int32 → Int64 → Mem → Option Mem) : Nat → Int32 → Int32 → Int64 → Int32 → Mem → Option Mem
  | 0, _, _, _, _, _ => none
  | n + 1, x1, x2, x3, x5, μ => if ((2 : Int32) * (μ.1 3 0)) ≤ x5 then ((T_WS_place (x1 + (1 : Int32)) x3 μ).bind fun μ97 => some μ97) else ((ldA 11 (x1 + (1 : Int32))).bind fun a57 => (ldA 11 x1).bind fun a65 => (ldJ μ a65 x5).bind fun v68 => (ldA 9 x5).bind fun a78 => (ldJ μ a78 x1).bind fun v80 => (stJ μ a57 x5 (v68 + (v80 * x2.toInt64))).bind fun μ85 => M_WS_take_36 N T_WS_place n x1 x2 x3 (x5 + 1) μ85)
def M_WS_take_26 (N : Nat) (T_WS_place : Int32 → Int64 → Mem → Option Mem) (x1 : Int32) (x2 : Int32) (x3 : Int64) (μ : Mem) : Option Mem := (stI μ 25 x1 x2).bind fun μ32 => M_WS_take_36 N T_WS_place N x1 x2 x3 (0 : Int32) μ32
def M_WS_take (N : Nat) (T_WS_place : Int32 → Int64 → Mem → Option Mem) (x1 : Int32) (x2 : Int32) (x3 : Int64) (μ : Mem) : Option Mem := if (μ.1 5 6) = (0 : Int32) then (M_WS_take_26 N T_WS_place x1 x2 x3 μ) else ((ldJ μ 45 (x1 + (1 : Int32))).bind fun v15 => if (lg_cmp (x3 + v15) (μ.2 5 7)) < (0 : Int32) then (M_WS_take_26 N T_WS_place x1 x2 x3 μ) else (some μ))
def M_WS_offer_29 (N : Nat) : Nat → Int32 → Mem → Option Mem
  | 0, _, _ => none
  | n + 1, x3, μ => if (4 : Int32) ≤ x3 then (some μ) else ((ldI μ 25 x3).bind fun v44 => (stI μ 26 x3 v44).bind fun μ45 => M_WS_offer_29 N n (x3 + 1) μ45)
def M_WS_offer_17 (N : Nat) (x1 : Int64) (μ : Mem) : Option Mem := (pZ μ 5 6 (1 : Int32)).bind fun μ19 => (pJ μ19 5 7 x1).bind fun μ24 => M_WS_offer_29 N N (0 : Int32) μ24
def M_WS_offer (N : Nat) (x1 : Int64) (μ : Mem) : Option Mem := if (μ.1 5 6) = (0 : Int32) then (M_WS_offer_17 N x1 μ) else (if (lg_cmp x1 (μ.2 5 7)) < (0 : Int32) then (M_WS_offer_17 N x1 μ) else (some μ))
def M_WS_place_99 (N : Nat) (T_WS_place : Int32 → Int64 → Mem → Option Mem) (x1 : Int32) (x2 : Int64) (y0 : Int32) (μ : Mem) : Option Mem := (stI μ 25 x1 y0).bind fun μ108 => (ldJ μ108 42 x1).bind fun v119 => (M_WS_offer N (x2 + (v119 * y0.toInt64)) μ108).bind fun μ125 => some μ125
def M_WS_place_33 (N : Nat) (T_WS_place : Int32 → Int64 → Mem → Option Mem) : Nat → Int32 → Int64 → Int32 → Int32 → Mem → Option Mem
  | 0, _, _, _, _, _ => none
  | n + 1, x1, x2, x4, x6, μ => if x4 < x6 then (some μ) else ((ldJ μ 42 x1).bind fun v53 => (M_WS_take N T_WS_place x1 x6 (x2 + (v53 * x6.toInt64)) μ).bind fun μ59 => M_WS_place_33 N T_WS_place n x1 x2 x4 (x6 + 1) μ59)
def M_WS_place (N : Nat) : Nat → Int32 → Int64 → Mem → Option Mem
  | 0, _, _, _ => none
  | d + 1, x1, x2, μ => if x1 < (0 : Int32) then (some μ) else (if x1 < (4 : Int32) then (bn2 (M_WS_mostLoads N x1 μ) fun r12 μ12 => bn2 (M_WS_fewestLoads N x1 μ12) fun r19 μ19 => if (3 : Int32) ≤ x1 then (if r12 < r19 then (some μ19) else ((ldJ μ19 42 x1).bind fun v86 => if (0 : Int32) ≤ (lg_cmp v86 (0 : Int64)) then (M_WS_place_99 N (M_WS_place N d) x1 x2 r19 μ19) else (M_WS_place_99 N (M_WS_place N d) x1 x2 r12 μ19))) else (M_WS_place_33 N (M_WS_place N d) N x1 x2 r12 r19 μ19)) else (some μ))
def M_WS_search (N : Nat) (x1 : Int32) (μ : Mem) : Option Mem := (pZ μ 5 6 (0 : Int32)).bind fun μ2 => (pJ μ2 5 7 (0 : Int64)).bind fun μ7 => if x1 = (0 : Int32) then (some μ7) else ((M_WS_begin N μ7).bind fun μ15 => (M_WS_place N 5 (0 : Int32) (0 : Int64) μ15).bind fun μ21 => some μ21)
def M_Ma_abs (N : Nat) (x0 : Int64) : Option Int64 := if (0 : Int32) ≤ (lg_cmp x0 (0 : Int64)) then (some x0) else (some (-x0))
def M_CS_commonDivisor_46 (N : Nat) (x3 : Int64) (μ : Mem) : Option (Int64 × Mem) := if (lg_cmp x3 (0 : Int64)) ≤ (0 : Int32) then (some ((1 : Int64), μ)) else (some (x3, μ))
def M_CS_commonDivisor_16 (N : Nat) : Nat → Int64 → Int64 → Int32 → Mem → Option (Int64 × Mem)
  | 0, _, _, _, _ => none
  | n + 1, x1, x3, x5, μ => if (200 : Int32) ≤ x5 then (M_CS_commonDivisor_46 N x3 μ) else (if (lg_cmp x1 (0 : Int64)) = (0 : Int32) then (M_CS_commonDivisor_46 N x3 μ) else ((rmJ x3 x1).bind fun v32 => M_CS_commonDivisor_16 N n v32 x1 (x5 + 1) μ))
def M_CS_commonDivisor (N : Nat) (μ : Mem) : Option (Int64 × Mem) := (M_Ma_abs N (μ.2 4 11)).bind fun r4 => nm (μ.2 4 12) fun x3_12 => M_CS_commonDivisor_16 N N r4 x3_12 (0 : Int32) μ
def M_CS_allBreak_2 (N : Nat) : Nat → Int32 → Int32 → Mem → Option (Int32 × Mem)
  | 0, _, _, _ => none
  | n + 1, x1, x2, μ => if (μ.1 4 8) ≤ x2 then (reZ (1 : Int32) μ) else ((ldI μ 24 x2).bind fun v15 => if (v15 &&& x1) = (0 : Int32) then (reZ (0 : Int32) μ) else (M_CS_allBreak_2 N n x1 (x2 + 1) μ))
def M_CS_allBreak (N : Nat) (x1 : Int32) (μ : Mem) : Option (Int32 × Mem) := M_CS_allBreak_2 N N x1 (0 : Int32) μ
def M_CS_fewestClashing_7 (N : Nat) : Nat → Int32 → Int32 → Int32 → Mem → Option (Int32 × Mem)
  | 0, _, _, _, _ => none
  | n + 1, x1, x2, x3, μ => if (256 : Int32) ≤ x3 then (some (x1, μ)) else (if (x3 &&& ((μ.1 2 0) ^^^ (-1 : Int32))) = (0 : Int32) then ((M_In_bitCount N x3).bind fun r29 => if x2 ≤ r29 then (M_CS_fewestClashing_7 N n x1 x2 (x3 + 1) μ) else (bn2 (M_CS_allBreak N x3 μ) fun r38 μ38 => if r38 = (0 : Int32) then (M_CS_fewestClashing_7 N n x1 x2 (x3 + 1) μ38) else ((M_In_bitCount N x3).bind fun r47 => M_CS_fewestClashing_7 N n x3 r47 (x3 + 1) μ38))) else (M_CS_fewestClashing_7 N n x1 x2 (x3 + 1) μ))
def M_CS_fewestClashing (N : Nat) (μ : Mem) : Option (Int32 × Mem) := M_CS_fewestClashing_7 N N (0 : Int32) (9 : Int32) (1 : Int32) μ
def M_Fo_takeCut_39 (N : Nat) (μ : Mem) : Option Mem := if (μ.1 4 10) = (0 : Int32) then (bn2 (M_CS_fewestClashing N μ) fun r52 μ52 => (pI μ52 6 7 r52).bind fun μ55 => some μ55) else ((pI μ 6 7 (0 : Int32)).bind fun μ55 => some μ55)
def M_Fo_takeCut (N : Nat) (μ : Mem) : Option Mem := bn2 (M_CS_commonDivisor N μ) fun r1 μ1 => (pZ μ1 6 4 (μ1.1 4 10)).bind fun μ10 => if (lg_cmp r1 (0 : Int64)) ≤ (0 : Int32) then (M_Fo_takeCut_39 N μ10) else ((dvJ (μ10.2 4 11) r1).bind fun v25 => (pJ μ10 6 5 v25).bind fun μ26 => (dvJ (μ26.2 4 12) r1).bind fun v35 => (pJ μ26 6 6 v35).bind fun μ36 => M_Fo_takeCut_39 N μ36)
def M_Fo_takeWhole_23 (N : Nat) : Nat → Int32 → Mem → Option Mem
  | 0, _, _ => none
  | n + 1, x3, μ => if (4 : Int32) ≤ x3 then (some μ) else ((ldI μ 26 x3).bind fun v38 => (stI μ 27 x3 v38).bind fun μ39 => M_Fo_takeWhole_23 N n (x3 + 1) μ39)
def M_Fo_takeWhole (N : Nat) (x2 : Int32) (μ : Mem) : Option Mem := (pZ μ 6 0 (μ.1 5 6)).bind fun μ5 => (pI μ5 6 1 x2).bind fun μ10 => (pJ μ10 6 3 (μ10.2 5 7)).bind fun μ18 => M_Fo_takeWhole_23 N N (0 : Int32) μ18
def M_RP_run (N : Nat) (μ : Mem) : Option (Int32 × Mem) := (M_Si_build N μ).bind fun μ12 => (M_CS_search N μ12).bind fun μ19 => (M_WS_search N (μ19.1 4 10) μ19).bind fun μ33 => (M_Fo_takeCut N μ33).bind fun μ44 => (M_Fo_takeWhole N (μ44.1 1 0) μ44).bind fun μ62 => if (μ62.1 5 6) = (0 : Int32) then (if (μ62.1 4 10) = (0 : Int32) then (some ((2 : Int32), μ62)) else (some ((1 : Int32), μ62))) else (some ((0 : Int32), μ62))
def M_RP_best (N : Nat) (x1 : Int32) (μ : Mem) : Option (Int32 × Mem) := if (μ.1 6 0) = (0 : Int32) then (some ((-1 : Int32), μ)) else ((M_RP_within N x1.toInt64 (0 : Int64) (((μ.1 6 1) - (1 : Int32)).toInt64)).bind fun r23 => if r23 = (0 : Int32) then (some ((-1 : Int32), μ)) else ((ldI μ 27 x1).bind fun v37 => some (v37, μ)))
def M_RP_cost (N : Nat) (μ : Mem) : Option (Int64 × Mem) := if (μ.1 6 0) = (0 : Int32) then (some ((-9223372036854775808 : Int64), μ)) else (some (μ.2 6 3, μ))
def M_RP_cut (N : Nat) (x1 : Int32) (μ : Mem) : Option (Int64 × Mem) := if (μ.1 6 4) = (0 : Int32) then (some ((-9223372036854775808 : Int64), μ)) else ((M_RP_within N x1.toInt64 (0 : Int64) (1 : Int64)).bind fun r14 => if r14 = (0 : Int32) then (some ((-9223372036854775808 : Int64), μ)) else (if x1 = (0 : Int32) then (some (μ.2 6 5, μ)) else (some (μ.2 6 6, μ))))
def M_RP_clashes (N : Nat) (μ : Mem) : Option (Int32 × Mem) := if (μ.1 6 7) = (0 : Int32) then (some ((-1 : Int32), μ)) else ((M_In_bitCount N (μ.1 6 7)).bind fun r21 => some (r21, μ))
def M_RP_clash (N : Nat) (x1 : Int32) (μ : Mem) : Option (Int32 × Mem) := (M_RP_within N x1.toInt64 (0 : Int64) (7 : Int64)).bind fun r6 => if r6 = (0 : Int32) then (reZ (0 : Int32) μ) else ((M_RP_hasBit N (μ.1 6 7) x1).bind fun r20 => if r20 = (0 : Int32) then (reZ (0 : Int32) μ) else (reZ (1 : Int32) μ))
def M_RP_broken_100 (N : Nat) : Nat → Int32 → Mem → Option (Int32 × Mem)
  | 0, _, _ => none
  | n + 1, x5, μ => if (8 : Int32) ≤ x5 then (some ((8 : Int32), μ)) else (bn2 (M_Ru_isTold N x5 μ) fun r113 μ113 => if r113 = (0 : Int32) then (M_RP_broken_100 N n (x5 + 1) μ113) else (bn2 (M_Ru_keeps N x5 41 μ113) fun r129 μ129 => if r129 = (0 : Int32) then (some (x5, μ129)) else (M_RP_broken_100 N n (x5 + 1) μ129)))
def M_RP_broken_43 (N : Nat) : Nat → Int32 → Mem → Option (Int32 × Mem)
  | 0, _, _ => none
  | n + 1, x5, μ => if (4 : Int32) ≤ x5 then ((M_Lo_hold N 40 41 μ).bind fun μ94 => M_RP_broken_100 N N (0 : Int32) μ94) else ((ldJ μ 40 x5).bind fun v55 => (ldI μ 17 x5).bind fun v66 => (M_RP_within N v55 (0 : Int64) v66.toInt64).bind fun r68 => if r68 = (0 : Int32) then (some ((-1 : Int32), μ)) else (M_RP_broken_43 N n (x5 + 1) μ))
def M_RP_broken (N : Nat) (x1 : Int32) (x2 : Int32) (x3 : Int32) (x4 : Int32) (μ : Mem) : Option (Int32 × Mem) := (stJ μ 40 (0 : Int32) x1.toInt64).bind fun μ7 => (stJ μ7 40 (1 : Int32) x2.toInt64).bind fun μ15 => (stJ μ15 40 (2 : Int32) x3.toInt64).bind fun μ23 => (stJ μ23 40 (3 : Int32) x4.toInt64).bind fun μ32 => (stJ μ32 40 (4 : Int32) (1 : Int64)).bind fun μ39 => M_RP_broken_43 N N (0 : Int32) μ39
def M_Mo_isIn (N : Nat) (x0 : Int64) (x2 : Int64) (x4 : Int64) : Option Int32 := if (lg_cmp x0 x2) < (0 : Int32) then (okZ (0 : Int32)) else (if (0 : Int32) < (lg_cmp x0 x4) then (okZ (0 : Int32)) else (okZ (1 : Int32)))
def M_Mo_isWhat (N : Nat) (x0 : Int32) : Option Int32 := if x0 < (0 : Int32) then (okZ (0 : Int32)) else (if (5 : Int32) ≤ x0 then (okZ (0 : Int32)) else (okZ (1 : Int32)))
def M_Mo_lot (N : Nat) (x1 : Int32) (x2 : Int64) (μ : Mem) : Option (Int32 × Mem) := if (μ.1 7 0) = (4 : Int32) then (some ((-1 : Int32), μ)) else ((M_Mo_isIn N x1.toInt64 (0 : Int64) (9 : Int64)).bind fun r14 => if r14 = (0 : Int32) then (some ((-1 : Int32), μ)) else ((M_Mo_isIn N x2 (-1000 : Int64) (1000 : Int64)).bind fun r27 => if r27 = (0 : Int32) then (some ((-1 : Int32), μ)) else ((stI μ 28 (μ.1 7 0) x1).bind fun μ44 => (stI μ44 29 (μ44.1 7 0) x2.toInt32).bind fun μ55 => (pI μ55 7 0 ((μ55.1 7 0) + (1 : Int32))).bind fun μ63 => some ((μ63.1 7 0) - (1 : Int32), μ63))))
def M_Mo_amount (N : Nat) (x1 : Int32) (x2 : Int32) (x3 : Int32) (μ : Mem) : Option (Int32 × Mem) := if x1 < (0 : Int32) then (reZ (0 : Int32) μ) else (if (μ.1 7 0) ≤ x1 then (reZ (0 : Int32) μ) else ((M_Mo_isWhat N x2).bind fun r13 => if r13 = (0 : Int32) then (reZ (0 : Int32) μ) else ((M_Mo_isIn N x3.toInt64 (-100 : Int64) (100 : Int64)).bind fun r27 => if r27 = (0 : Int32) then (reZ (0 : Int32) μ) else ((stI μ 30 (((5 : Int32) * x1) + x2) x3).bind fun μ45 => reZ (1 : Int32) μ45))))
def M_Mo_tell (N : Nat) (x1 : Int32) (x2 : Int32) (x3 : Int32) (μ : Mem) : Option (Int32 × Mem) := (stZ μ 14 x1 (1 : Int32)).bind fun μ6 => (stI μ6 31 x1 x2).bind fun μ13 => (stI μ13 32 x1 x3).bind fun μ20 => reZ (1 : Int32) μ20
def M_Mo_span (N : Nat) (x1 : Int32) (x2 : Int32) (x3 : Int32) (μ : Mem) : Option (Int32 × Mem) := (M_Mo_isWhat N x1).bind fun r1 => if r1 = (0 : Int32) then (reZ (0 : Int32) μ) else ((M_Mo_isIn N x2.toInt64 (-100000 : Int64) x3.toInt64).bind fun r14 => if r14 = (0 : Int32) then (reZ (0 : Int32) μ) else ((M_Mo_isIn N x3.toInt64 x2.toInt64 (100000 : Int64)).bind fun r27 => if r27 = (0 : Int32) then (reZ (0 : Int32) μ) else (bn2 (M_Mo_tell N x1 x2 x3 μ) fun r37 μ37 => if r37 = (0 : Int32) then (reZ (0 : Int32) μ37) else (reZ (1 : Int32) μ37))))
def M_Mo_ratio (N : Nat) (x1 : Int32) (x2 : Int32) (x3 : Int32) (x4 : Int32) (x5 : Int32) (x6 : Int32) (μ : Mem) : Option (Int32 × Mem) := if x1 < (0 : Int32) then (reZ (0 : Int32) μ) else (if (1 : Int32) < x1 then (reZ (0 : Int32) μ) else ((M_Mo_isWhat N x2).bind fun r10 => if r10 = (0 : Int32) then (reZ (0 : Int32) μ) else ((M_Mo_isWhat N x3).bind fun r17 => if r17 = (0 : Int32) then (reZ (0 : Int32) μ) else ((M_Mo_isIn N x4.toInt64 (0 : Int64) x5.toInt64).bind fun r30 => if r30 = (0 : Int32) then (reZ (0 : Int32) μ) else ((M_Mo_isIn N x5.toInt64 x4.toInt64 (100 : Int64)).bind fun r45 => if r45 = (0 : Int32) then (reZ (0 : Int32) μ) else ((M_Mo_isIn N x6.toInt64 (1 : Int64) (100 : Int64)).bind fun r58 => if r58 = (0 : Int32) then (reZ (0 : Int32) μ) else ((stI μ 34 ((5 : Int32) + x1) x2).bind fun μ74 => (stI μ74 35 ((5 : Int32) + x1) x3).bind fun μ83 => (stI μ83 33 ((5 : Int32) + x1) x6).bind fun μ93 => bn2 (M_Mo_tell N ((5 : Int32) + x1) x4 x5 μ93) fun r102 μ102 => reZ r102 μ102)))))))
def M_Mo_loads (N : Nat) (x1 : Int32) (x2 : Int32) (μ : Mem) : Option (Int32 × Mem) := (M_Mo_isIn N x1.toInt64 (0 : Int64) x2.toInt64).bind fun r5 => if r5 = (0 : Int32) then (reZ (0 : Int32) μ) else ((M_Mo_isIn N x2.toInt64 x1.toInt64 (36 : Int64)).bind fun r18 => if r18 = (0 : Int32) then (reZ (0 : Int32) μ) else (bn2 (M_Mo_tell N (7 : Int32) x1 x2 μ) fun r29 μ29 => if r29 = (0 : Int32) then (reZ (0 : Int32) μ29) else (reZ (1 : Int32) μ29)))
def M_Mo_untell (N : Nat) (x1 : Int32) (μ : Mem) : Option (Int32 × Mem) := if x1 < (0 : Int32) then (reZ (0 : Int32) μ) else (if (8 : Int32) ≤ x1 then (reZ (0 : Int32) μ) else ((ldZ μ 14 x1).bind fun v15 => if v15 = (0 : Int32) then (reZ (0 : Int32) μ) else ((stZ μ 14 x1 (0 : Int32)).bind fun μ27 => reZ (1 : Int32) μ27)))
def M_Mo_holds_4 (N : Nat) : Nat → Int32 → Int32 → Int32 → Mem → Option (Int32 × Mem)
  | 0, _, _, _, _ => none
  | n + 1, x1, x2, x3, μ => if (μ.1 7 0) ≤ x3 then (some (x2, μ)) else ((ldI μ 37 x3).bind fun v18 => (ldI μ 30 (((5 : Int32) * x3) + x1)).bind fun v28 => nm (x2 + (v18 * v28)) fun x2_31 => M_Mo_holds_4 N n x1 x2_31 (x3 + 1) μ)
def M_Mo_holds (N : Nat) (x1 : Int32) (μ : Mem) : Option (Int32 × Mem) := M_Mo_holds_4 N N x1 (0 : Int32) (0 : Int32) μ
def M_Mo_keeps (N : Nat) (x1 : Int32) (μ : Mem) : Option (Int32 × Mem) := if (5 : Int32) ≤ x1 then (if (7 : Int32) ≤ x1 then ((ldI μ 37 (0 : Int32)).bind fun v109 => (ldI μ 37 (1 : Int32)).bind fun v115 => (ldI μ 37 (2 : Int32)).bind fun v122 => (ldI μ 37 (3 : Int32)).bind fun v129 => (ldI μ 31 x1).bind fun v137 => (ldI μ 32 x1).bind fun v144 => (M_Mo_isIn N ((((v109 + v115) + v122) + v129).toInt64) v137.toInt64 v144.toInt64).bind fun r146 => reZ r146 μ) else ((ldI μ 33 x1).bind fun v40 => (ldI μ 34 x1).bind fun v48 => bn2 (M_Mo_holds N v48 μ) fun r49 μ49 => nm (v40.toInt64 * r49.toInt64) fun x2_54 => (ldI μ49 35 x1).bind fun v61 => bn2 (M_Mo_holds N v61 μ49) fun r62 μ62 => nm r62.toInt64 fun x4_66 => (ldI μ62 31 x1).bind fun v74 => if (lg_cmp x2_54 (v74.toInt64 * x4_66)) < (0 : Int32) then (reZ (0 : Int32) μ62) else ((ldI μ62 32 x1).bind fun v89 => if (0 : Int32) < (lg_cmp x2_54 (v89.toInt64 * x4_66)) then (reZ (0 : Int32) μ62) else (reZ (1 : Int32) μ62)))) else (bn2 (M_Mo_holds N x1 μ) fun r7 μ7 => (ldI μ7 31 x1).bind fun v16 => (ldI μ7 32 x1).bind fun v23 => (M_Mo_isIn N r7.toInt64 v16.toInt64 v23.toInt64).bind fun r25 => reZ r25 μ7)
def M_Mo_firstBroken_2 (N : Nat) : Nat → Int32 → Mem → Option (Int32 × Mem)
  | 0, _, _ => none
  | n + 1, x1, μ => if (8 : Int32) ≤ x1 then (some ((8 : Int32), μ)) else ((ldZ μ 14 x1).bind fun v13 => if v13 = (0 : Int32) then (M_Mo_firstBroken_2 N n (x1 + 1) μ) else (bn2 (M_Mo_keeps N x1 μ) fun r19 μ19 => if r19 = (0 : Int32) then (some (x1, μ19)) else (M_Mo_firstBroken_2 N n (x1 + 1) μ19)))
def M_Mo_firstBroken (N : Nat) (μ : Mem) : Option (Int32 × Mem) := M_Mo_firstBroken_2 N N (0 : Int32) μ
def M_Mo_broken_68 (N : Nat) (K32 : Int32 → Mem → Option (Int32 × Mem)) (x5 : Int32) (y0 : Int64) (y1 : Int64) (y2 : Int64) (μ : Mem) : Option (Int32 × Mem) := (M_Mo_isIn N y0 y1 y2).bind fun r68 => if r68 = (0 : Int32) then (some ((-1 : Int32), μ)) else (K32 (x5 + 1) μ)
def M_Mo_broken_32 (N : Nat) : Nat → Int32 → Mem → Option (Int32 × Mem)
  | 0, _, _ => none
  | n + 1, x5, μ => if (4 : Int32) ≤ x5 then (bn2 (M_Mo_firstBroken N μ) fun r83 μ83 => some (r83, μ83)) else ((ldI μ 37 x5).bind fun v44 => if (μ.1 7 0) ≤ x5 then (M_Mo_broken_68 N (M_Mo_broken_32 N n) x5 v44.toInt64 (0 : Int64) (0 : Int64) μ) else ((ldI μ 28 x5).bind fun v62 => M_Mo_broken_68 N (M_Mo_broken_32 N n) x5 v44.toInt64 (0 : Int64) v62.toInt64 μ))
def M_Mo_broken (N : Nat) (x1 : Int32) (x2 : Int32) (x3 : Int32) (x4 : Int32) (μ : Mem) : Option (Int32 × Mem) := (stI μ 37 (0 : Int32) x1).bind fun μ6 => (stI μ6 37 (1 : Int32) x2).bind fun μ13 => (stI μ13 37 (2 : Int32) x3).bind fun μ20 => (stI μ20 37 (3 : Int32) x4).bind fun μ28 => M_Mo_broken_32 N N (0 : Int32) μ28
def M_Mo_findWhole_167 (N : Nat) (K4 : Int32 → Int32 → Mem → Option (Int32 × Mem)) : Nat → Int32 → Int32 → Int32 → Mem → Option (Int32 × Mem)
  | 0, _, _, _, _ => none
  | n + 1, x1, x2, x7, μ => if (4 : Int32) ≤ x7 then (K4 x1 (x2 + 1) μ) else ((ldI μ 37 x7).bind fun v185 => (stI μ 36 x7 v185).bind fun μ186 => M_Mo_findWhole_167 N K4 n x1 x2 (x7 + 1) μ186)
def M_Mo_findWhole_156 (N : Nat) (K4 : Int32 → Int32 → Mem → Option (Int32 × Mem)) (x2 : Int32) (x5 : Int64) (μ : Mem) : Option (Int32 × Mem) := (pJ μ 7 13 x5).bind fun μ161 => M_Mo_findWhole_167 N K4 N (1 : Int32) x2 (0 : Int32) μ161
def M_Mo_findWhole_108 (N : Nat) (K4 : Int32 → Int32 → Mem → Option (Int32 × Mem)) : Nat → Int32 → Int32 → Int64 → Int32 → Mem → Option (Int32 × Mem)
  | 0, _, _, _, _, _ => none
  | n + 1, x1, x2, x5, x7, μ => if (4 : Int32) ≤ x7 then (if x1 = (0 : Int32) then (M_Mo_findWhole_156 N K4 x2 x5 μ) else (if (0 : Int32) ≤ (lg_cmp x5 (μ.2 7 13)) then (K4 x1 (x2 + 1) μ) else (M_Mo_findWhole_156 N K4 x2 x5 μ))) else ((ldI μ 37 x7).bind fun v122 => (ldI μ 29 x7).bind fun v130 => nm (x5 + (v122.toInt64 * v130.toInt64)) fun x5_134 => M_Mo_findWhole_108 N K4 n x1 x2 x5_134 (x7 + 1) μ)
def M_Mo_findWhole_80 (N : Nat) (K4 : Int32 → Int32 → Mem → Option (Int32 × Mem)) (K19 : Int32 → Int32 → Int32 → Int32 → Int32 → Mem → Option (Int32 × Mem)) (x1 : Int32) (x2 : Int32) (x3 : Int32) (x5 : Int32) (y0 : Int32) (μ : Mem) : Option (Int32 × Mem) := K19 x1 x2 x3 y0 (x5 + (-1)) μ
def M_Mo_findWhole_79 (N : Nat) (K4 : Int32 → Int32 → Mem → Option (Int32 × Mem)) (K19 : Int32 → Int32 → Int32 → Int32 → Int32 → Mem → Option (Int32 × Mem)) (x1 : Int32) (x2 : Int32) (x3 : Int32) (x5 : Int32) (μ : Mem) : Option (Int32 × Mem) := M_Mo_findWhole_80 N K4 K19 x1 x2 x3 x5 (0 : Int32) μ
def M_Mo_findWhole_72 (N : Nat) (K4 : Int32 → Int32 → Mem → Option (Int32 × Mem)) (K19 : Int32 → Int32 → Int32 → Int32 → Int32 → Mem → Option (Int32 × Mem)) (x1 : Int32) (x2 : Int32) (x3 : Int32) (x5 : Int32) (y0 : Int32) (y1 : Int32) (μ : Mem) : Option (Int32 × Mem) := if y1 < y0 then (M_Mo_findWhole_79 N K4 K19 x1 x2 x3 x5 μ) else (M_Mo_findWhole_80 N K4 K19 x1 x2 x3 x5 (1 : Int32) μ)
def M_Mo_findWhole_19 (N : Nat) (K4 : Int32 → Int32 → Mem → Option (Int32 × Mem)) : Nat → Int32 → Int32 → Int32 → Int32 → Int32 → Mem → Option (Int32 × Mem)
  | 0, _, _, _, _, _, _ => none
  | n + 1, x1, x2, x3, x4, x5, μ => if x5 < (0 : Int32) then (if x4 = (0 : Int32) then (K4 x1 (x2 + 1) μ) else (bn2 (M_Mo_firstBroken N μ) fun r94 μ94 => if r94 = (8 : Int32) then (M_Mo_findWhole_108 N K4 N x1 x2 (0 : Int64) (0 : Int32) μ94) else (K4 x1 (x2 + 1) μ94))) else ((rmI x3 (10 : Int32)).bind fun v33 => (stI μ 37 x5 v33).bind fun μ34 => (dvI x3 (10 : Int32)).bind fun v38 => if x4 = (0 : Int32) then (M_Mo_findWhole_79 N K4 (M_Mo_findWhole_19 N K4 n) x1 x2 v38 x5 μ34) else ((ldI μ34 37 x5).bind fun v51 => if (μ34.1 7 0) ≤ x5 then (M_Mo_findWhole_72 N K4 (M_Mo_findWhole_19 N K4 n) x1 x2 v38 x5 v51 (0 : Int32) μ34) else ((ldI μ34 28 x5).bind fun v67 => M_Mo_findWhole_72 N K4 (M_Mo_findWhole_19 N K4 n) x1 x2 v38 x5 v51 v67 μ34)))
def M_Mo_findWhole_4 (N : Nat) : Nat → Int32 → Int32 → Mem → Option (Int32 × Mem)
  | 0, _, _, _ => none
  | n + 1, x1, x2, μ => if (10000 : Int32) ≤ x2 then (reZ x1 μ) else (M_Mo_findWhole_19 N (M_Mo_findWhole_4 N n) N x1 x2 x2 (1 : Int32) (3 : Int32) μ)
def M_Mo_findWhole (N : Nat) (μ : Mem) : Option (Int32 × Mem) := M_Mo_findWhole_4 N N (0 : Int32) (0 : Int32) μ
def M_Mo_setLimit_190 (N : Nat) (x4 : Int32) (x5 : Int32) (y1 : Int32) (μ : Mem) : Option Mem := (stI μ 38 y1 (x4 * x5)).bind fun μ195 => some μ195
def M_Mo_setLimit_159 (N : Nat) (K47 : Int32 → Int32 → Int32 → Int32 → Int32 → Mem → Option Mem) (x1 : Int32) (x2 : Int32) (x4 : Int32) (x5 : Int32) (x6 : Int32) (y1 : Int32) (y2 : Int32) (μ : Mem) : Option Mem := (stI μ 38 y1 y2).bind fun μ159 => K47 x1 x2 x4 x5 (x6 + 1) μ159
def M_Mo_setLimit_131 (N : Nat) (K47 : Int32 → Int32 → Int32 → Int32 → Int32 → Mem → Option Mem) (x1 : Int32) (x2 : Int32) (x4 : Int32) (x5 : Int32) (x6 : Int32) (x7 : Int32) (μ : Mem) : Option Mem := if (μ.1 7 0) ≤ x6 then (M_Mo_setLimit_159 N K47 x1 x2 x4 x5 x6 (((5 : Int32) * x1) + x6) (0 : Int32) μ) else (M_Mo_setLimit_159 N K47 x1 x2 x4 x5 x6 (((5 : Int32) * x1) + x6) (x4 * x7) μ)
def M_Mo_setLimit_47 (N : Nat) : Nat → Int32 → Int32 → Int32 → Int32 → Int32 → Mem → Option Mem
  | 0, _, _, _, _, _, _ => none
  | n + 1, x1, x2, x4, x5, x6, μ => if (4 : Int32) ≤ x6 then (if x2 < (5 : Int32) then (M_Mo_setLimit_190 N x4 x5 (((5 : Int32) * x1) + (4 : Int32)) μ) else (if (7 : Int32) ≤ x2 then (M_Mo_setLimit_190 N x4 x5 (((5 : Int32) * x1) + (4 : Int32)) μ) else ((stI μ 38 (((5 : Int32) * x1) + (4 : Int32)) (0 : Int32)).bind fun μ195 => some μ195))) else (if (5 : Int32) ≤ x2 then (if (7 : Int32) ≤ x2 then (M_Mo_setLimit_131 N (M_Mo_setLimit_47 N n) x1 x2 x4 x5 x6 (1 : Int32) μ) else ((ldI μ 33 x2).bind fun v85 => (ldI μ 34 x2).bind fun v99 => (ldI μ 30 (((5 : Int32) * x6) + v99)).bind fun v101 => (ldI μ 35 x2).bind fun v118 => (ldI μ 30 (((5 : Int32) * x6) + v118)).bind fun v120 => nm ((v85 * v101) - (x5 * v120)) fun x7_123 => M_Mo_setLimit_131 N (M_Mo_setLimit_47 N n) x1 x2 x4 x5 x6 x7_123 μ)) else ((ldI μ 30 (((5 : Int32) * x6) + x2)).bind fun v68 => M_Mo_setLimit_131 N (M_Mo_setLimit_47 N n) x1 x2 x4 x5 x6 v68 μ))
def M_Mo_setLimit_30 (N : Nat) (x1 : Int32) (x2 : Int32) (x4 : Int32) (y0 : Int32) (μ : Mem) : Option Mem := (ldZ μ 14 x2).bind fun v42 => (stZ μ 15 x1 v42).bind fun μ43 => M_Mo_setLimit_47 N N x1 x2 x4 y0 (0 : Int32) μ43
def M_Mo_setLimit_9 (N : Nat) (x1 : Int32) (x2 : Int32) (x3 : Int32) (y0 : Int32) (μ : Mem) : Option Mem := if x3 = (0 : Int32) then ((ldI μ 31 x2).bind fun v29 => M_Mo_setLimit_30 N x1 x2 y0 v29 μ) else ((ldI μ 32 x2).bind fun v20 => M_Mo_setLimit_30 N x1 x2 y0 v20 μ)
def M_Mo_setLimit (N : Nat) (x1 : Int32) (x2 : Int32) (x3 : Int32) (μ : Mem) : Option Mem := if x3 = (0 : Int32) then (M_Mo_setLimit_9 N x1 x2 x3 (1 : Int32) μ) else (M_Mo_setLimit_9 N x1 x2 x3 (-1 : Int32) μ)
def M_Mo_setLimits_153 (N : Nat) (K36 : Int32 → Mem → Option Mem) (K43 : Int32 → Int32 → Mem → Option Mem) (x1 : Int32) (x2 : Int32) (y1 : Int32) (y2 : Int32) (μ : Mem) : Option Mem := (stI μ 38 y1 y2).bind fun μ153 => K43 x1 (x2 + 1) μ153
def M_Mo_setLimits_142 (N : Nat) (K36 : Int32 → Mem → Option Mem) (K43 : Int32 → Int32 → Mem → Option Mem) (x1 : Int32) (x2 : Int32) (y1 : Int32) (μ : Mem) : Option Mem := M_Mo_setLimits_153 N K36 K43 x1 x2 y1 (0 : Int32) μ
def M_Mo_setLimits_114 (N : Nat) (K36 : Int32 → Mem → Option Mem) (K43 : Int32 → Int32 → Mem → Option Mem) (K83 : Int32 → Int32 → Int32 → Int32 → Mem → Option Mem) (x1 : Int32) (x2 : Int32) (x3 : Int32) (x4 : Int32) (y1 : Int32) (y2 : Int32) (μ : Mem) : Option Mem := (stI μ 38 y1 y2).bind fun μ114 => K83 x1 x2 x3 (x4 + 1) μ114
def M_Mo_setLimits_83 (N : Nat) (K36 : Int32 → Mem → Option Mem) (K43 : Int32 → Int32 → Mem → Option Mem) : Nat → Int32 → Int32 → Int32 → Int32 → Mem → Option Mem
  | 0, _, _, _, _, _ => none
  | n + 1, x1, x2, x3, x4, μ => if (4 : Int32) ≤ x4 then (if x2 = (0 : Int32) then (M_Mo_setLimits_142 N K36 K43 x1 x2 (((5 : Int32) * x3) + (4 : Int32)) μ) else (if x1 < (μ.1 7 0) then ((ldI μ 28 x1).bind fun v151 => M_Mo_setLimits_153 N K36 K43 x1 x2 (((5 : Int32) * x3) + (4 : Int32)) (-v151) μ) else (M_Mo_setLimits_142 N K36 K43 x1 x2 (((5 : Int32) * x3) + (4 : Int32)) μ))) else (if x4 = x1 then (M_Mo_setLimits_114 N K36 K43 (M_Mo_setLimits_83 N K36 K43 n) x1 x2 x3 x4 (((5 : Int32) * x3) + x4) ((1 : Int32) - ((2 : Int32) * x2)) μ) else (M_Mo_setLimits_114 N K36 K43 (M_Mo_setLimits_83 N K36 K43 n) x1 x2 x3 x4 (((5 : Int32) * x3) + x4) (0 : Int32) μ))
def M_Mo_setLimits_79 (N : Nat) (K36 : Int32 → Mem → Option Mem) (K43 : Int32 → Int32 → Mem → Option Mem) (x1 : Int32) (x2 : Int32) (x3 : Int32) (y1 : Int32) (y2 : Int32) (μ : Mem) : Option Mem := (stZ μ 15 y1 y2).bind fun μ79 => M_Mo_setLimits_83 N K36 K43 N x1 x2 x3 (0 : Int32) μ79
def M_Mo_setLimits_74 (N : Nat) (K36 : Int32 → Mem → Option Mem) (K43 : Int32 → Int32 → Mem → Option Mem) (x1 : Int32) (x2 : Int32) (x3 : Int32) (y1 : Int32) (μ : Mem) : Option Mem := M_Mo_setLimits_79 N K36 K43 x1 x2 x3 y1 (1 : Int32) μ
def M_Mo_setLimits_43 (N : Nat) (K36 : Int32 → Mem → Option Mem) : Nat → Int32 → Int32 → Mem → Option Mem
  | 0, _, _, _ => none
  | n + 1, x1, x2, μ => if (2 : Int32) ≤ x2 then (K36 (x1 + 1) μ) else (nm (((16 : Int32) + ((2 : Int32) * x1)) + x2) fun x3_56 => if x1 < (μ.1 7 0) then (M_Mo_setLimits_74 N K36 (M_Mo_setLimits_43 N K36 n) x1 x2 x3_56 x3_56 μ) else (if x2 = (0 : Int32) then (M_Mo_setLimits_74 N K36 (M_Mo_setLimits_43 N K36 n) x1 x2 x3_56 x3_56 μ) else (M_Mo_setLimits_79 N K36 (M_Mo_setLimits_43 N K36 n) x1 x2 x3_56 x3_56 (0 : Int32) μ)))
def M_Mo_setLimits_36 (N : Nat) : Nat → Int32 → Mem → Option Mem
  | 0, _, _ => none
  | n + 1, x1, μ => if (4 : Int32) ≤ x1 then (some μ) else (M_Mo_setLimits_43 N (M_Mo_setLimits_36 N n) N x1 (0 : Int32) μ)
def M_Mo_setLimits_2 (N : Nat) : Nat → Int32 → Mem → Option Mem
  | 0, _, _ => none
  | n + 1, x1, μ => if (8 : Int32) ≤ x1 then (M_Mo_setLimits_36 N N (0 : Int32) μ) else ((M_Mo_setLimit N ((2 : Int32) * x1) x1 (0 : Int32) μ).bind fun μ14 => (M_Mo_setLimit N (((2 : Int32) * x1) + (1 : Int32)) x1 (1 : Int32) μ14).bind fun μ25 => M_Mo_setLimits_2 N n (x1 + 1) μ25)
def M_Mo_setLimits (N : Nat) (μ : Mem) : Option Mem := M_Mo_setLimits_2 N N (0 : Int32) μ
def M_Mo_at_22 (N : Nat) (y1 : Int32) (y2 : Int32) (μ : Mem) : Option (Int64 × Mem) := (ldI μ 38 (y1 + y2)).bind fun v23 => some (v23.toInt64, μ)
def M_Mo_at (N : Nat) (x1 : Int32) (x2 : Int32) (x3 : Int32) (μ : Mem) : Option (Int64 × Mem) := (ldI μ 39 x1).bind fun v10 => if x2 = x3 then (M_Mo_at_22 N ((5 : Int32) * v10) (4 : Int32) μ) else (M_Mo_at_22 N ((5 : Int32) * v10) x2 μ)
def M_Mo_minor (N : Nat) (x1 : Int32) (x2 : Int32) (x3 : Int32) (x4 : Int32) (x5 : Int32) (μ : Mem) : Option (Int64 × Mem) := bn2 (M_Mo_at N x1 x3 x5 μ) fun r5 μ5 => bn2 (M_Mo_at N x2 x4 x5 μ5) fun r14 μ14 => bn2 (M_Mo_at N x1 x4 x5 μ14) fun r24 μ24 => bn2 (M_Mo_at N x2 x3 x5 μ24) fun r32 μ32 => some ((r5 * r14) - (r24 * r32), μ32)
def M_Mo_determinant (N : Nat) (x1 : Int32) (μ : Mem) : Option (Int64 × Mem) := bn2 (M_Mo_minor N (0 : Int32) (1 : Int32) (0 : Int32) (1 : Int32) x1 μ) fun r6 μ6 => bn2 (M_Mo_minor N (2 : Int32) (3 : Int32) (2 : Int32) (3 : Int32) x1 μ6) fun r15 μ15 => bn2 (M_Mo_minor N (0 : Int32) (1 : Int32) (0 : Int32) (2 : Int32) x1 μ15) fun r25 μ25 => bn2 (M_Mo_minor N (2 : Int32) (3 : Int32) (1 : Int32) (3 : Int32) x1 μ25) fun r34 μ34 => bn2 (M_Mo_minor N (0 : Int32) (1 : Int32) (0 : Int32) (3 : Int32) x1 μ34) fun r45 μ45 => bn2 (M_Mo_minor N (2 : Int32) (3 : Int32) (1 : Int32) (2 : Int32) x1 μ45) fun r54 μ54 => bn2 (M_Mo_minor N (0 : Int32) (1 : Int32) (1 : Int32) (2 : Int32) x1 μ54) fun r65 μ65 => bn2 (M_Mo_minor N (2 : Int32) (3 : Int32) (0 : Int32) (3 : Int32) x1 μ65) fun r74 μ74 => bn2 (M_Mo_minor N (0 : Int32) (1 : Int32) (1 : Int32) (3 : Int32) x1 μ74) fun r85 μ85 => bn2 (M_Mo_minor N (2 : Int32) (3 : Int32) (0 : Int32) (2 : Int32) x1 μ85) fun r94 μ94 => bn2 (M_Mo_minor N (0 : Int32) (1 : Int32) (2 : Int32) (3 : Int32) x1 μ94) fun r105 μ105 => bn2 (M_Mo_minor N (2 : Int32) (3 : Int32) (0 : Int32) (1 : Int32) x1 μ105) fun r114 μ114 => some ((((((r6 * r15) - (r25 * r34)) + (r45 * r54)) + (r65 * r74)) - (r85 * r94)) + (r105 * r114), μ114)
def M_Mo_common_28 (N : Nat) : Nat → Int64 → Int64 → Option Int64
  | 0, _, _ => none
  | n + 1, x4, x6 => if (lg_cmp x4 (0 : Int64)) = (0 : Int32) then (some x6) else ((rmJ x6 x4).bind fun v39 => M_Mo_common_28 N n v39 x4)
def M_Mo_common_12 (N : Nat) (x2 : Int64) (y0 : Int64) : Option Int64 := if (0 : Int32) ≤ (lg_cmp x2 (0 : Int64)) then (M_Mo_common_28 N N y0 x2) else (nm (-x2) fun x6_26 => M_Mo_common_28 N N y0 x6_26)
def M_Mo_common (N : Nat) (x0 : Int64) (x2 : Int64) : Option Int64 := if (0 : Int32) ≤ (lg_cmp x0 (0 : Int64)) then (M_Mo_common_12 N x2 x0) else (M_Mo_common_12 N x2 (-x0))
def M_Mo_meet_78 (N : Nat) : Nat → Int64 → Int32 → Mem → Option (Int32 × Mem)
  | 0, _, _, _ => none
  | n + 1, x1, x3, μ => if (4 : Int32) ≤ x3 then ((dvJ (μ.2 7 22) x1).bind fun v105 => (pJ μ 7 22 v105).bind fun μ106 => reZ (1 : Int32) μ106) else ((ldJ μ 46 x3).bind fun v89 => (dvJ v89 x1).bind fun v91 => (stJ μ 46 x3 v91).bind fun μ92 => M_Mo_meet_78 N n x1 (x3 + 1) μ92)
def M_Mo_meet_75 (N : Nat) (y0 : Int64) (μ : Mem) : Option (Int32 × Mem) := M_Mo_meet_78 N N y0 (0 : Int32) μ
def M_Mo_meet_27 (N : Nat) : Nat → Int64 → Int32 → Mem → Option (Int32 × Mem)
  | 0, _, _, _ => none
  | n + 1, x1, x3, μ => if (4 : Int32) ≤ x3 then (if (0 : Int32) ≤ (lg_cmp (μ.2 7 22) (0 : Int64)) then (M_Mo_meet_75 N x1 μ) else (M_Mo_meet_75 N (-x1) μ)) else (bn2 (M_Mo_determinant N x3 μ) fun r39 μ39 => (stJ μ39 46 x3 r39).bind fun μ42 => (ldJ μ42 46 x3).bind fun v48 => (M_Mo_common N v48 x1).bind fun r50 => M_Mo_meet_27 N n r50 (x3 + 1) μ42)
def M_Mo_meet (N : Nat) (μ : Mem) : Option (Int32 × Mem) := bn2 (M_Mo_determinant N (4 : Int32) μ) fun r3 μ3 => (pJ μ3 7 22 r3).bind fun μ6 => if (lg_cmp (μ6.2 7 22) (0 : Int64)) = (0 : Int32) then (reZ (0 : Int32) μ6) else (nm (μ6.2 7 22) fun x1_24 => M_Mo_meet_27 N N x1_24 (0 : Int32) μ6)
def M_Mo_isKept_136 (N : Nat) (x2 : Int64) (x4 : Int64) (y0 : Int64) (μ : Mem) : Option (Int32 × Mem) := (dvJ (x4 - y0) (2147483648 : Int64)).bind fun v147 => if (lg_cmp (x2 + v147) (0 : Int64)) < (0 : Int32) then (reZ (0 : Int32) μ) else (reZ (1 : Int32) μ)
def M_Mo_isKept_77 (N : Nat) (K8 : Int32 → Int64 → Int64 → Int32 → Mem → Option (Int32 × Mem)) (x1 : Int32) (x2 : Int64) (x4 : Int64) (x6 : Int32) (x7 : Int64) (x9 : Int64) (y0 : Int64) (μ : Mem) : Option (Int32 × Mem) := (dvJ (x7 - y0) (2147483648 : Int64)).bind fun v90 => nm (x2 + (x9 * v90)) fun x2_93 => nm (x4 + (x9 * y0)) fun x4_102 => K8 x1 x2_93 x4_102 (x6 + 1) μ
def M_Mo_isKept_35 (N : Nat) (K8 : Int32 → Int64 → Int64 → Int32 → Mem → Option (Int32 × Mem)) (x1 : Int32) (x2 : Int64) (x4 : Int64) (x6 : Int32) (y0 : Int64) (μ : Mem) : Option (Int32 × Mem) := (ldI μ 38 (((5 : Int32) * x1) + x6)).bind fun v47 => nm v47.toInt64 fun x9_49 => (rmJ y0 (2147483648 : Int64)).bind fun v56 => if (0 : Int32) ≤ (lg_cmp v56 (0 : Int64)) then (M_Mo_isKept_77 N K8 x1 x2 x4 x6 y0 x9_49 v56 μ) else (M_Mo_isKept_77 N K8 x1 x2 x4 x6 y0 x9_49 (v56 + (2147483648 : Int64)) μ)
def M_Mo_isKept_8 (N : Nat) : Nat → Int32 → Int64 → Int64 → Int32 → Mem → Option (Int32 × Mem)
  | 0, _, _, _, _, _ => none
  | n + 1, x1, x2, x4, x6, μ => if (5 : Int32) ≤ x6 then ((rmJ x4 (2147483648 : Int64)).bind fun v115 => if (0 : Int32) ≤ (lg_cmp v115 (0 : Int64)) then (M_Mo_isKept_136 N x2 x4 v115 μ) else (M_Mo_isKept_136 N x2 x4 (v115 + (2147483648 : Int64)) μ)) else (if (4 : Int32) ≤ x6 then (M_Mo_isKept_35 N (M_Mo_isKept_8 N n) x1 x2 x4 x6 (-(μ.2 7 22)) μ) else ((ldJ μ 46 x6).bind fun v26 => M_Mo_isKept_35 N (M_Mo_isKept_8 N n) x1 x2 x4 x6 v26 μ))
def M_Mo_isKept (N : Nat) (x1 : Int32) (μ : Mem) : Option (Int32 × Mem) := M_Mo_isKept_8 N N x1 (0 : Int64) (0 : Int64) (0 : Int32) μ
def M_Mo_keptRules_74 (N : Nat) (K29 : Int32 → Int32 → Mem → Option (Int32 × Mem)) (x2 : Int32) (y0 : Int32) (y1 : Int32) (μ : Mem) : Option (Int32 × Mem) := nm (y0 ||| y1) fun x1_75 => K29 x1_75 (x2 + 1) μ
def M_Mo_keptRules_73 (N : Nat) (K29 : Int32 → Int32 → Mem → Option (Int32 × Mem)) (x2 : Int32) (y0 : Int32) (μ : Mem) : Option (Int32 × Mem) := M_Mo_keptRules_74 N K29 x2 y0 (0 : Int32) μ
def M_Mo_keptRules_67 (N : Nat) (K29 : Int32 → Int32 → Mem → Option (Int32 × Mem)) (x2 : Int32) (y0 : Int32) (μ : Mem) : Option (Int32 × Mem) := M_Mo_keptRules_74 N K29 x2 y0 ((1 : Int32) <<< (x2 &&& 31)) μ
def M_Mo_keptRules_29 (N : Nat) : Nat → Int32 → Int32 → Mem → Option (Int32 × Mem)
  | 0, _, _, _ => none
  | n + 1, x1, x2, μ => if (8 : Int32) ≤ x2 then (some (x1, μ)) else ((ldZ μ 14 x2).bind fun v41 => if v41 = (0 : Int32) then (M_Mo_keptRules_67 N (M_Mo_keptRules_29 N n) x2 x1 μ) else (bn2 (M_Mo_isKept N ((2 : Int32) * x2) μ) fun r49 μ49 => if r49 = (0 : Int32) then (M_Mo_keptRules_73 N (M_Mo_keptRules_29 N n) x2 x1 μ49) else (bn2 (M_Mo_isKept N (((2 : Int32) * x2) + (1 : Int32)) μ49) fun r61 μ61 => if r61 = (0 : Int32) then (M_Mo_keptRules_73 N (M_Mo_keptRules_29 N n) x2 x1 μ61) else (M_Mo_keptRules_67 N (M_Mo_keptRules_29 N n) x2 x1 μ61))))
def M_Mo_keptRules_3 (N : Nat) : Nat → Int32 → Mem → Option (Int32 × Mem)
  | 0, _, _ => none
  | n + 1, x1, μ => if (24 : Int32) ≤ x1 then (M_Mo_keptRules_29 N N (0 : Int32) (0 : Int32) μ) else (bn2 (M_Mo_isKept N x1 μ) fun r11 μ11 => if r11 = (0 : Int32) then (some ((-1 : Int32), μ11)) else (M_Mo_keptRules_3 N n (x1 + 1) μ11))
def M_Mo_keptRules (N : Nat) (μ : Mem) : Option (Int32 × Mem) := M_Mo_keptRules_3 N N (16 : Int32) μ
def M_Mo_isLess_155 (N : Nat) (x16 : Int32) (y0 : Int32) : Option Int32 := if y0 = x16 then (okZ (0 : Int32)) else (okZ (1 : Int32))
def M_Mo_isLess_135 (N : Nat) (x16 : Int32) (x17 : Int64) (x19 : Int64) : Option Int32 := if (lg_cmp x17 x19) = (0 : Int32) then (okZ (0 : Int32)) else (if (lg_cmp x17 (0 : Int64)) = (0 : Int32) then (M_Mo_isLess_155 N x16 (1 : Int32)) else (M_Mo_isLess_155 N x16 (0 : Int32)))
def M_Mo_isLess_110 (N : Nat) (x16 : Int32) (y0 : Int32) : Option Int32 := if y0 = x16 then (okZ (0 : Int32)) else (okZ (1 : Int32))
def M_Mo_isLess_67 (N : Nat) (K17 : Int64 → Int64 → Int64 → Int64 → Int32 → Option Int32) (x8 : Int64) (x10 : Int64) (x12 : Int64) (x14 : Int64) (x16 : Int32) (x17 : Int64) (y0 : Int64) : Option Int32 := (dvJ (x8 - x17) x10).bind fun v76 => (dvJ (x12 - y0) x14).bind fun v86 => if (lg_cmp v76 v86) = (0 : Int32) then (if (lg_cmp x17 (0 : Int64)) = (0 : Int32) then (M_Mo_isLess_135 N x16 x17 y0) else (if (lg_cmp y0 (0 : Int64)) = (0 : Int32) then (M_Mo_isLess_135 N x16 x17 y0) else (if x16 = (0 : Int32) then (K17 x10 x17 x14 y0 (1 : Int32)) else (K17 x10 x17 x14 y0 (0 : Int32))))) else (if (0 : Int32) ≤ (lg_cmp v76 v86) then (M_Mo_isLess_110 N x16 (0 : Int32)) else (M_Mo_isLess_110 N x16 (1 : Int32)))
def M_Mo_isLess_41 (N : Nat) (K17 : Int64 → Int64 → Int64 → Int64 → Int32 → Option Int32) (x8 : Int64) (x10 : Int64) (x12 : Int64) (x14 : Int64) (x16 : Int32) (y0 : Int64) : Option Int32 := (rmJ x12 x14).bind fun v47 => if (0 : Int32) ≤ (lg_cmp v47 (0 : Int64)) then (M_Mo_isLess_67 N K17 x8 x10 x12 x14 x16 y0 v47) else (M_Mo_isLess_67 N K17 x8 x10 x12 x14 x16 y0 (v47 + x14))
def M_Mo_isLess_17 (N : Nat) : Nat → Int64 → Int64 → Int64 → Int64 → Int32 → Option Int32
  | 0, _, _, _, _, _ => none
  | n + 1, x8, x10, x12, x14, x16 => (rmJ x8 x10).bind fun v21 => if (0 : Int32) ≤ (lg_cmp v21 (0 : Int64)) then (M_Mo_isLess_41 N (M_Mo_isLess_17 N n) x8 x10 x12 x14 x16 v21) else (M_Mo_isLess_41 N (M_Mo_isLess_17 N n) x8 x10 x12 x14 x16 (v21 + x10))
def M_Mo_isLess (N : Nat) (x0 : Int64) (x2 : Int64) (x4 : Int64) (x6 : Int64) : Option Int32 := M_Mo_isLess_17 N N x0 x2 x4 x6 (0 : Int32)
def M_Mo_lookAtCorner_102 (N : Nat) (x2 : Int64) (μ : Mem) : Option Mem := (M_Mo_common N x2 (μ.2 7 22)).bind fun r107 => (dvJ x2 r107).bind fun v116 => (pJ μ 7 14 v116).bind fun μ117 => (dvJ (μ117.2 7 22) r107).bind fun v127 => (pJ μ117 7 15 v127).bind fun μ128 => some μ128
def M_Mo_lookAtCorner_40 (N : Nat) : Nat → Int64 → Int32 → Mem → Option Mem
  | 0, _, _, _ => none
  | n + 1, x2, x4, μ => if (μ.1 7 0) ≤ x4 then (if (lg_cmp (μ.2 7 15) (0 : Int64)) = (0 : Int32) then (M_Mo_lookAtCorner_102 N x2 μ) else ((M_Mo_isLess N x2 (μ.2 7 22) (μ.2 7 14) (μ.2 7 15)).bind fun r96 => if r96 = (0 : Int32) then (some μ) else (M_Mo_lookAtCorner_102 N x2 μ))) else ((ldJ μ 46 x4).bind fun v56 => (ldI μ 29 x4).bind fun v63 => nm (x2 + (v56 * v63.toInt64)) fun x2_67 => M_Mo_lookAtCorner_40 N n x2_67 (x4 + 1) μ)
def M_Mo_lookAtCorner_15 (N : Nat) (y0 : Int32) (μ : Mem) : Option Mem := if (0 : Int32) ≤ y0 then ((stZ μ 16 y0 (1 : Int32)).bind fun μ27 => if y0 = (255 : Int32) then (M_Mo_lookAtCorner_40 N N (0 : Int64) (0 : Int32) μ27) else (some μ27)) else (some μ)
def M_Mo_lookAtCorner (N : Nat) (μ : Mem) : Option Mem := bn2 (M_Mo_meet N μ) fun r1 μ1 => if r1 = (0 : Int32) then (M_Mo_lookAtCorner_15 N (-1 : Int32) μ1) else (bn2 (M_Mo_keptRules N μ1) fun r8 μ8 => M_Mo_lookAtCorner_15 N r8 μ8)
def M_Mo_lookAtCorners_78 (N : Nat) (K29 : Int32 → Mem → Option Mem) (K39 : Int32 → Int32 → Mem → Option Mem) (K58 : Int32 → Int32 → Int32 → Mem → Option Mem) : Nat → Int32 → Int32 → Int32 → Int32 → Mem → Option Mem
  | 0, _, _, _, _, _ => none
  | n + 1, x1, x2, x3, x4, μ => if (24 : Int32) ≤ x4 then (K58 x1 x2 (x3 + 1) μ) else ((ldZ μ 15 x3).bind fun v90 => if v90 = (0 : Int32) then (K58 x1 x2 (x3 + 1) μ) else ((ldZ μ 15 x4).bind fun v100 => if v100 = (0 : Int32) then (M_Mo_lookAtCorners_78 N K29 K39 K58 n x1 x2 x3 (x4 + 1) μ) else ((stI μ 39 (0 : Int32) x1).bind fun μ110 => (stI μ110 39 (1 : Int32) x2).bind fun μ117 => (stI μ117 39 (2 : Int32) x3).bind fun μ124 => (stI μ124 39 (3 : Int32) x4).bind fun μ132 => (M_Mo_lookAtCorner N μ132).bind fun μ134 => M_Mo_lookAtCorners_78 N K29 K39 K58 n x1 x2 x3 (x4 + 1) μ134)))
def M_Mo_lookAtCorners_58 (N : Nat) (K29 : Int32 → Mem → Option Mem) (K39 : Int32 → Int32 → Mem → Option Mem) : Nat → Int32 → Int32 → Int32 → Mem → Option Mem
  | 0, _, _, _, _ => none
  | n + 1, x1, x2, x3, μ => if (24 : Int32) ≤ x3 then (K39 x1 (x2 + 1) μ) else ((ldZ μ 15 x2).bind fun v69 => if v69 = (0 : Int32) then (K39 x1 (x2 + 1) μ) else (nm (x3 + (1 : Int32)) fun x4_76 => M_Mo_lookAtCorners_78 N K29 K39 (M_Mo_lookAtCorners_58 N K29 K39 n) N x1 x2 x3 x4_76 μ))
def M_Mo_lookAtCorners_39 (N : Nat) (K29 : Int32 → Mem → Option Mem) : Nat → Int32 → Int32 → Mem → Option Mem
  | 0, _, _, _ => none
  | n + 1, x1, x2, μ => if (24 : Int32) ≤ x2 then (K29 (x1 + 1) μ) else ((ldZ μ 15 x1).bind fun v50 => if v50 = (0 : Int32) then (K29 (x1 + 1) μ) else (nm (x2 + (1 : Int32)) fun x3_57 => M_Mo_lookAtCorners_58 N K29 (M_Mo_lookAtCorners_39 N K29 n) N x1 x2 x3_57 μ))
def M_Mo_lookAtCorners_29 (N : Nat) : Nat → Int32 → Mem → Option Mem
  | 0, _, _ => none
  | n + 1, x1, μ => if (24 : Int32) ≤ x1 then (some μ) else (nm (x1 + (1 : Int32)) fun x2_38 => M_Mo_lookAtCorners_39 N (M_Mo_lookAtCorners_29 N n) N x1 x2_38 μ)
def M_Mo_lookAtCorners_2 (N : Nat) : Nat → Int32 → Mem → Option Mem
  | 0, _, _ => none
  | n + 1, x1, μ => if (256 : Int32) ≤ x1 then ((pJ μ 7 15 (0 : Int64)).bind fun μ24 => M_Mo_lookAtCorners_29 N N (0 : Int32) μ24) else ((stZ μ 16 x1 (0 : Int32)).bind fun μ15 => M_Mo_lookAtCorners_2 N n (x1 + 1) μ15)
def M_Mo_lookAtCorners (N : Nat) (μ : Mem) : Option Mem := M_Mo_lookAtCorners_2 N N (0 : Int32) μ
def M_Mo_canBeKept_2 (N : Nat) : Nat → Int32 → Int32 → Mem → Option (Int32 × Mem)
  | 0, _, _, _ => none
  | n + 1, x1, x2, μ => if (256 : Int32) ≤ x2 then (reZ (0 : Int32) μ) else ((ldZ μ 16 x2).bind fun v14 => if v14 = (0 : Int32) then (M_Mo_canBeKept_2 N n x1 (x2 + 1) μ) else (if (x2 &&& x1) = x1 then (reZ (1 : Int32) μ) else (M_Mo_canBeKept_2 N n x1 (x2 + 1) μ)))
def M_Mo_canBeKept (N : Nat) (x1 : Int32) (μ : Mem) : Option (Int32 × Mem) := M_Mo_canBeKept_2 N N x1 (0 : Int32) μ
def M_Mo_sizeOf_4 (N : Nat) : Nat → Int32 → Int32 → Int32 → Option Int32
  | 0, _, _, _ => none
  | n + 1, x0, x1, x2 => if (8 : Int32) ≤ x2 then (some x1) else (nm (x1 + ((x0 >>> (x2 &&& 31)) &&& (1 : Int32))) fun x1_17 => M_Mo_sizeOf_4 N n x0 x1_17 (x2 + 1))
def M_Mo_sizeOf (N : Nat) (x0 : Int32) : Option Int32 := M_Mo_sizeOf_4 N N x0 (0 : Int32) (0 : Int32)
def M_Mo_findClash_45 (N : Nat) : Nat → Int32 → Int32 → Int32 → Mem → Option Mem
  | 0, _, _, _, _ => none
  | n + 1, x1, x2, x3, μ => if (256 : Int32) ≤ x3 then (some μ) else (if (x3 &&& x2) = x3 then ((M_Mo_sizeOf N x3).bind fun r60 => if x1 ≤ r60 then (M_Mo_findClash_45 N n x1 x2 (x3 + 1) μ) else (bn2 (M_Mo_canBeKept N x3 μ) fun r69 μ69 => if r69 = (0 : Int32) then ((pI μ69 7 16 x3).bind fun μ77 => (M_Mo_sizeOf N x3).bind fun r81 => M_Mo_findClash_45 N n r81 x2 (x3 + 1) μ77) else (M_Mo_findClash_45 N n x1 x2 (x3 + 1) μ69))) else (M_Mo_findClash_45 N n x1 x2 (x3 + 1) μ))
def M_Mo_findClash_35 (N : Nat) (K12 : Int32 → Int32 → Int32 → Mem → Option Mem) (x1 : Int32) (x3 : Int32) (y0 : Int32) (y1 : Int32) (μ : Mem) : Option Mem := nm (y0 ||| y1) fun x2_36 => K12 x1 x2_36 (x3 + 1) μ
def M_Mo_findClash_12 (N : Nat) : Nat → Int32 → Int32 → Int32 → Mem → Option Mem
  | 0, _, _, _, _ => none
  | n + 1, x1, x2, x3, μ => if (8 : Int32) ≤ x3 then (M_Mo_findClash_45 N N x1 x2 (1 : Int32) μ) else ((ldZ μ 14 x3).bind fun v24 => if v24 = (0 : Int32) then (M_Mo_findClash_35 N (M_Mo_findClash_12 N n) x1 x3 x2 (0 : Int32) μ) else (M_Mo_findClash_35 N (M_Mo_findClash_12 N n) x1 x3 x2 ((1 : Int32) <<< (x3 &&& 31)) μ))
def M_Mo_findClash (N : Nat) (μ : Mem) : Option Mem := (pI μ 7 16 (0 : Int32)).bind fun μ2 => M_Mo_findClash_12 N N (9 : Int32) (0 : Int32) (0 : Int32) μ2
def M_Mo_run_64 (N : Nat) (μ : Mem) : Option (Int32 × Mem) := some (μ.1 7 10, μ)
def M_Mo_run (N : Nat) (μ : Mem) : Option (Int32 × Mem) := bn2 (M_Mo_findWhole N μ) fun r1 μ1 => (M_Mo_setLimits N μ1).bind fun μ6 => (M_Mo_lookAtCorners N μ6).bind fun μ10 => (pI μ10 7 11 (μ10.1 7 0)).bind fun μ18 => (pI μ18 7 16 (0 : Int32)).bind fun μ23 => if r1 = (0 : Int32) then (if (lg_cmp (μ23.2 7 15) (0 : Int64)) ≤ (0 : Int32) then ((pI μ23 7 10 (2 : Int32)).bind fun μ57 => (M_Mo_findClash N μ57).bind fun μ61 => M_Mo_run_64 N μ61) else ((pI μ23 7 10 (1 : Int32)).bind fun μ49 => M_Mo_run_64 N μ49)) else ((pI μ23 7 10 (0 : Int32)).bind fun μ32 => M_Mo_run_64 N μ32)
def M_Mo_best (N : Nat) (x1 : Int32) (μ : Mem) : Option (Int32 × Mem) := if (μ.1 7 10) = (0 : Int32) then (if x1 < (0 : Int32) then (some ((-1 : Int32), μ)) else (if (μ.1 7 11) ≤ x1 then (some ((-1 : Int32), μ)) else ((ldI μ 36 x1).bind fun v24 => some (v24, μ)))) else (some ((-1 : Int32), μ))
def M_Mo_cost (N : Nat) (μ : Mem) : Option (Int64 × Mem) := if (μ.1 7 10) = (0 : Int32) then (some (μ.2 7 13, μ)) else (some ((-9223372036854775808 : Int64), μ))
def M_Mo_cut_19 (N : Nat) (x1 : Int32) (μ : Mem) : Option (Int64 × Mem) := if (2 : Int32) ≤ (μ.1 7 10) then (some ((-9223372036854775808 : Int64), μ)) else (if x1 = (1 : Int32) then (some (μ.2 7 15, μ)) else (some ((-9223372036854775808 : Int64), μ)))
def M_Mo_cut (N : Nat) (x1 : Int32) (μ : Mem) : Option (Int64 × Mem) := if (2 : Int32) ≤ (μ.1 7 10) then (M_Mo_cut_19 N x1 μ) else (if x1 = (0 : Int32) then (some (μ.2 7 14, μ)) else (M_Mo_cut_19 N x1 μ))
def M_Mo_clashes (N : Nat) (μ : Mem) : Option (Int32 × Mem) := if (μ.1 7 10) = (2 : Int32) then ((M_Mo_sizeOf N (μ.1 7 16)).bind fun r12 => some (r12, μ)) else (some ((-1 : Int32), μ))
def M_Mo_clash (N : Nat) (x1 : Int32) (μ : Mem) : Option (Int32 × Mem) := if (μ.1 7 10) = (2 : Int32) then (if x1 < (0 : Int32) then (reZ (0 : Int32) μ) else (if (8 : Int32) ≤ x1 then (reZ (0 : Int32) μ) else (if (((μ.1 7 16) >>> (x1 &&& 31)) &&& (1 : Int32)) = (1 : Int32) then (reZ (1 : Int32) μ) else (reZ (0 : Int32) μ)))) else (reZ (0 : Int32) μ)
