/-! printed: pure functions and rows -/
def f_J7_fill_53178_b5 (a0 : Nat) (x1 : Int32) (x3 : Int32) : (Int32 × Mm) → Option ((Int32 × Mm) ⊕ Mm) := fun (x2, M) => (if x3 ≤ x2 then some (.inr M) else (wi M a0 (LN a0) x2 x1).bind fun M2 => some (.inl ((x2 + (1 : Int32)), M2)))
def f_J7_fill_53178 (a0 : Nat) (x1 : Int32) (M : Mm) : Option Mm := (whl fu (f_J7_fill_53178_b5 a0 x1 (Int32.ofNat (LN a0))) ((0 : Int32), M)).bind fun M3 => some M3
def g_X8_isStone (a0 : Nat) (x1 : Int32) (M : Mm) : Option Int32 := (if x1 < 0 then some (0 : Int32) else (if (mi M a0 8) ≤ x1 then some (0 : Int32) else (if (60 : Int32) ≤ x1 then some (0 : Int32) else some (1 : Int32))))
def f_X8_isStone (a0 : Nat) (x1 : Int32) (M : Mm) : Option Int32 := (g_X8_isStone a0 x1 M).bind fun v => rB v
def f_X8_cellOf (a0 : Nat) (x1 : Int32) (M : Mm) : Option Int32 := (f_X8_isStone a0 x1 M).bind fun v1 => (if v1 = 0 then some (0 : Int32) else (ai M (a0 + 1) 60 x1).bind fun v4 => some v4)
def f_X8_placeOf (a0 : Nat) (x1 : Int32) (M : Mm) : Option Int32 := (f_X8_isStone a0 x1 M).bind fun v1 => (if v1 = 0 then some (-1 : Int32) else (ai M (a0 + 4) 60 x1).bind fun v4 => some v4)
def g_X9_isCell (x0 : Int32) (M : Mm) : Option Int32 := (if x0 < 0 then some (0 : Int32) else (if (48 : Int32) ≤ x0 then some (0 : Int32) else some (1 : Int32)))
def f_X9_isCell (x0 : Int32) (M : Mm) : Option Int32 := (g_X9_isCell x0 M).bind fun v => rB v
def g_X8_isLost (a0 : Nat) (x1 : Int32) (M : Mm) : Option Int32 := (f_X9_isCell x1 M).bind fun v1 => (if v1 = 0 then some (0 : Int32) else (ai M (a0 + 5) 48 x1).bind fun v4 => (if v4 = 0 then some (0 : Int32) else some (1 : Int32)))
def f_X8_isLost (a0 : Nat) (x1 : Int32) (M : Mm) : Option Int32 := (g_X8_isLost a0 x1 M).bind fun v => rB v
def g_X8_isAsked (a0 : Nat) (x1 : Int32) (M : Mm) : Option Int32 := (f_X8_placeOf a0 x1 M).bind fun v1 => (if v1 = 0 then (f_X8_cellOf a0 x1 M).bind fun v3 => (f_X8_isLost a0 v3 M).bind fun v4 => (if v4 = 0 then some (1 : Int32) else some (0 : Int32)) else some (0 : Int32))
def f_X8_isAsked (a0 : Nat) (x1 : Int32) (M : Mm) : Option Int32 := (g_X8_isAsked a0 x1 M).bind fun v => rB v
def f_X9_row (x0 : Int32) (M : Mm) : Option Int32 := some (x0 >>> ((3 : Int32) &&& 31))
def f_X8_sizeOf (a0 : Nat) (x1 : Int32) (M : Mm) : Option Int32 := (f_X8_isStone a0 x1 M).bind fun v1 => (if v1 = 0 then some (0 : Int32) else (ai M (a0 + 2) 60 x1).bind fun v4 => some v4)
def f_X9_column (x0 : Int32) (M : Mm) : Option Int32 := some (x0 &&& (7 : Int32))
def f_J6_bitCount_0f7a4 (x0 : Int32) (M : Mm) : Option Int32 := some ((((((((x0 - ((x0.toUInt32 >>> ((1 : Int32).toUInt32 &&& Int32.toUInt32 31)).toInt32 &&& (1431655765 : Int32))) &&& (858993459 : Int32)) + (((x0 - ((x0.toUInt32 >>> ((1 : Int32).toUInt32 &&& Int32.toUInt32 31)).toInt32 &&& (1431655765 : Int32))).toUInt32 >>> ((2 : Int32).toUInt32 &&& Int32.toUInt32 31)).toInt32 &&& (858993459 : Int32))) + ((((x0 - ((x0.toUInt32 >>> ((1 : Int32).toUInt32 &&& Int32.toUInt32 31)).toInt32 &&& (1431655765 : Int32))) &&& (858993459 : Int32)) + (((x0 - ((x0.toUInt32 >>> ((1 : Int32).toUInt32 &&& Int32.toUInt32 31)).toInt32 &&& (1431655765 : Int32))).toUInt32 >>> ((2 : Int32).toUInt32 &&& Int32.toUInt32 31)).toInt32 &&& (858993459 : Int32))).toUInt32 >>> ((4 : Int32).toUInt32 &&& Int32.toUInt32 31)).toInt32) &&& (252645135 : Int32)) + ((((((x0 - ((x0.toUInt32 >>> ((1 : Int32).toUInt32 &&& Int32.toUInt32 31)).toInt32 &&& (1431655765 : Int32))) &&& (858993459 : Int32)) + (((x0 - ((x0.toUInt32 >>> ((1 : Int32).toUInt32 &&& Int32.toUInt32 31)).toInt32 &&& (1431655765 : Int32))).toUInt32 >>> ((2 : Int32).toUInt32 &&& Int32.toUInt32 31)).toInt32 &&& (858993459 : Int32))) + ((((x0 - ((x0.toUInt32 >>> ((1 : Int32).toUInt32 &&& Int32.toUInt32 31)).toInt32 &&& (1431655765 : Int32))) &&& (858993459 : Int32)) + (((x0 - ((x0.toUInt32 >>> ((1 : Int32).toUInt32 &&& Int32.toUInt32 31)).toInt32 &&& (1431655765 : Int32))).toUInt32 >>> ((2 : Int32).toUInt32 &&& Int32.toUInt32 31)).toInt32 &&& (858993459 : Int32))).toUInt32 >>> ((4 : Int32).toUInt32 &&& Int32.toUInt32 31)).toInt32) &&& (252645135 : Int32)).toUInt32 >>> ((8 : Int32).toUInt32 &&& Int32.toUInt32 31)).toInt32) + (((((((x0 - ((x0.toUInt32 >>> ((1 : Int32).toUInt32 &&& Int32.toUInt32 31)).toInt32 &&& (1431655765 : Int32))) &&& (858993459 : Int32)) + (((x0 - ((x0.toUInt32 >>> ((1 : Int32).toUInt32 &&& Int32.toUInt32 31)).toInt32 &&& (1431655765 : Int32))).toUInt32 >>> ((2 : Int32).toUInt32 &&& Int32.toUInt32 31)).toInt32 &&& (858993459 : Int32))) + ((((x0 - ((x0.toUInt32 >>> ((1 : Int32).toUInt32 &&& Int32.toUInt32 31)).toInt32 &&& (1431655765 : Int32))) &&& (858993459 : Int32)) + (((x0 - ((x0.toUInt32 >>> ((1 : Int32).toUInt32 &&& Int32.toUInt32 31)).toInt32 &&& (1431655765 : Int32))).toUInt32 >>> ((2 : Int32).toUInt32 &&& Int32.toUInt32 31)).toInt32 &&& (858993459 : Int32))).toUInt32 >>> ((4 : Int32).toUInt32 &&& Int32.toUInt32 31)).toInt32) &&& (252645135 : Int32)) + ((((((x0 - ((x0.toUInt32 >>> ((1 : Int32).toUInt32 &&& Int32.toUInt32 31)).toInt32 &&& (1431655765 : Int32))) &&& (858993459 : Int32)) + (((x0 - ((x0.toUInt32 >>> ((1 : Int32).toUInt32 &&& Int32.toUInt32 31)).toInt32 &&& (1431655765 : Int32))).toUInt32 >>> ((2 : Int32).toUInt32 &&& Int32.toUInt32 31)).toInt32 &&& (858993459 : Int32))) + ((((x0 - ((x0.toUInt32 >>> ((1 : Int32).toUInt32 &&& Int32.toUInt32 31)).toInt32 &&& (1431655765 : Int32))) &&& (858993459 : Int32)) + (((x0 - ((x0.toUInt32 >>> ((1 : Int32).toUInt32 &&& Int32.toUInt32 31)).toInt32 &&& (1431655765 : Int32))).toUInt32 >>> ((2 : Int32).toUInt32 &&& Int32.toUInt32 31)).toInt32 &&& (858993459 : Int32))).toUInt32 >>> ((4 : Int32).toUInt32 &&& Int32.toUInt32 31)).toInt32) &&& (252645135 : Int32)).toUInt32 >>> ((8 : Int32).toUInt32 &&& Int32.toUInt32 31)).toInt32).toUInt32 >>> ((16 : Int32).toUInt32 &&& Int32.toUInt32 31)).toInt32) &&& (63 : Int32))
def f_X9_far (x0 : Int32) (x1 : Int32) (M : Mm) : Option Int32 := (f_X9_column x0 M).bind fun v1 => (f_X9_column x1 M).bind fun v2 => (f_X9_row x0 M).bind fun v3 => (f_X9_row x1 M).bind fun v4 => some ((mabs (v1 - v2)) + (mabs (v3 - v4)))
def f_X4_joined (x0 : Int32) (x1 : Int32) (x2 : Int32) (M : Mm) : Option Int32 := (if x0 = 42 then some (x1 * x2) else (if x0 = 43 then some (x1 + x2) else (if x0 = 45 then some (x1 - x2) else (if x0 = 47 then (if x2 = 0 then some (0 : Int32) else (if x2 = 0 then none else some (x1 / x2))) else (if x2 = 0 then some (0 : Int32) else (if x2 = 0 then none else some (x1 - x1 / x2 * x2)))))))
def f_X8_addStone (a0 : Nat) (x1 : Int32) (x2 : Int32) (M : Mm) : Option Mm := (if (60 : Int32) ≤ (mi M a0 8) then some M else (f_X9_isCell x1 M).bind fun v2 => (if v2 = 0 then some M else (wi M (a0 + 1) 60 (mi M a0 8) x1).bind fun M5 => (wi M5 (a0 + 2) 60 (mi M5 a0 8) x2).bind fun M7 => (wi M7 (a0 + 3) 60 (mi M7 a0 8) (mi M7 a0 9)).bind fun M9 => (wi M9 (a0 + 4) 60 (mi M9 a0 8) (0 : Int32)).bind fun M11 => (ai (sI M11 a0 8 ((mi M11 a0 8) + (1 : Int32))) (a0 + 7) 48 x1).bind fun v13 => (wi (sI M11 a0 8 ((mi M11 a0 8) + (1 : Int32))) (a0 + 7) 48 x1 (v13 + (1 : Int32))).bind fun M14 => some (sI M14 a0 7 ((mi M14 a0 7) + (1 : Int32)))))
def f_X4_put (a0 : Nat) (x1 : Int32) (M : Mm) : Option Mm := (if (150 : Int32) ≤ (mi M a0 3) then some M else (wi M (a0 + 1) 150 (mi M a0 3) x1).bind fun M3 => some (sI M3 a0 3 ((mi M3 a0 3) + (1 : Int32))))
def f_J13_bitCount_95d88 (y0 : Int64) (M : Mm) : Option Int32 := some (((((((((y0 - ((y0.toUInt64 >>> ((1 : Int32).toInt64.toUInt64 &&& Int64.toUInt64 63)).toInt64 &&& (6148914691236517205 : Int64))) &&& (3689348814741910323 : Int64)) + (((y0 - ((y0.toUInt64 >>> ((1 : Int32).toInt64.toUInt64 &&& Int64.toUInt64 63)).toInt64 &&& (6148914691236517205 : Int64))).toUInt64 >>> ((2 : Int32).toInt64.toUInt64 &&& Int64.toUInt64 63)).toInt64 &&& (3689348814741910323 : Int64))) + ((((y0 - ((y0.toUInt64 >>> ((1 : Int32).toInt64.toUInt64 &&& Int64.toUInt64 63)).toInt64 &&& (6148914691236517205 : Int64))) &&& (3689348814741910323 : Int64)) + (((y0 - ((y0.toUInt64 >>> ((1 : Int32).toInt64.toUInt64 &&& Int64.toUInt64 63)).toInt64 &&& (6148914691236517205 : Int64))).toUInt64 >>> ((2 : Int32).toInt64.toUInt64 &&& Int64.toUInt64 63)).toInt64 &&& (3689348814741910323 : Int64))).toUInt64 >>> ((4 : Int32).toInt64.toUInt64 &&& Int64.toUInt64 63)).toInt64) &&& (1085102592571150095 : Int64)) + ((((((y0 - ((y0.toUInt64 >>> ((1 : Int32).toInt64.toUInt64 &&& Int64.toUInt64 63)).toInt64 &&& (6148914691236517205 : Int64))) &&& (3689348814741910323 : Int64)) + (((y0 - ((y0.toUInt64 >>> ((1 : Int32).toInt64.toUInt64 &&& Int64.toUInt64 63)).toInt64 &&& (6148914691236517205 : Int64))).toUInt64 >>> ((2 : Int32).toInt64.toUInt64 &&& Int64.toUInt64 63)).toInt64 &&& (3689348814741910323 : Int64))) + ((((y0 - ((y0.toUInt64 >>> ((1 : Int32).toInt64.toUInt64 &&& Int64.toUInt64 63)).toInt64 &&& (6148914691236517205 : Int64))) &&& (3689348814741910323 : Int64)) + (((y0 - ((y0.toUInt64 >>> ((1 : Int32).toInt64.toUInt64 &&& Int64.toUInt64 63)).toInt64 &&& (6148914691236517205 : Int64))).toUInt64 >>> ((2 : Int32).toInt64.toUInt64 &&& Int64.toUInt64 63)).toInt64 &&& (3689348814741910323 : Int64))).toUInt64 >>> ((4 : Int32).toInt64.toUInt64 &&& Int64.toUInt64 63)).toInt64) &&& (1085102592571150095 : Int64)).toUInt64 >>> ((8 : Int32).toInt64.toUInt64 &&& Int64.toUInt64 63)).toInt64) + (((((((y0 - ((y0.toUInt64 >>> ((1 : Int32).toInt64.toUInt64 &&& Int64.toUInt64 63)).toInt64 &&& (6148914691236517205 : Int64))) &&& (3689348814741910323 : Int64)) + (((y0 - ((y0.toUInt64 >>> ((1 : Int32).toInt64.toUInt64 &&& Int64.toUInt64 63)).toInt64 &&& (6148914691236517205 : Int64))).toUInt64 >>> ((2 : Int32).toInt64.toUInt64 &&& Int64.toUInt64 63)).toInt64 &&& (3689348814741910323 : Int64))) + ((((y0 - ((y0.toUInt64 >>> ((1 : Int32).toInt64.toUInt64 &&& Int64.toUInt64 63)).toInt64 &&& (6148914691236517205 : Int64))) &&& (3689348814741910323 : Int64)) + (((y0 - ((y0.toUInt64 >>> ((1 : Int32).toInt64.toUInt64 &&& Int64.toUInt64 63)).toInt64 &&& (6148914691236517205 : Int64))).toUInt64 >>> ((2 : Int32).toInt64.toUInt64 &&& Int64.toUInt64 63)).toInt64 &&& (3689348814741910323 : Int64))).toUInt64 >>> ((4 : Int32).toInt64.toUInt64 &&& Int64.toUInt64 63)).toInt64) &&& (1085102592571150095 : Int64)) + ((((((y0 - ((y0.toUInt64 >>> ((1 : Int32).toInt64.toUInt64 &&& Int64.toUInt64 63)).toInt64 &&& (6148914691236517205 : Int64))) &&& (3689348814741910323 : Int64)) + (((y0 - ((y0.toUInt64 >>> ((1 : Int32).toInt64.toUInt64 &&& Int64.toUInt64 63)).toInt64 &&& (6148914691236517205 : Int64))).toUInt64 >>> ((2 : Int32).toInt64.toUInt64 &&& Int64.toUInt64 63)).toInt64 &&& (3689348814741910323 : Int64))) + ((((y0 - ((y0.toUInt64 >>> ((1 : Int32).toInt64.toUInt64 &&& Int64.toUInt64 63)).toInt64 &&& (6148914691236517205 : Int64))) &&& (3689348814741910323 : Int64)) + (((y0 - ((y0.toUInt64 >>> ((1 : Int32).toInt64.toUInt64 &&& Int64.toUInt64 63)).toInt64 &&& (6148914691236517205 : Int64))).toUInt64 >>> ((2 : Int32).toInt64.toUInt64 &&& Int64.toUInt64 63)).toInt64 &&& (3689348814741910323 : Int64))).toUInt64 >>> ((4 : Int32).toInt64.toUInt64 &&& Int64.toUInt64 63)).toInt64) &&& (1085102592571150095 : Int64)).toUInt64 >>> ((8 : Int32).toInt64.toUInt64 &&& Int64.toUInt64 63)).toInt64).toUInt64 >>> ((16 : Int32).toInt64.toUInt64 &&& Int64.toUInt64 63)).toInt64) + ((((((((y0 - ((y0.toUInt64 >>> ((1 : Int32).toInt64.toUInt64 &&& Int64.toUInt64 63)).toInt64 &&& (6148914691236517205 : Int64))) &&& (3689348814741910323 : Int64)) + (((y0 - ((y0.toUInt64 >>> ((1 : Int32).toInt64.toUInt64 &&& Int64.toUInt64 63)).toInt64 &&& (6148914691236517205 : Int64))).toUInt64 >>> ((2 : Int32).toInt64.toUInt64 &&& Int64.toUInt64 63)).toInt64 &&& (3689348814741910323 : Int64))) + ((((y0 - ((y0.toUInt64 >>> ((1 : Int32).toInt64.toUInt64 &&& Int64.toUInt64 63)).toInt64 &&& (6148914691236517205 : Int64))) &&& (3689348814741910323 : Int64)) + (((y0 - ((y0.toUInt64 >>> ((1 : Int32).toInt64.toUInt64 &&& Int64.toUInt64 63)).toInt64 &&& (6148914691236517205 : Int64))).toUInt64 >>> ((2 : Int32).toInt64.toUInt64 &&& Int64.toUInt64 63)).toInt64 &&& (3689348814741910323 : Int64))).toUInt64 >>> ((4 : Int32).toInt64.toUInt64 &&& Int64.toUInt64 63)).toInt64) &&& (1085102592571150095 : Int64)) + ((((((y0 - ((y0.toUInt64 >>> ((1 : Int32).toInt64.toUInt64 &&& Int64.toUInt64 63)).toInt64 &&& (6148914691236517205 : Int64))) &&& (3689348814741910323 : Int64)) + (((y0 - ((y0.toUInt64 >>> ((1 : Int32).toInt64.toUInt64 &&& Int64.toUInt64 63)).toInt64 &&& (6148914691236517205 : Int64))).toUInt64 >>> ((2 : Int32).toInt64.toUInt64 &&& Int64.toUInt64 63)).toInt64 &&& (3689348814741910323 : Int64))) + ((((y0 - ((y0.toUInt64 >>> ((1 : Int32).toInt64.toUInt64 &&& Int64.toUInt64 63)).toInt64 &&& (6148914691236517205 : Int64))) &&& (3689348814741910323 : Int64)) + (((y0 - ((y0.toUInt64 >>> ((1 : Int32).toInt64.toUInt64 &&& Int64.toUInt64 63)).toInt64 &&& (6148914691236517205 : Int64))).toUInt64 >>> ((2 : Int32).toInt64.toUInt64 &&& Int64.toUInt64 63)).toInt64 &&& (3689348814741910323 : Int64))).toUInt64 >>> ((4 : Int32).toInt64.toUInt64 &&& Int64.toUInt64 63)).toInt64) &&& (1085102592571150095 : Int64)).toUInt64 >>> ((8 : Int32).toInt64.toUInt64 &&& Int64.toUInt64 63)).toInt64) + (((((((y0 - ((y0.toUInt64 >>> ((1 : Int32).toInt64.toUInt64 &&& Int64.toUInt64 63)).toInt64 &&& (6148914691236517205 : Int64))) &&& (3689348814741910323 : Int64)) + (((y0 - ((y0.toUInt64 >>> ((1 : Int32).toInt64.toUInt64 &&& Int64.toUInt64 63)).toInt64 &&& (6148914691236517205 : Int64))).toUInt64 >>> ((2 : Int32).toInt64.toUInt64 &&& Int64.toUInt64 63)).toInt64 &&& (3689348814741910323 : Int64))) + ((((y0 - ((y0.toUInt64 >>> ((1 : Int32).toInt64.toUInt64 &&& Int64.toUInt64 63)).toInt64 &&& (6148914691236517205 : Int64))) &&& (3689348814741910323 : Int64)) + (((y0 - ((y0.toUInt64 >>> ((1 : Int32).toInt64.toUInt64 &&& Int64.toUInt64 63)).toInt64 &&& (6148914691236517205 : Int64))).toUInt64 >>> ((2 : Int32).toInt64.toUInt64 &&& Int64.toUInt64 63)).toInt64 &&& (3689348814741910323 : Int64))).toUInt64 >>> ((4 : Int32).toInt64.toUInt64 &&& Int64.toUInt64 63)).toInt64) &&& (1085102592571150095 : Int64)) + ((((((y0 - ((y0.toUInt64 >>> ((1 : Int32).toInt64.toUInt64 &&& Int64.toUInt64 63)).toInt64 &&& (6148914691236517205 : Int64))) &&& (3689348814741910323 : Int64)) + (((y0 - ((y0.toUInt64 >>> ((1 : Int32).toInt64.toUInt64 &&& Int64.toUInt64 63)).toInt64 &&& (6148914691236517205 : Int64))).toUInt64 >>> ((2 : Int32).toInt64.toUInt64 &&& Int64.toUInt64 63)).toInt64 &&& (3689348814741910323 : Int64))) + ((((y0 - ((y0.toUInt64 >>> ((1 : Int32).toInt64.toUInt64 &&& Int64.toUInt64 63)).toInt64 &&& (6148914691236517205 : Int64))) &&& (3689348814741910323 : Int64)) + (((y0 - ((y0.toUInt64 >>> ((1 : Int32).toInt64.toUInt64 &&& Int64.toUInt64 63)).toInt64 &&& (6148914691236517205 : Int64))).toUInt64 >>> ((2 : Int32).toInt64.toUInt64 &&& Int64.toUInt64 63)).toInt64 &&& (3689348814741910323 : Int64))).toUInt64 >>> ((4 : Int32).toInt64.toUInt64 &&& Int64.toUInt64 63)).toInt64) &&& (1085102592571150095 : Int64)).toUInt64 >>> ((8 : Int32).toInt64.toUInt64 &&& Int64.toUInt64 63)).toInt64).toUInt64 >>> ((16 : Int32).toInt64.toUInt64 &&& Int64.toUInt64 63)).toInt64).toUInt64 >>> ((32 : Int32).toInt64.toUInt64 &&& Int64.toUInt64 63)).toInt64).toInt32 &&& (127 : Int32))
def f_X8_howMany_b4 (a0 : Nat) (x1 : Int32) (M : Mm) : (Int32 × Int32) → Option ((Int32 × Int32) ⊕ Int32) := fun (x2, x3) => (if (mi M a0 8) ≤ x3 then some (.inr x2) else (f_X8_placeOf a0 x3 M).bind fun v2 => some (.inl ((x2 + (if v2 = x1 then (1 : Int32) else (0 : Int32))), (x3 + (1 : Int32)))))
def f_X8_howMany (a0 : Nat) (x1 : Int32) (M : Mm) : Option Int32 := (whl fu (f_X8_howMany_b4 a0 x1 M) ((0 : Int32), (0 : Int32))).bind fun z2_4 => some z2_4
def f_X8_nearest_j52 (a0 : Nat) (x2 : Int32) (M : Mm) : Option (((Int32 × Int32) ⊕ Int32)) := some (.inl (x2, (x2 + (1 : Int32))))
def f_X8_nearest_b4 (a0 : Nat) (M : Mm) : (Int32 × Int32) → Option ((Int32 × Int32) ⊕ Int32) := fun (x1, x2) => (if (mi M a0 8) ≤ x2 then some (.inr x1) else (f_X8_placeOf a0 x2 M).bind fun v2 => (if v2 = 0 then (if x1 = (-1 : Int32) then f_X8_nearest_j52 a0 x2 M else (f_X8_cellOf a0 x2 M).bind fun v5 => (f_X9_far v5 (mi M a0 10) M).bind fun v6 => (f_X8_cellOf a0 x1 M).bind fun v7 => (f_X9_far v7 (mi M a0 10) M).bind fun v8 => (if v8 ≤ v6 then some (.inl (x1, (x2 + (1 : Int32)))) else f_X8_nearest_j52 a0 x2 M)) else some (.inl (x1, (x2 + (1 : Int32))))))
def f_X8_nearest (a0 : Nat) (M : Mm) : Option Int32 := (whl fu (f_X8_nearest_b4 a0 M) ((-1 : Int32), (0 : Int32))).bind fun z1_10 => some z1_10
section NB
variable {l : Launch} {s0 : State} {b L : Nat} {xs : Nat → Int32} {D : va_G} {cy : Nat → ClassId} {ad : Nat → Nat} {P : Nat → Prop}
abbrev P_J7_fill_53178_b5 (l : Launch) (s0 : State) (D : va_G) (cy : Nat → ClassId) (ad : Nat → Nat) (P : Nat → Prop) (a0 : Nat) (x1 : Int32) (x3 : Int32)  (res : Rs) (M' : Mm) (s : (Int32 × Mm)) : Prop := Rn l s0 D cy ad P 9 KJ7_fill_53178 5 [.ref a0, .int x1, .int (s.1), .int x3] [] (s.2) res M'
abbrev Q_J7_fill_53178_b5 (l : Launch) (s0 : State) (D : va_G) (cy : Nat → ClassId) (ad : Nat → Nat) (P : Nat → Prop) (a0 : Nat) (x1 : Int32) (x3 : Int32)  (res : Rs) (M' : Mm) (e : Mm) : Prop := Rn l s0 D cy ad P 9 KJ7_fill_53178 20 [.null, .null, .null, .null] [] (e) res M'
theorem B_J7_fill_53178_b5 (G : GG l s0 b L xs D cy ad) {a0 : Nat} {x1 : Int32} {x3 : Int32}  {res : Rs} {M' : Mm} (hp0 : P a0) (hs0 : SH a0 = 12) : ∀ (s : (Int32 × Mm)) (r : (Int32 × Mm) ⊕ Mm), f_J7_fill_53178_b5 a0 x1 x3 s = some r → mtc (P_J7_fill_53178_b5 l s0 D cy ad P a0 x1 x3 res M') (Q_J7_fill_53178_b5 l s0 D cy ad P a0 x1 x3 res M') r → P_J7_fill_53178_b5 l s0 D cy ad P a0 x1 x3 res M' s := by
  intro s r hr hk
  obtain ⟨x2, M⟩ := s
  unfold f_J7_fill_53178_b5 at hr
  dsimp only at hr
  dsimp only [P_J7_fill_53178_b5]
  refine n_iload_n (n := 2) (by decide +kernel) rfl ?_
  refine n_iload_n (n := 3) (by decide +kernel) rfl ?_
  refine n_icmp_ge (off := 13) (tgt := 20) (by decide +kernel) (by decide) (fun hc1 => ?_) (fun hc1 => ?_)
  · rw [if_pos hc1] at hr
    cases hr
    refine n_msk [false, false, false, false] (lo2 := [.null, .null, .null, .null]) rfl rfl ?_
    exact hk
  · rw [if_neg hc1] at hr
    refine n_aload_n (n := 0) (by decide +kernel) rfl ?_
    refine n_iload_n (n := 2) (by decide +kernel) rfl ?_
    refine n_iload_n (n := 1) (by decide +kernel) rfl ?_
    obtain ⟨M2, h2, hr⟩ := bso hr
    refine n_iast G h2 hp0 hs0 rfl (by decide +kernel) ?_
    refine n_iincK (n := 2) (j := 1) (w := 1) (lo2 := [_, _, _, _]) (by decide +kernel) rfl rfl rfl ?_
    refine n_goto (off := -12) (tgt := 5) (by decide +kernel) (by decide) ?_
    cases hr
    exact hk
theorem W_J7_fill_53178_b5 (G : GG l s0 b L xs D cy ad) {a0 : Nat} {x1 : Int32} {x3 : Int32}  (hp0 : P a0) (hs0 : SH a0 = 12) {s : (Int32 × Mm)} {e : Mm} (h : whl fu (f_J7_fill_53178_b5 a0 x1 x3) s = some e) (res : Rs) (M' : Mm) : Q_J7_fill_53178_b5 l s0 D cy ad P a0 x1 x3 res M' e → P_J7_fill_53178_b5 l s0 D cy ad P a0 x1 x3 res M' s := whl_run (P := fun s => P_J7_fill_53178_b5 l s0 D cy ad P a0 x1 x3 res M' s) (Q := fun e => Q_J7_fill_53178_b5 l s0 D cy ad P a0 x1 x3 res M' e) (B_J7_fill_53178_b5 G (res := res) (M' := M') (a0 := a0) (x1 := x1) (x3 := x3) hp0 hs0) fu s h
theorem B_J7_fill_53178 (G : GG l s0 b L xs D cy ad)  {a0 : Nat} {x1 : Int32} {M : Mm} {r : Mm} (hp0 : P a0) (hs0 : SH a0 = 12) (hr : f_J7_fill_53178 a0 x1 M = some r) : Cl l s0 D cy ad P 9 KJ7_fill_53178 [.ref a0, .int x1] M (.inl none) (r) := by
  refine cl_ofN (by decide +kernel) rfl rfl rfl (lo0 := [_, _, .null, .null]) rfl ?_
  unfold f_J7_fill_53178 at hr
  refine n_iconst (n := 0) (v := 0) (by decide +kernel) rfl ?_
  refine n_istore_n (n := 2) (lo2 := [_, _, _, _]) (by decide +kernel) (Nat.le_of_ble_eq_true rfl) rfl ?_
  refine n_aload_n (n := 0) (by decide +kernel) rfl ?_
  refine n_alen G (v := (Int32.ofNat (LN a0))) hp0 (Or.inr (Or.inl hs0)) rfl rfl (by decide +kernel) ?_
  refine n_istore_n (n := 3) (lo2 := [_, _, _, _]) (by decide +kernel) (Nat.le_of_ble_eq_true rfl) rfl ?_
  obtain ⟨M3, h3, hr⟩ := bso hr
  refine (W_J7_fill_53178_b5 G hp0 hs0 h3 _ _) ?_
  dsimp only [Q_J7_fill_53178_b5]
  cases hr
  exact n_return (by decide +kernel)
theorem B_X8_isStone (G : GG l s0 b L xs D cy ad)  {a0 : Nat} {x1 : Int32} {M : Mm} {r : Int32} (hp0 : P a0) (hs0 : SH a0 = 8) (hr : f_X8_isStone a0 x1 M = some r) : Cl l s0 D cy ad P 9 KX8_isStone [.ref a0, .int x1] M (.inl (some (.int r))) (M) := by
  unfold f_X8_isStone at hr
  obtain ⟨v0, hr, h1⟩ := bso hr
  obtain ⟨hb, rfl⟩ := rB_in h1
  refine cl_ofN (by decide +kernel) rfl rfl (okB hb) (lo0 := [_, _]) rfl ?_
  unfold g_X8_isStone at hr
  refine n_iload_n (n := 1) (by decide +kernel) rfl ?_
  refine n_if_lt (off := 21) (tgt := 22) (by decide +kernel) (by decide) (fun hc1 => ?_) (fun hc1 => ?_)
  · rw [if_pos hc1] at hr
    refine n_iconst (n := 0) (v := 0) (by decide +kernel) rfl ?_
    cases hr
    exact n_ireturn (by decide +kernel)
  · rw [if_neg hc1] at hr
    refine n_iload_n (n := 1) (by decide +kernel) rfl ?_
    refine n_aload_n (n := 0) (by decide +kernel) rfl ?_
    refine n_getI G fl_RX8_43 hp0 hs0 (by decide +kernel) ?_
    refine n_icmp_ge (off := 13) (tgt := 22) (by decide +kernel) (by decide) (fun hc2 => ?_) (fun hc2 => ?_)
    · rw [if_pos hc2] at hr
      refine n_iconst (n := 0) (v := 0) (by decide +kernel) rfl ?_
      cases hr
      exact n_ireturn (by decide +kernel)
    · rw [if_neg hc2] at hr
      refine n_iload_n (n := 1) (by decide +kernel) rfl ?_
      refine n_bipush (n := 60) (v := 60) (by decide +kernel) rfl ?_
      refine n_icmp_ge (off := 7) (tgt := 22) (by decide +kernel) (by decide) (fun hc3 => ?_) (fun hc3 => ?_)
      · rw [if_pos hc3] at hr
        refine n_iconst (n := 0) (v := 0) (by decide +kernel) rfl ?_
        cases hr
        exact n_ireturn (by decide +kernel)
      · rw [if_neg hc3] at hr
        refine n_iconst (n := 1) (v := 1) (by decide +kernel) rfl ?_
        refine n_goto (off := 4) (tgt := 23) (by decide +kernel) (by decide) ?_
        cases hr
        exact n_ireturn (by decide +kernel)
theorem B_X8_cellOf (G : GG l s0 b L xs D cy ad)  {a0 : Nat} {x1 : Int32} {M : Mm} {r : Int32} (hp0 : P a0) (hs0 : SH a0 = 8) (hr : f_X8_cellOf a0 x1 M = some r) : Cl l s0 D cy ad P 10 KX8_cellOf [.ref a0, .int x1] M (.inl (some (.int r))) (M) := by
  refine cl_ofN (by decide +kernel) rfl rfl okI (lo0 := [_, _]) rfl ?_
  unfold f_X8_cellOf at hr
  refine n_aload_n (n := 0) (by decide +kernel) rfl ?_
  refine n_iload_n (n := 1) (by decide +kernel) rfl ?_
  obtain ⟨v1, h1, hr⟩ := bso hr
  refine n_callVi G [_] (x := v1) (B_X8_isStone G hp0 hs0 h1) (by decide) mX8_isStone ml_RX8_73 hp0 hs0 rfl rfl (Nat.le_of_ble_eq_true rfl) (by decide +kernel) ?_
  refine n_if_eq (off := 12) (tgt := 17) (by decide +kernel) (by decide) (fun hc2 => ?_) (fun hc2 => ?_)
  · rw [if_pos hc2] at hr
    refine n_iconst (n := 0) (v := 0) (by decide +kernel) rfl ?_
    cases hr
    exact n_ireturn (by decide +kernel)
  · rw [if_neg hc2] at hr
    refine n_aload_n (n := 0) (by decide +kernel) rfl ?_
    refine n_getF G fl_RX8_9 hp0 hs0 (fr_8_0 hs0).1 (by decide +kernel) (fun hp3q => ?_)
    refine n_iload_n (n := 1) (by decide +kernel) rfl ?_
    obtain ⟨v4, h4, hr⟩ := bso hr
    refine n_iald G h4 hp3q (fr_8_0 hs0).2.1 (fr_8_0 hs0).2.2 (by decide +kernel) ?_
    refine n_goto (off := 4) (tgt := 18) (by decide +kernel) (by decide) ?_
    cases hr
    exact n_ireturn (by decide +kernel)
theorem B_X8_placeOf (G : GG l s0 b L xs D cy ad)  {a0 : Nat} {x1 : Int32} {M : Mm} {r : Int32} (hp0 : P a0) (hs0 : SH a0 = 8) (hr : f_X8_placeOf a0 x1 M = some r) : Cl l s0 D cy ad P 10 KX8_placeOf [.ref a0, .int x1] M (.inl (some (.int r))) (M) := by
  refine cl_ofN (by decide +kernel) rfl rfl okI (lo0 := [_, _]) rfl ?_
  unfold f_X8_placeOf at hr
  refine n_aload_n (n := 0) (by decide +kernel) rfl ?_
  refine n_iload_n (n := 1) (by decide +kernel) rfl ?_
  obtain ⟨v1, h1, hr⟩ := bso hr
  refine n_callVi G [_] (x := v1) (B_X8_isStone G hp0 hs0 h1) (by decide) mX8_isStone ml_RX8_73 hp0 hs0 rfl rfl (Nat.le_of_ble_eq_true rfl) (by decide +kernel) ?_
  refine n_if_eq (off := 12) (tgt := 17) (by decide +kernel) (by decide) (fun hc2 => ?_) (fun hc2 => ?_)
  · rw [if_pos hc2] at hr
    refine n_iconst (n := -1) (v := -1) (by decide +kernel) rfl ?_
    cases hr
    exact n_ireturn (by decide +kernel)
  · rw [if_neg hc2] at hr
    refine n_aload_n (n := 0) (by decide +kernel) rfl ?_
    refine n_getF G fl_RX8_21 hp0 hs0 (fr_8_3 hs0).1 (by decide +kernel) (fun hp3q => ?_)
    refine n_iload_n (n := 1) (by decide +kernel) rfl ?_
    obtain ⟨v4, h4, hr⟩ := bso hr
    refine n_iald G h4 hp3q (fr_8_3 hs0).2.1 (fr_8_3 hs0).2.2 (by decide +kernel) ?_
    refine n_goto (off := 4) (tgt := 18) (by decide +kernel) (by decide) ?_
    cases hr
    exact n_ireturn (by decide +kernel)
theorem B_X9_isCell (G : GG l s0 b L xs D cy ad)  {x0 : Int32} {M : Mm} {r : Int32}  (hr : f_X9_isCell x0 M = some r) : Cl l s0 D cy ad P 9 KX9_isCell [.int x0] M (.inl (some (.int r))) (M) := by
  unfold f_X9_isCell at hr
  obtain ⟨v0, hr, h1⟩ := bso hr
  obtain ⟨hb, rfl⟩ := rB_in h1
  refine cl_ofN (by decide +kernel) rfl rfl (okB hb) (lo0 := [_]) rfl ?_
  unfold g_X9_isCell at hr
  refine n_iload_n (n := 0) (by decide +kernel) rfl ?_
  refine n_if_lt (off := 13) (tgt := 14) (by decide +kernel) (by decide) (fun hc1 => ?_) (fun hc1 => ?_)
  · rw [if_pos hc1] at hr
    refine n_iconst (n := 0) (v := 0) (by decide +kernel) rfl ?_
    cases hr
    exact n_ireturn (by decide +kernel)
  · rw [if_neg hc1] at hr
    refine n_iload_n (n := 0) (by decide +kernel) rfl ?_
    refine n_bipush (n := 48) (v := 48) (by decide +kernel) rfl ?_
    refine n_icmp_ge (off := 7) (tgt := 14) (by decide +kernel) (by decide) (fun hc2 => ?_) (fun hc2 => ?_)
    · rw [if_pos hc2] at hr
      refine n_iconst (n := 0) (v := 0) (by decide +kernel) rfl ?_
      cases hr
      exact n_ireturn (by decide +kernel)
    · rw [if_neg hc2] at hr
      refine n_iconst (n := 1) (v := 1) (by decide +kernel) rfl ?_
      refine n_goto (off := 4) (tgt := 15) (by decide +kernel) (by decide) ?_
      cases hr
      exact n_ireturn (by decide +kernel)
theorem B_X8_isLost (G : GG l s0 b L xs D cy ad)  {a0 : Nat} {x1 : Int32} {M : Mm} {r : Int32} (hp0 : P a0) (hs0 : SH a0 = 8) (hr : f_X8_isLost a0 x1 M = some r) : Cl l s0 D cy ad P 10 KX8_isLost [.ref a0, .int x1] M (.inl (some (.int r))) (M) := by
  unfold f_X8_isLost at hr
  obtain ⟨v0, hr, h1⟩ := bso hr
  obtain ⟨hb, rfl⟩ := rB_in h1
  refine cl_ofN (by decide +kernel) rfl rfl (okB hb) (lo0 := [_, _]) rfl ?_
  unfold g_X8_isLost at hr
  refine n_iload_n (n := 1) (by decide +kernel) rfl ?_
  obtain ⟨v1, h1, hr⟩ := bso hr
  refine n_callSNi G [_] (x := v1) (B_X9_isCell G  h1) (by decide) mX9_isCell ml_RX8_77 rfl rfl (Nat.le_of_ble_eq_true rfl) (by decide +kernel) ?_
  refine n_if_eq (off := 16) (tgt := 20) (by decide +kernel) (by decide) (fun hc2 => ?_) (fun hc2 => ?_)
  · rw [if_pos hc2] at hr
    refine n_iconst (n := 0) (v := 0) (by decide +kernel) rfl ?_
    cases hr
    exact n_ireturn (by decide +kernel)
  · rw [if_neg hc2] at hr
    refine n_aload_n (n := 0) (by decide +kernel) rfl ?_
    refine n_getF G fl_RX8_24 hp0 hs0 (fr_8_4 hs0).1 (by decide +kernel) (fun hp3q => ?_)
    refine n_iload_n (n := 1) (by decide +kernel) rfl ?_
    obtain ⟨v4, h4, hr⟩ := bso hr
    refine n_iald G h4 hp3q (fr_8_4 hs0).2.1 (fr_8_4 hs0).2.2 (by decide +kernel) ?_
    refine n_if_eq (off := 7) (tgt := 20) (by decide +kernel) (by decide) (fun hc5 => ?_) (fun hc5 => ?_)
    · rw [if_pos hc5] at hr
      refine n_iconst (n := 0) (v := 0) (by decide +kernel) rfl ?_
      cases hr
      exact n_ireturn (by decide +kernel)
    · rw [if_neg hc5] at hr
      refine n_iconst (n := 1) (v := 1) (by decide +kernel) rfl ?_
      refine n_goto (off := 4) (tgt := 21) (by decide +kernel) (by decide) ?_
      cases hr
      exact n_ireturn (by decide +kernel)
theorem B_X8_isAsked (G : GG l s0 b L xs D cy ad)  {a0 : Nat} {x1 : Int32} {M : Mm} {r : Int32} (hp0 : P a0) (hs0 : SH a0 = 8) (hr : f_X8_isAsked a0 x1 M = some r) : Cl l s0 D cy ad P 11 KX8_isAsked [.ref a0, .int x1] M (.inl (some (.int r))) (M) := by
  unfold f_X8_isAsked at hr
  obtain ⟨v0, hr, h1⟩ := bso hr
  obtain ⟨hb, rfl⟩ := rB_in h1
  refine cl_ofN (by decide +kernel) rfl rfl (okB hb) (lo0 := [_, _]) rfl ?_
  unfold g_X8_isAsked at hr
  refine n_aload_n (n := 0) (by decide +kernel) rfl ?_
  refine n_iload_n (n := 1) (by decide +kernel) rfl ?_
  obtain ⟨v1, h1, hr⟩ := bso hr
  refine n_callVi G [_] (x := v1) (B_X8_placeOf G hp0 hs0 h1) (by decide) mX8_placeOf ml_RX8_80 hp0 hs0 rfl rfl (Nat.le_of_ble_eq_true rfl) (by decide +kernel) ?_
  refine n_if_ne (off := 19) (tgt := 24) (by decide +kernel) (by decide) (fun hc2 => ?_) (fun hc2 => ?_)
  · rw [if_neg hc2] at hr
    refine n_iconst (n := 0) (v := 0) (by decide +kernel) rfl ?_
    cases hr
    exact n_ireturn (by decide +kernel)
  · rw [if_pos hc2] at hr
    refine n_aload_n (n := 0) (by decide +kernel) rfl ?_
    refine n_aload_n (n := 0) (by decide +kernel) rfl ?_
    refine n_iload_n (n := 1) (by decide +kernel) rfl ?_
    obtain ⟨v3, h3, hr⟩ := bso hr
    refine n_callVi G [_] (x := v3) (B_X8_cellOf G hp0 hs0 h3) (by decide) mX8_cellOf ml_RX8_84 hp0 hs0 rfl rfl (Nat.le_of_ble_eq_true rfl) (by decide +kernel) ?_
    obtain ⟨v4, h4, hr⟩ := bso hr
    refine n_callVi G [_] (x := v4) (B_X8_isLost G hp0 hs0 h4) (by decide) mX8_isLost ml_RX8_87 hp0 hs0 rfl rfl (Nat.le_of_ble_eq_true rfl) (by decide +kernel) ?_
    refine n_if_ne (off := 7) (tgt := 24) (by decide +kernel) (by decide) (fun hc5 => ?_) (fun hc5 => ?_)
    · rw [if_neg hc5] at hr
      refine n_iconst (n := 0) (v := 0) (by decide +kernel) rfl ?_
      cases hr
      exact n_ireturn (by decide +kernel)
    · rw [if_pos hc5] at hr
      refine n_iconst (n := 1) (v := 1) (by decide +kernel) rfl ?_
      refine n_goto (off := 4) (tgt := 25) (by decide +kernel) (by decide) ?_
      cases hr
      exact n_ireturn (by decide +kernel)
theorem B_X9_row (G : GG l s0 b L xs D cy ad)  {x0 : Int32} {M : Mm} {r : Int32}  (hr : f_X9_row x0 M = some r) : Cl l s0 D cy ad P 9 KX9_row [.int x0] M (.inl (some (.int r))) (M) := by
  refine cl_ofN (by decide +kernel) rfl rfl okI (lo0 := [_]) rfl ?_
  unfold f_X9_row at hr
  refine n_iload_n (n := 0) (by decide +kernel) rfl ?_
  refine n_iconst (n := 3) (v := 3) (by decide +kernel) rfl ?_
  refine n_ishr (by decide +kernel) ?_
  cases hr
  exact n_ireturn (by decide +kernel)
theorem B_X8_sizeOf (G : GG l s0 b L xs D cy ad)  {a0 : Nat} {x1 : Int32} {M : Mm} {r : Int32} (hp0 : P a0) (hs0 : SH a0 = 8) (hr : f_X8_sizeOf a0 x1 M = some r) : Cl l s0 D cy ad P 10 KX8_sizeOf [.ref a0, .int x1] M (.inl (some (.int r))) (M) := by
  refine cl_ofN (by decide +kernel) rfl rfl okI (lo0 := [_, _]) rfl ?_
  unfold f_X8_sizeOf at hr
  refine n_aload_n (n := 0) (by decide +kernel) rfl ?_
  refine n_iload_n (n := 1) (by decide +kernel) rfl ?_
  obtain ⟨v1, h1, hr⟩ := bso hr
  refine n_callVi G [_] (x := v1) (B_X8_isStone G hp0 hs0 h1) (by decide) mX8_isStone ml_RX8_73 hp0 hs0 rfl rfl (Nat.le_of_ble_eq_true rfl) (by decide +kernel) ?_
  refine n_if_eq (off := 12) (tgt := 17) (by decide +kernel) (by decide) (fun hc2 => ?_) (fun hc2 => ?_)
  · rw [if_pos hc2] at hr
    refine n_iconst (n := 0) (v := 0) (by decide +kernel) rfl ?_
    cases hr
    exact n_ireturn (by decide +kernel)
  · rw [if_neg hc2] at hr
    refine n_aload_n (n := 0) (by decide +kernel) rfl ?_
    refine n_getF G fl_RX8_15 hp0 hs0 (fr_8_1 hs0).1 (by decide +kernel) (fun hp3q => ?_)
    refine n_iload_n (n := 1) (by decide +kernel) rfl ?_
    obtain ⟨v4, h4, hr⟩ := bso hr
    refine n_iald G h4 hp3q (fr_8_1 hs0).2.1 (fr_8_1 hs0).2.2 (by decide +kernel) ?_
    refine n_goto (off := 4) (tgt := 18) (by decide +kernel) (by decide) ?_
    cases hr
    exact n_ireturn (by decide +kernel)
theorem B_X9_column (G : GG l s0 b L xs D cy ad)  {x0 : Int32} {M : Mm} {r : Int32}  (hr : f_X9_column x0 M = some r) : Cl l s0 D cy ad P 9 KX9_column [.int x0] M (.inl (some (.int r))) (M) := by
  refine cl_ofN (by decide +kernel) rfl rfl okI (lo0 := [_]) rfl ?_
  unfold f_X9_column at hr
  refine n_iload_n (n := 0) (by decide +kernel) rfl ?_
  refine n_bipush (n := 7) (v := 7) (by decide +kernel) rfl ?_
  refine n_iand (by decide +kernel) ?_
  cases hr
  exact n_ireturn (by decide +kernel)
theorem B_J6_bitCount_0f7a4 (G : GG l s0 b L xs D cy ad)  {x0 : Int32} {M : Mm} {r : Int32}  (hr : f_J6_bitCount_0f7a4 x0 M = some r) : Cl l s0 D cy ad P 9 KJ6_bitCount_0f7a4 [.int x0] M (.inl (some (.int r))) (M) := by
  refine cl_ofN (by decide +kernel) rfl rfl okI (lo0 := [_]) rfl ?_
  unfold f_J6_bitCount_0f7a4 at hr
  refine n_iload_n (n := 0) (by decide +kernel) rfl ?_
  refine n_iload_n (n := 0) (by decide +kernel) rfl ?_
  refine n_iconst (n := 1) (v := 1) (by decide +kernel) rfl ?_
  refine n_iushr (by decide +kernel) ?_
  refine n_ldcw G ct_RJ6_265 (by decide +kernel) ?_
  refine n_iand (by decide +kernel) ?_
  refine n_isub (by decide +kernel) ?_
  refine n_istore_n (n := 0) (lo2 := [_]) (by decide +kernel) (Nat.le_of_ble_eq_true rfl) rfl ?_
  refine n_iload_n (n := 0) (by decide +kernel) rfl ?_
  refine n_ldcw G ct_RJ6_266 (by decide +kernel) ?_
  refine n_iand (by decide +kernel) ?_
  refine n_iload_n (n := 0) (by decide +kernel) rfl ?_
  refine n_iconst (n := 2) (v := 2) (by decide +kernel) rfl ?_
  refine n_iushr (by decide +kernel) ?_
  refine n_ldcw G ct_RJ6_266 (by decide +kernel) ?_
  refine n_iand (by decide +kernel) ?_
  refine n_iadd (by decide +kernel) ?_
  refine n_istore_n (n := 0) (lo2 := [_]) (by decide +kernel) (Nat.le_of_ble_eq_true rfl) rfl ?_
  refine n_iload_n (n := 0) (by decide +kernel) rfl ?_
  refine n_iload_n (n := 0) (by decide +kernel) rfl ?_
  refine n_iconst (n := 4) (v := 4) (by decide +kernel) rfl ?_
  refine n_iushr (by decide +kernel) ?_
  refine n_iadd (by decide +kernel) ?_
  refine n_ldcw G ct_RJ6_267 (by decide +kernel) ?_
  refine n_iand (by decide +kernel) ?_
  refine n_istore_n (n := 0) (lo2 := [_]) (by decide +kernel) (Nat.le_of_ble_eq_true rfl) rfl ?_
  refine n_iload_n (n := 0) (by decide +kernel) rfl ?_
  refine n_iload_n (n := 0) (by decide +kernel) rfl ?_
  refine n_bipush (n := 8) (v := 8) (by decide +kernel) rfl ?_
  refine n_iushr (by decide +kernel) ?_
  refine n_iadd (by decide +kernel) ?_
  refine n_istore_n (n := 0) (lo2 := [_]) (by decide +kernel) (Nat.le_of_ble_eq_true rfl) rfl ?_
  refine n_iload_n (n := 0) (by decide +kernel) rfl ?_
  refine n_iload_n (n := 0) (by decide +kernel) rfl ?_
  refine n_bipush (n := 16) (v := 16) (by decide +kernel) rfl ?_
  refine n_iushr (by decide +kernel) ?_
  refine n_iadd (by decide +kernel) ?_
  refine n_istore_n (n := 0) (lo2 := [_]) (by decide +kernel) (Nat.le_of_ble_eq_true rfl) rfl ?_
  refine n_iload_n (n := 0) (by decide +kernel) rfl ?_
  refine n_bipush (n := 63) (v := 63) (by decide +kernel) rfl ?_
  refine n_iand (by decide +kernel) ?_
  cases hr
  exact n_ireturn (by decide +kernel)
theorem B_X9_far (G : GG l s0 b L xs D cy ad)  {x0 : Int32} {x1 : Int32} {M : Mm} {r : Int32}  (hr : f_X9_far x0 x1 M = some r) : Cl l s0 D cy ad P 10 KX9_far [.int x0, .int x1] M (.inl (some (.int r))) (M) := by
  refine cl_ofN (by decide +kernel) rfl rfl okI (lo0 := [_, _]) rfl ?_
  unfold f_X9_far at hr
  refine n_iload_n (n := 0) (by decide +kernel) rfl ?_
  obtain ⟨v1, h1, hr⟩ := bso hr
  refine n_callSi G [_] (x := v1) (B_X9_column G  h1) (by decide) mX9_column ml_RX9_182 rfl rfl (Nat.le_of_ble_eq_true rfl) (by decide +kernel) ?_
  refine n_iload_n (n := 1) (by decide +kernel) rfl ?_
  obtain ⟨v2, h2, hr⟩ := bso hr
  refine n_callSi G [_] (x := v2) (B_X9_column G  h2) (by decide) mX9_column ml_RX9_182 rfl rfl (Nat.le_of_ble_eq_true rfl) (by decide +kernel) ?_
  refine n_isub (by decide +kernel) ?_
  refine n_mabs G ml_RX9_379 (by decide) (Nat.le_of_ble_eq_true rfl) (by decide +kernel) ?_
  refine n_iload_n (n := 0) (by decide +kernel) rfl ?_
  obtain ⟨v3, h3, hr⟩ := bso hr
  refine n_callSi G [_] (x := v3) (B_X9_row G  h3) (by decide) mX9_row ml_RX9_185 rfl rfl (Nat.le_of_ble_eq_true rfl) (by decide +kernel) ?_
  refine n_iload_n (n := 1) (by decide +kernel) rfl ?_
  obtain ⟨v4, h4, hr⟩ := bso hr
  refine n_callSi G [_] (x := v4) (B_X9_row G  h4) (by decide) mX9_row ml_RX9_185 rfl rfl (Nat.le_of_ble_eq_true rfl) (by decide +kernel) ?_
  refine n_isub (by decide +kernel) ?_
  refine n_mabs G ml_RX9_379 (by decide) (Nat.le_of_ble_eq_true rfl) (by decide +kernel) ?_
  refine n_iadd (by decide +kernel) ?_
  cases hr
  exact n_ireturn (by decide +kernel)
theorem tabD_X4_joined_1 (x : Int32) (h42 : x.toInt ≠ 42) (h43 : x.toInt ≠ 43) (h45 : x.toInt ≠ 45) (h47 : x.toInt ≠ 47) : tabDef 42 47 63 #[47, 39, 63, 43, 63, 51] x := by
  unfold tabDef
  by_cases h1 : x.toInt < 42
  · exact Or.inl (Or.inl h1)
  by_cases h2 : 47 < x.toInt
  · exact Or.inl (Or.inr h2)
  refine Or.inr ⟨h1, h2, ?_⟩
  have : x.toInt = 44 ∨ x.toInt = 46 := by omega
  rcases this with h | h <;> (rw [h]; decide)
theorem B_X4_joined (G : GG l s0 b L xs D cy ad)  {x0 : Int32} {x1 : Int32} {x2 : Int32} {M : Mm} {r : Int32}  (hr : f_X4_joined x0 x1 x2 M = some r) : Cl l s0 D cy ad P 9 KX4_joined [.int x0, .int x1, .int x2] M (.inl (some (.int r))) (M) := by
  refine cl_ofN (by decide +kernel) rfl rfl okI (lo0 := [_, _, _]) rfl ?_
  unfold f_X4_joined at hr
  refine n_iload_n (n := 0) (by decide +kernel) rfl ?_
  by_cases hc1 : x0 = 42
  · rw [if_pos hc1] at hr
    refine n_tabIn (dflt := 63) (lw := 42) (hi := 47) (offs := #[47, 39, 63, 43, 63, 51]) (len := 39) (off := 47) (tgt := 48) (by decide +kernel) (by rw [hc1]; decide) (by rw [hc1]; decide) (by rw [hc1]; decide) (by decide) ?_
    refine n_iload_n (n := 1) (by decide +kernel) rfl ?_
    refine n_iload_n (n := 2) (by decide +kernel) rfl ?_
    refine n_imul (by decide +kernel) ?_
    cases hr
    exact n_ireturn (by decide +kernel)
  rw [if_neg hc1] at hr
  by_cases hc2 : x0 = 43
  · rw [if_pos hc2] at hr
    refine n_tabIn (dflt := 63) (lw := 42) (hi := 47) (offs := #[47, 39, 63, 43, 63, 51]) (len := 39) (off := 39) (tgt := 40) (by decide +kernel) (by rw [hc2]; decide) (by rw [hc2]; decide) (by rw [hc2]; decide) (by decide) ?_
    refine n_iload_n (n := 1) (by decide +kernel) rfl ?_
    refine n_iload_n (n := 2) (by decide +kernel) rfl ?_
    refine n_iadd (by decide +kernel) ?_
    cases hr
    exact n_ireturn (by decide +kernel)
  rw [if_neg hc2] at hr
  by_cases hc3 : x0 = 45
  · rw [if_pos hc3] at hr
    refine n_tabIn (dflt := 63) (lw := 42) (hi := 47) (offs := #[47, 39, 63, 43, 63, 51]) (len := 39) (off := 43) (tgt := 44) (by decide +kernel) (by rw [hc3]; decide) (by rw [hc3]; decide) (by rw [hc3]; decide) (by decide) ?_
    refine n_iload_n (n := 1) (by decide +kernel) rfl ?_
    refine n_iload_n (n := 2) (by decide +kernel) rfl ?_
    refine n_isub (by decide +kernel) ?_
    cases hr
    exact n_ireturn (by decide +kernel)
  rw [if_neg hc3] at hr
  by_cases hc4 : x0 = 47
  · rw [if_pos hc4] at hr
    refine n_tabIn (dflt := 63) (lw := 42) (hi := 47) (offs := #[47, 39, 63, 43, 63, 51]) (len := 39) (off := 51) (tgt := 52) (by decide +kernel) (by rw [hc4]; decide) (by rw [hc4]; decide) (by rw [hc4]; decide) (by decide) ?_
    refine n_iload_n (n := 2) (by decide +kernel) rfl ?_
    refine n_if_ne (off := 7) (tgt := 60) (by decide +kernel) (by decide) (fun hc5 => ?_) (fun hc5 => ?_)
    · rw [if_neg hc5] at hr
      refine n_iload_n (n := 1) (by decide +kernel) rfl ?_
      refine n_iload_n (n := 2) (by decide +kernel) rfl ?_
      by_cases hz6 : x2 = 0
      · rw [if_pos hz6] at hr; cases hr
      rw [if_neg hz6] at hr
      refine n_idiv hz6 (by decide +kernel) ?_
      cases hr
      exact n_ireturn (by decide +kernel)
    · rw [if_pos hc5] at hr
      refine n_iconst (n := 0) (v := 0) (by decide +kernel) rfl ?_
      refine n_goto (off := 6) (tgt := 63) (by decide +kernel) (by decide) ?_
      cases hr
      exact n_ireturn (by decide +kernel)
  rw [if_neg hc4] at hr
  have e1 := ne_toInt hc1 (n := 42) rfl
  have e2 := ne_toInt hc2 (n := 43) rfl
  have e3 := ne_toInt hc3 (n := 45) rfl
  have e4 := ne_toInt hc4 (n := 47) rfl
  refine n_tabD (dflt := 63) (lw := 42) (hi := 47) (offs := #[47, 39, 63, 43, 63, 51]) (len := 39) (tgt := 64) (by decide +kernel) (by decide) (tabD_X4_joined_1 _ e1 e2 e3 e4) ?_
  refine n_iload_n (n := 2) (by decide +kernel) rfl ?_
  refine n_if_ne (off := 7) (tgt := 72) (by decide +kernel) (by decide) (fun hc7 => ?_) (fun hc7 => ?_)
  · rw [if_neg hc7] at hr
    refine n_iload_n (n := 1) (by decide +kernel) rfl ?_
    refine n_iload_n (n := 2) (by decide +kernel) rfl ?_
    by_cases hz8 : x2 = 0
    · rw [if_pos hz8] at hr; cases hr
    rw [if_neg hz8] at hr
    refine n_irem hz8 (by decide +kernel) ?_
    cases hr
    exact n_ireturn (by decide +kernel)
  · rw [if_pos hc7] at hr
    refine n_iconst (n := 0) (v := 0) (by decide +kernel) rfl ?_
    refine n_goto (off := 6) (tgt := 75) (by decide +kernel) (by decide) ?_
    cases hr
    exact n_ireturn (by decide +kernel)
theorem B_X8_addStone (G : GG l s0 b L xs D cy ad)  {a0 : Nat} {x1 : Int32} {x2 : Int32} {M : Mm} {r : Mm} (hp0 : P a0) (hs0 : SH a0 = 8) (hr : f_X8_addStone a0 x1 x2 M = some r) : Cl l s0 D cy ad P 10 KX8_addStone [.ref a0, .int x1, .int x2] M (.inl none) (r) := by
  refine cl_ofN (by decide +kernel) rfl rfl rfl (lo0 := [_, _, _]) rfl ?_
  unfold f_X8_addStone at hr
  refine n_aload_n (n := 0) (by decide +kernel) rfl ?_
  refine n_getI G fl_RX8_43 hp0 hs0 (by decide +kernel) ?_
  refine n_bipush (n := 60) (v := 60) (by decide +kernel) rfl ?_
  refine n_icmp_ge (off := 10) (tgt := 16) (by decide +kernel) (by decide) (fun hc1 => ?_) (fun hc1 => ?_)
  · rw [if_pos hc1] at hr
    cases hr
    exact n_return (by decide +kernel)
  · rw [if_neg hc1] at hr
    refine n_iload_n (n := 1) (by decide +kernel) rfl ?_
    obtain ⟨v2, h2, hr⟩ := bso hr
    refine n_callSNi G [_] (x := v2) (B_X9_isCell G  h2) (by decide) mX9_isCell ml_RX8_77 rfl rfl (Nat.le_of_ble_eq_true rfl) (by decide +kernel) ?_
    refine n_if_ne (off := 4) (tgt := 17) (by decide +kernel) (by decide) (fun hc3 => ?_) (fun hc3 => ?_)
    · rw [if_neg hc3] at hr
      refine n_aload_n (n := 0) (by decide +kernel) rfl ?_
      refine n_getF G fl_RX8_9 hp0 hs0 (fr_8_0 hs0).1 (by decide +kernel) (fun hp4q => ?_)
      refine n_aload_n (n := 0) (by decide +kernel) rfl ?_
      refine n_getI G fl_RX8_43 hp0 hs0 (by decide +kernel) ?_
      refine n_iload_n (n := 1) (by decide +kernel) rfl ?_
      obtain ⟨M5, h5, hr⟩ := bso hr
      refine n_iast G h5 hp4q (fr_8_0 hs0).2.1 (fr_8_0 hs0).2.2 (by decide +kernel) ?_
      refine n_aload_n (n := 0) (by decide +kernel) rfl ?_
      refine n_getF G fl_RX8_15 hp0 hs0 (fr_8_1 hs0).1 (by decide +kernel) (fun hp6q => ?_)
      refine n_aload_n (n := 0) (by decide +kernel) rfl ?_
      refine n_getI G fl_RX8_43 hp0 hs0 (by decide +kernel) ?_
      refine n_iload_n (n := 2) (by decide +kernel) rfl ?_
      obtain ⟨M7, h7, hr⟩ := bso hr
      refine n_iast G h7 hp6q (fr_8_1 hs0).2.1 (fr_8_1 hs0).2.2 (by decide +kernel) ?_
      refine n_aload_n (n := 0) (by decide +kernel) rfl ?_
      refine n_getF G fl_RX8_18 hp0 hs0 (fr_8_2 hs0).1 (by decide +kernel) (fun hp8q => ?_)
      refine n_aload_n (n := 0) (by decide +kernel) rfl ?_
      refine n_getI G fl_RX8_43 hp0 hs0 (by decide +kernel) ?_
      refine n_aload_n (n := 0) (by decide +kernel) rfl ?_
      refine n_getI G fl_RX8_46 hp0 hs0 (by decide +kernel) ?_
      obtain ⟨M9, h9, hr⟩ := bso hr
      refine n_iast G h9 hp8q (fr_8_2 hs0).2.1 (fr_8_2 hs0).2.2 (by decide +kernel) ?_
      refine n_aload_n (n := 0) (by decide +kernel) rfl ?_
      refine n_getF G fl_RX8_21 hp0 hs0 (fr_8_3 hs0).1 (by decide +kernel) (fun hp10q => ?_)
      refine n_aload_n (n := 0) (by decide +kernel) rfl ?_
      refine n_getI G fl_RX8_43 hp0 hs0 (by decide +kernel) ?_
      refine n_iconst (n := 0) (v := 0) (by decide +kernel) rfl ?_
      obtain ⟨M11, h11, hr⟩ := bso hr
      refine n_iast G h11 hp10q (fr_8_3 hs0).2.1 (fr_8_3 hs0).2.2 (by decide +kernel) ?_
      refine n_aload_n (n := 0) (by decide +kernel) rfl ?_
      refine n_dup rfl (by decide +kernel) ?_
      refine n_getI G fl_RX8_43 hp0 hs0 (by decide +kernel) ?_
      refine n_iconst (n := 1) (v := 1) (by decide +kernel) rfl ?_
      refine n_iadd (by decide +kernel) ?_
      refine n_putI G fl_RX8_43 hp0 hs0 (by decide +kernel) ?_
      refine n_aload_n (n := 0) (by decide +kernel) rfl ?_
      refine n_getF G fl_RX8_30 hp0 hs0 (fr_8_6 hs0).1 (by decide +kernel) (fun hp12q => ?_)
      refine n_iload_n (n := 1) (by decide +kernel) rfl ?_
      refine n_dup2 rfl rfl (by decide +kernel) ?_
      obtain ⟨v13, h13, hr⟩ := bso hr
      refine n_iald G h13 hp12q (fr_8_6 hs0).2.1 (fr_8_6 hs0).2.2 (by decide +kernel) ?_
      refine n_iconst (n := 1) (v := 1) (by decide +kernel) rfl ?_
      refine n_iadd (by decide +kernel) ?_
      obtain ⟨M14, h14, hr⟩ := bso hr
      refine n_iast G h14 hp12q (fr_8_6 hs0).2.1 (fr_8_6 hs0).2.2 (by decide +kernel) ?_
      refine n_aload_n (n := 0) (by decide +kernel) rfl ?_
      refine n_dup rfl (by decide +kernel) ?_
      refine n_getI G fl_RX8_39 hp0 hs0 (by decide +kernel) ?_
      refine n_iconst (n := 1) (v := 1) (by decide +kernel) rfl ?_
      refine n_iadd (by decide +kernel) ?_
      refine n_putI G fl_RX8_39 hp0 hs0 (by decide +kernel) ?_
      cases hr
      exact n_return (by decide +kernel)
    · rw [if_pos hc3] at hr
      cases hr
      exact n_return (by decide +kernel)
theorem B_X4_put (G : GG l s0 b L xs D cy ad)  {a0 : Nat} {x1 : Int32} {M : Mm} {r : Mm} (hp0 : P a0) (hs0 : SH a0 = 4) (hr : f_X4_put a0 x1 M = some r) : Cl l s0 D cy ad P 9 KX4_put [.ref a0, .int x1] M (.inl none) (r) := by
  refine cl_ofN (by decide +kernel) rfl rfl rfl (lo0 := [_, _]) rfl ?_
  unfold f_X4_put at hr
  refine n_aload_n (n := 0) (by decide +kernel) rfl ?_
  refine n_getI G fl_RX4_21 hp0 hs0 (by decide +kernel) ?_
  refine n_sipush (n := 150) (v := 150) (by decide +kernel) (by decide +kernel) ?_
  refine n_icmp_ge (off := 23) (tgt := 30) (by decide +kernel) (by decide) (fun hc1 => ?_) (fun hc1 => ?_)
  · rw [if_pos hc1] at hr
    cases hr
    exact n_return (by decide +kernel)
  · rw [if_neg hc1] at hr
    refine n_aload_n (n := 0) (by decide +kernel) rfl ?_
    refine n_getF G fl_RX4_11 hp0 hs0 (fr_4_0 hs0).1 (by decide +kernel) (fun hp2q => ?_)
    refine n_aload_n (n := 0) (by decide +kernel) rfl ?_
    refine n_getI G fl_RX4_21 hp0 hs0 (by decide +kernel) ?_
    refine n_iload_n (n := 1) (by decide +kernel) rfl ?_
    obtain ⟨M3, h3, hr⟩ := bso hr
    refine n_iast G h3 hp2q (fr_4_0 hs0).2.1 (fr_4_0 hs0).2.2 (by decide +kernel) ?_
    refine n_aload_n (n := 0) (by decide +kernel) rfl ?_
    refine n_dup rfl (by decide +kernel) ?_
    refine n_getI G fl_RX4_21 hp0 hs0 (by decide +kernel) ?_
    refine n_iconst (n := 1) (v := 1) (by decide +kernel) rfl ?_
    refine n_iadd (by decide +kernel) ?_
    refine n_putI G fl_RX4_21 hp0 hs0 (by decide +kernel) ?_
    cases hr
    exact n_return (by decide +kernel)
theorem B_J13_bitCount_95d88 (G : GG l s0 b L xs D cy ad)  {y0 : Int64} {M : Mm} {r : Int32}  (hr : f_J13_bitCount_95d88 y0 M = some r) : Cl l s0 D cy ad P 9 KJ13_bitCount_95d88 [.long y0] M (.inl (some (.int r))) (M) := by
  refine cl_ofN (by decide +kernel) rfl rfl okI (lo0 := [_, .null]) rfl ?_
  unfold f_J13_bitCount_95d88 at hr
  refine n_lload_n (n := 0) (by decide +kernel) rfl ?_
  refine n_lload_n (n := 0) (by decide +kernel) rfl ?_
  refine n_iconst (n := 1) (v := 1) (by decide +kernel) rfl ?_
  refine n_lushr (by decide +kernel) ?_
  refine n_ldc2 G ct_RJ13_314 (by decide +kernel) ?_
  refine n_land (by decide +kernel) ?_
  refine n_lsub (by decide +kernel) ?_
  refine n_lstore_n (n := 0) (lo2 := [_, _]) (by decide +kernel) (Nat.le_of_ble_eq_true rfl) rfl ?_
  refine n_lload_n (n := 0) (by decide +kernel) rfl ?_
  refine n_ldc2 G ct_RJ13_316 (by decide +kernel) ?_
  refine n_land (by decide +kernel) ?_
  refine n_lload_n (n := 0) (by decide +kernel) rfl ?_
  refine n_iconst (n := 2) (v := 2) (by decide +kernel) rfl ?_
  refine n_lushr (by decide +kernel) ?_
  refine n_ldc2 G ct_RJ13_316 (by decide +kernel) ?_
  refine n_land (by decide +kernel) ?_
  refine n_ladd (by decide +kernel) ?_
  refine n_lstore_n (n := 0) (lo2 := [_, _]) (by decide +kernel) (Nat.le_of_ble_eq_true rfl) rfl ?_
  refine n_lload_n (n := 0) (by decide +kernel) rfl ?_
  refine n_lload_n (n := 0) (by decide +kernel) rfl ?_
  refine n_iconst (n := 4) (v := 4) (by decide +kernel) rfl ?_
  refine n_lushr (by decide +kernel) ?_
  refine n_ladd (by decide +kernel) ?_
  refine n_ldc2 G ct_RJ13_318 (by decide +kernel) ?_
  refine n_land (by decide +kernel) ?_
  refine n_lstore_n (n := 0) (lo2 := [_, _]) (by decide +kernel) (Nat.le_of_ble_eq_true rfl) rfl ?_
  refine n_lload_n (n := 0) (by decide +kernel) rfl ?_
  refine n_lload_n (n := 0) (by decide +kernel) rfl ?_
  refine n_bipush (n := 8) (v := 8) (by decide +kernel) rfl ?_
  refine n_lushr (by decide +kernel) ?_
  refine n_ladd (by decide +kernel) ?_
  refine n_lstore_n (n := 0) (lo2 := [_, _]) (by decide +kernel) (Nat.le_of_ble_eq_true rfl) rfl ?_
  refine n_lload_n (n := 0) (by decide +kernel) rfl ?_
  refine n_lload_n (n := 0) (by decide +kernel) rfl ?_
  refine n_bipush (n := 16) (v := 16) (by decide +kernel) rfl ?_
  refine n_lushr (by decide +kernel) ?_
  refine n_ladd (by decide +kernel) ?_
  refine n_lstore_n (n := 0) (lo2 := [_, _]) (by decide +kernel) (Nat.le_of_ble_eq_true rfl) rfl ?_
  refine n_lload_n (n := 0) (by decide +kernel) rfl ?_
  refine n_lload_n (n := 0) (by decide +kernel) rfl ?_
  refine n_bipush (n := 32) (v := 32) (by decide +kernel) rfl ?_
  refine n_lushr (by decide +kernel) ?_
  refine n_ladd (by decide +kernel) ?_
  refine n_lstore_n (n := 0) (lo2 := [_, _]) (by decide +kernel) (Nat.le_of_ble_eq_true rfl) rfl ?_
  refine n_lload_n (n := 0) (by decide +kernel) rfl ?_
  refine n_l2i (by decide +kernel) ?_
  refine n_bipush (n := 127) (v := 127) (by decide +kernel) rfl ?_
  refine n_iand (by decide +kernel) ?_
  cases hr
  exact n_ireturn (by decide +kernel)
abbrev P_X8_howMany_b4 (l : Launch) (s0 : State) (D : va_G) (cy : Nat → ClassId) (ad : Nat → Nat) (P : Nat → Prop) (a0 : Nat) (x1 : Int32) (M : Mm) (res : Rs) (M' : Mm) (s : (Int32 × Int32)) : Prop := Rn l s0 D cy ad P 11 KX8_howMany 4 [.ref a0, .int x1, .int (s.1), .int (s.2)] [] M res M'
abbrev Q_X8_howMany_b4 (l : Launch) (s0 : State) (D : va_G) (cy : Nat → ClassId) (ad : Nat → Nat) (P : Nat → Prop) (a0 : Nat) (x1 : Int32) (M : Mm) (res : Rs) (M' : Mm) (e : Int32) : Prop := Rn l s0 D cy ad P 11 KX8_howMany 35 [.null, .null, .int (e), .null] [] M res M'
theorem B_X8_howMany_b4 (G : GG l s0 b L xs D cy ad) {a0 : Nat} {x1 : Int32} {M : Mm} {res : Rs} {M' : Mm} (hp0 : P a0) (hs0 : SH a0 = 8) : ∀ (s : (Int32 × Int32)) (r : (Int32 × Int32) ⊕ Int32), f_X8_howMany_b4 a0 x1 M s = some r → mtc (P_X8_howMany_b4 l s0 D cy ad P a0 x1 M res M') (Q_X8_howMany_b4 l s0 D cy ad P a0 x1 M res M') r → P_X8_howMany_b4 l s0 D cy ad P a0 x1 M res M' s := by
  intro s r hr hk
  obtain ⟨x2, x3⟩ := s
  unfold f_X8_howMany_b4 at hr
  dsimp only at hr
  dsimp only [P_X8_howMany_b4]
  refine n_iload_n (n := 3) (by decide +kernel) rfl ?_
  refine n_aload_n (n := 0) (by decide +kernel) rfl ?_
  refine n_getI G fl_RX8_43 hp0 hs0 (by decide +kernel) ?_
  refine n_icmp_ge (off := 26) (tgt := 35) (by decide +kernel) (by decide) (fun hc1 => ?_) (fun hc1 => ?_)
  · rw [if_pos hc1] at hr
    cases hr
    refine n_msk [false, false, true, false] (lo2 := [.null, .null, _, .null]) rfl rfl ?_
    exact hk
  · rw [if_neg hc1] at hr
    refine n_iload_n (n := 2) (by decide +kernel) rfl ?_
    refine n_aload_n (n := 0) (by decide +kernel) rfl ?_
    refine n_iload_n (n := 3) (by decide +kernel) rfl ?_
    obtain ⟨v2, h2, hr⟩ := bso hr
    refine n_callVi G [_] (x := v2) (B_X8_placeOf G hp0 hs0 h2) (by decide) mX8_placeOf ml_RX8_80 hp0 hs0 rfl rfl (Nat.le_of_ble_eq_true rfl) (by decide +kernel) ?_
    refine n_iload_n (n := 1) (by decide +kernel) rfl ?_
    refine n_dia2 (J := 27) (c := v2 = x1) (a := (1 : Int32)) (b := (0 : Int32)) (fun hJ => ?_) ?_
    · refine n_icmp_ne (off := 7) (tgt := 26) (by decide +kernel) (by decide) (fun hc3 => ?_) (fun hc3 => ?_)
      · refine n_iconst (n := 0) (v := 0) (by decide +kernel) rfl ?_
        exact hJ _ (if_neg hc3).symm
      · refine n_iconst (n := 1) (v := 1) (by decide +kernel) rfl ?_
        refine n_goto (off := 4) (tgt := 27) (by decide +kernel) (by decide) ?_
        exact hJ _ (if_pos hc3).symm
    refine n_iadd (by decide +kernel) ?_
    refine n_istore_n (n := 2) (lo2 := [_, _, _, _]) (by decide +kernel) (Nat.le_of_ble_eq_true rfl) rfl ?_
    refine n_iincK (n := 3) (j := 1) (w := 1) (lo2 := [_, _, _, _]) (by decide +kernel) rfl rfl rfl ?_
    refine n_goto (off := -28) (tgt := 4) (by decide +kernel) (by decide) ?_
    cases hr
    exact hk
theorem W_X8_howMany_b4 (G : GG l s0 b L xs D cy ad) {a0 : Nat} {x1 : Int32} {M : Mm} (hp0 : P a0) (hs0 : SH a0 = 8) {s : (Int32 × Int32)} {e : Int32} (h : whl fu (f_X8_howMany_b4 a0 x1 M) s = some e) (res : Rs) (M' : Mm) : Q_X8_howMany_b4 l s0 D cy ad P a0 x1 M res M' e → P_X8_howMany_b4 l s0 D cy ad P a0 x1 M res M' s := whl_run (P := fun s => P_X8_howMany_b4 l s0 D cy ad P a0 x1 M res M' s) (Q := fun e => Q_X8_howMany_b4 l s0 D cy ad P a0 x1 M res M' e) (B_X8_howMany_b4 G (res := res) (M' := M') (a0 := a0) (x1 := x1) (M := M) hp0 hs0) fu s h
theorem B_X8_howMany (G : GG l s0 b L xs D cy ad)  {a0 : Nat} {x1 : Int32} {M : Mm} {r : Int32} (hp0 : P a0) (hs0 : SH a0 = 8) (hr : f_X8_howMany a0 x1 M = some r) : Cl l s0 D cy ad P 11 KX8_howMany [.ref a0, .int x1] M (.inl (some (.int r))) (M) := by
  refine cl_ofN (by decide +kernel) rfl rfl okI (lo0 := [_, _, .null, .null]) rfl ?_
  unfold f_X8_howMany at hr
  refine n_iconst (n := 0) (v := 0) (by decide +kernel) rfl ?_
  refine n_istore_n (n := 2) (lo2 := [_, _, _, _]) (by decide +kernel) (Nat.le_of_ble_eq_true rfl) rfl ?_
  refine n_iconst (n := 0) (v := 0) (by decide +kernel) rfl ?_
  refine n_istore_n (n := 3) (lo2 := [_, _, _, _]) (by decide +kernel) (Nat.le_of_ble_eq_true rfl) rfl ?_
  obtain ⟨z2_4, h4, hr⟩ := bso hr
  refine (W_X8_howMany_b4 G hp0 hs0 h4 _ _) ?_
  dsimp only [Q_X8_howMany_b4]
  refine n_iload_n (n := 2) (by decide +kernel) rfl ?_
  cases hr
  exact n_ireturn (by decide +kernel)
abbrev P_X8_nearest_b4 (l : Launch) (s0 : State) (D : va_G) (cy : Nat → ClassId) (ad : Nat → Nat) (P : Nat → Prop) (a0 : Nat) (M : Mm) (res : Rs) (M' : Mm) (s : (Int32 × Int32)) : Prop := Rn l s0 D cy ad P 11 KX8_nearest 4 [.ref a0, .int (s.1), .int (s.2)] [] M res M'
abbrev Q_X8_nearest_b4 (l : Launch) (s0 : State) (D : va_G) (cy : Nat → ClassId) (ad : Nat → Nat) (P : Nat → Prop) (a0 : Nat) (M : Mm) (res : Rs) (M' : Mm) (e : Int32) : Prop := Rn l s0 D cy ad P 11 KX8_nearest 60 [.null, .int (e), .null] [] M res M'
theorem B_X8_nearest_j52 (G : GG l s0 b L xs D cy ad) {a0 : Nat} {x2 : Int32} {M : Mm}  {res : Rs} {M' : Mm} {r : ((Int32 × Int32) ⊕ Int32)} (hp0 : P a0) (hs0 : SH a0 = 8) (hr : f_X8_nearest_j52 a0 x2 M = some r) (hk : mtc (P_X8_nearest_b4 l s0 D cy ad P a0 M res M') (Q_X8_nearest_b4 l s0 D cy ad P a0 M res M') r) : Rn l s0 D cy ad P 11 KX8_nearest 52 [.ref a0, .null, .int x2] [] M res M' := by
  unfold f_X8_nearest_j52 at hr
  refine n_iload_n (n := 2) (by decide +kernel) rfl ?_
  refine n_istore_n (n := 1) (lo2 := [_, _, _]) (by decide +kernel) (Nat.le_of_ble_eq_true rfl) rfl ?_
  refine n_iincK (n := 2) (j := 1) (w := 1) (lo2 := [_, _, _]) (by decide +kernel) rfl rfl rfl ?_
  refine n_goto (off := -53) (tgt := 4) (by decide +kernel) (by decide) ?_
  cases hr
  exact hk
theorem B_X8_nearest_b4 (G : GG l s0 b L xs D cy ad) {a0 : Nat} {M : Mm} {res : Rs} {M' : Mm} (hp0 : P a0) (hs0 : SH a0 = 8) : ∀ (s : (Int32 × Int32)) (r : (Int32 × Int32) ⊕ Int32), f_X8_nearest_b4 a0 M s = some r → mtc (P_X8_nearest_b4 l s0 D cy ad P a0 M res M') (Q_X8_nearest_b4 l s0 D cy ad P a0 M res M') r → P_X8_nearest_b4 l s0 D cy ad P a0 M res M' s := by
  intro s r hr hk
  obtain ⟨x1, x2⟩ := s
  unfold f_X8_nearest_b4 at hr
  dsimp only at hr
  dsimp only [P_X8_nearest_b4]
  refine n_iload_n (n := 2) (by decide +kernel) rfl ?_
  refine n_aload_n (n := 0) (by decide +kernel) rfl ?_
  refine n_getI G fl_RX8_43 hp0 hs0 (by decide +kernel) ?_
  refine n_icmp_ge (off := 51) (tgt := 60) (by decide +kernel) (by decide) (fun hc1 => ?_) (fun hc1 => ?_)
  · rw [if_pos hc1] at hr
    cases hr
    refine n_msk [false, true, false] (lo2 := [.null, _, .null]) rfl rfl ?_
    exact hk
  · rw [if_neg hc1] at hr
    refine n_aload_n (n := 0) (by decide +kernel) rfl ?_
    refine n_iload_n (n := 2) (by decide +kernel) rfl ?_
    obtain ⟨v2, h2, hr⟩ := bso hr
    refine n_callVi G [_] (x := v2) (B_X8_placeOf G hp0 hs0 h2) (by decide) mX8_placeOf ml_RX8_80 hp0 hs0 rfl rfl (Nat.le_of_ble_eq_true rfl) (by decide +kernel) ?_
    refine n_if_ne (off := 37) (tgt := 54) (by decide +kernel) (by decide) (fun hc3 => ?_) (fun hc3 => ?_)
    · rw [if_neg hc3] at hr
      refine n_iincK (n := 2) (j := 1) (w := 1) (lo2 := [_, _, _]) (by decide +kernel) rfl rfl rfl ?_
      refine n_goto (off := -53) (tgt := 4) (by decide +kernel) (by decide) ?_
      cases hr
      exact hk
    · rw [if_pos hc3] at hr
      refine n_iload_n (n := 1) (by decide +kernel) rfl ?_
      refine n_iconst (n := -1) (v := -1) (by decide +kernel) rfl ?_
      refine n_icmp_eq (off := 30) (tgt := 52) (by decide +kernel) (by decide) (fun hc4 => ?_) (fun hc4 => ?_)
      · rw [if_pos hc4] at hr
        refine n_msk [true, false, true] (lo2 := [_, .null, _]) rfl rfl ?_
        exact B_X8_nearest_j52 G hp0 hs0 hr hk
      · rw [if_neg hc4] at hr
        refine n_aload_n (n := 0) (by decide +kernel) rfl ?_
        refine n_iload_n (n := 2) (by decide +kernel) rfl ?_
        obtain ⟨v5, h5, hr⟩ := bso hr
        refine n_callVi G [_] (x := v5) (B_X8_cellOf G hp0 hs0 h5) (by decide) mX8_cellOf ml_RX8_84 hp0 hs0 rfl rfl (Nat.le_of_ble_eq_true rfl) (by decide +kernel) ?_
        refine n_aload_n (n := 0) (by decide +kernel) rfl ?_
        refine n_getI G fl_RX8_49 hp0 hs0 (by decide +kernel) ?_
        obtain ⟨v6, h6, hr⟩ := bso hr
        refine n_callSNi G [_, _] (x := v6) (B_X9_far G  h6) (by decide) mX9_far ml_RX8_100 rfl rfl (Nat.le_of_ble_eq_true rfl) (by decide +kernel) ?_
        refine n_aload_n (n := 0) (by decide +kernel) rfl ?_
        refine n_iload_n (n := 1) (by decide +kernel) rfl ?_
        obtain ⟨v7, h7, hr⟩ := bso hr
        refine n_callVi G [_] (x := v7) (B_X8_cellOf G hp0 hs0 h7) (by decide) mX8_cellOf ml_RX8_84 hp0 hs0 rfl rfl (Nat.le_of_ble_eq_true rfl) (by decide +kernel) ?_
        refine n_aload_n (n := 0) (by decide +kernel) rfl ?_
        refine n_getI G fl_RX8_49 hp0 hs0 (by decide +kernel) ?_
        obtain ⟨v8, h8, hr⟩ := bso hr
        refine n_callSNi G [_, _] (x := v8) (B_X9_far G  h8) (by decide) mX9_far ml_RX8_100 rfl rfl (Nat.le_of_ble_eq_true rfl) (by decide +kernel) ?_
        refine n_icmp_ge (off := 5) (tgt := 54) (by decide +kernel) (by decide) (fun hc9 => ?_) (fun hc9 => ?_)
        · rw [if_pos hc9] at hr
          refine n_iincK (n := 2) (j := 1) (w := 1) (lo2 := [_, _, _]) (by decide +kernel) rfl rfl rfl ?_
          refine n_goto (off := -53) (tgt := 4) (by decide +kernel) (by decide) ?_
          cases hr
          exact hk
        · rw [if_neg hc9] at hr
          refine n_msk [true, false, true] (lo2 := [_, .null, _]) rfl rfl ?_
          exact B_X8_nearest_j52 G hp0 hs0 hr hk
theorem W_X8_nearest_b4 (G : GG l s0 b L xs D cy ad) {a0 : Nat} {M : Mm} (hp0 : P a0) (hs0 : SH a0 = 8) {s : (Int32 × Int32)} {e : Int32} (h : whl fu (f_X8_nearest_b4 a0 M) s = some e) (res : Rs) (M' : Mm) : Q_X8_nearest_b4 l s0 D cy ad P a0 M res M' e → P_X8_nearest_b4 l s0 D cy ad P a0 M res M' s := whl_run (P := fun s => P_X8_nearest_b4 l s0 D cy ad P a0 M res M' s) (Q := fun e => Q_X8_nearest_b4 l s0 D cy ad P a0 M res M' e) (B_X8_nearest_b4 G (res := res) (M' := M') (a0 := a0) (M := M) hp0 hs0) fu s h
theorem B_X8_nearest (G : GG l s0 b L xs D cy ad)  {a0 : Nat} {M : Mm} {r : Int32} (hp0 : P a0) (hs0 : SH a0 = 8) (hr : f_X8_nearest a0 M = some r) : Cl l s0 D cy ad P 11 KX8_nearest [.ref a0] M (.inl (some (.int r))) (M) := by
  refine cl_ofN (by decide +kernel) rfl rfl okI (lo0 := [_, .null, .null]) rfl ?_
  unfold f_X8_nearest at hr
  refine n_iconst (n := -1) (v := -1) (by decide +kernel) rfl ?_
  refine n_istore_n (n := 1) (lo2 := [_, _, _]) (by decide +kernel) (Nat.le_of_ble_eq_true rfl) rfl ?_
  refine n_iconst (n := 0) (v := 0) (by decide +kernel) rfl ?_
  refine n_istore_n (n := 2) (lo2 := [_, _, _]) (by decide +kernel) (Nat.le_of_ble_eq_true rfl) rfl ?_
  obtain ⟨z1_10, h10, hr⟩ := bso hr
  refine (W_X8_nearest_b4 G hp0 hs0 h10 _ _) ?_
  dsimp only [Q_X8_nearest_b4]
  refine n_iload_n (n := 1) (by decide +kernel) rfl ?_
  cases hr
  exact n_ireturn (by decide +kernel)
end NB
