/-! level 3: the count of bits of a long -/
section BL
def V64 (x : Int64) : Nat := x.toUInt64.toNat
def sR64 (x : Int64) (k : Int32) : Int64 := (x.toUInt64 >>> (k.toInt64.toUInt64 &&& Int64.toUInt64 63)).toInt64
theorem V64_lt {x : Int64} : V64 x < 2 ^ 64 := x.toUInt64.toNat_lt
theorem V64_sh {x : Int64} {k : Int32} {n : Nat} (h : (k.toInt64.toUInt64 &&& Int64.toUInt64 63).toNat % 64 = n) : V64 (sR64 x k) = V64 x >>> n := by
  unfold V64 sR64
  rw [UInt64.toUInt64_toInt64, UInt64.toNat_shiftRight, h]
theorem V64_and {a b : Int64} : V64 (a &&& b) = V64 a &&& V64 b := by
  unfold V64
  rw [Int64.toUInt64_and, UInt64.toNat_and]
theorem V64_add {a b : Int64} (h : V64 a + V64 b < 2 ^ 64) : V64 (a + b) = V64 a + V64 b := by
  unfold V64 at *
  rw [Int64.toUInt64_add, UInt64.toNat_add, Nat.mod_eq_of_lt h]
theorem V64_sub {a b : Int64} (h : V64 b ≤ V64 a) : V64 (a - b) = V64 a - V64 b := by
  unfold V64 at *
  rw [Int64.toUInt64_sub, UInt64.toNat_sub_of_le _ _ (UInt64.le_iff_toNat_le.mpr h)]
theorem V64_end {x : Int64} {s : Nat} (h : V64 x &&& 127 = s) : x.toInt32 &&& (127 : Int32) = Int32.ofNat s := by
  have hx : V64 x = x.toBitVec.toNat := rfl
  have e : ((127 : Int32)).toBitVec.toNat = 127 := rfl
  have e2 : (Int32.ofNat s).toBitVec.toNat = s % 2 ^ 32 := rfl
  have e3 : V64 x &&& 127 = V64 x % 2 ^ 7 := Nat.and_two_pow_sub_one_eq_mod _ 7
  have e4 : (V64 x % 2 ^ 32) &&& 127 = V64 x % 2 ^ 32 % 2 ^ 7 := Nat.and_two_pow_sub_one_eq_mod _ 7
  refine Int32.toBitVec_inj.mp (BitVec.eq_of_toNat_eq ?_)
  rw [Int32.toBitVec_and, Int64.toBitVec_toInt32, BitVec.signExtend_eq_setWidth_of_le _ (by decide), BitVec.toNat_and, BitVec.toNat_setWidth, e, e2, ← hx, e4, ← h, e3]
  omega
def sw1 (y : Int64) : Int64 := y - (sR64 y 1 &&& 6148914691236517205)
def sw2 (x : Int64) : Int64 := (x &&& 3689348814741910323) + (sR64 x 2 &&& 3689348814741910323)
def sw3 (x : Int64) : Int64 := (x + sR64 x 4) &&& 1085102592571150095
def sw4 (x : Int64) : Int64 := x + sR64 x 8
def sw5 (x : Int64) : Int64 := x + sR64 x 16
def sw6 (x : Int64) : Int64 := x + sR64 x 32
theorem J13_sw {y : Int64} : (sw6 (sw5 (sw4 (sw3 (sw2 (sw1 y)))))).toInt32 &&& (127 : Int32) = Int32.ofNat (nsum (bt (V64 y)) 64) := by
  have hy := V64_lt (x := y)
  have m5 : V64 (6148914691236517205 : Int64) = 6148914691236517205 := rfl
  have m3 : V64 (3689348814741910323 : Int64) = 3689348814741910323 := rfl
  have mF : V64 (1085102592571150095 : Int64) = 1085102592571150095 := rfl
  have t1 : V64 (sw1 y) = lan 2 (bc (V64 y)) 32 := by
    rw [← pop1 hy]
    unfold sw1
    rw [V64_sub, V64_and, V64_sh (n := 1) rfl, m5]
    rw [V64_and, V64_sh (n := 1) rfl]
    exact Nat.le_trans Nat.and_le_left (by rw [Nat.shiftRight_eq_div_pow]; exact Nat.div_le_self _ _)
  have t2 : V64 (sw2 (sw1 y)) = lan 4 (bd (V64 y)) 16 := by
    rw [← pop2 hy]
    unfold sw2
    rw [V64_add, V64_and, V64_and, V64_sh (n := 2) rfl, m3, t1]
    rw [V64_and, V64_and, V64_sh (n := 2) rfl, m3, t1, pop2 hy]
    exact lan_lt (w := 4) 16 (fun j _ => by have := bd_le (y := V64 y) (j := j); omega)
  have t3 : V64 (sw3 (sw2 (sw1 y))) = lan 8 (be (V64 y)) 8 := by
    rw [← pop3 hy]
    unfold sw3
    rw [V64_and, V64_add, V64_sh (n := 4) rfl, mF, t2]
    rw [V64_sh (n := 4) rfl, t2, pop3s hy]
    exact lan_lt (w := 4) 16 (fun j _ => by have := bd_le (y := V64 y) (j := j); have := bd_le (y := V64 y) (j := j + 1); omega)
  have t4 : V64 (sw4 (sw3 (sw2 (sw1 y)))) = lan 8 (b4 (V64 y)) 8 := by
    refine Eq.trans ?_ (pop4 hy)
    unfold sw4
    rw [V64_add, V64_sh (n := 8) rfl, t3]
    rw [V64_sh (n := 8) rfl, t3, pop4 hy]
    exact lan_lt (w := 8) 8 (fun j _ => by have := b4_le (y := V64 y) (j := j); unfold b4 at this; omega)
  have t5 : V64 (sw5 (sw4 (sw3 (sw2 (sw1 y))))) = lan 8 (b5 (V64 y)) 8 := by
    refine Eq.trans ?_ (pop5 hy)
    unfold sw5
    rw [V64_add, V64_sh (n := 16) rfl, t4]
    rw [V64_sh (n := 16) rfl, t4, pop5 hy]
    exact lan_lt (w := 8) 8 (fun j _ => by have := b5_le (y := V64 y) (j := j); omega)
  have t6 : V64 (sw6 (sw5 (sw4 (sw3 (sw2 (sw1 y)))))) = lan 8 (b6 (V64 y)) 8 := by
    refine Eq.trans ?_ (pop6 hy)
    unfold sw6
    rw [V64_add, V64_sh (n := 32) rfl, t5]
    rw [V64_sh (n := 32) rfl, t5, pop6 hy]
    exact lan_lt (w := 8) 8 (fun j _ => by have := b6_le (y := V64 y) (j := j); omega)
  exact V64_end (by rw [t6]; exact pop7)
theorem k_bits {y : Int64} {M : Mm} : f_J13_bitCount_95d88 y M = some (Int32.ofNat (nsum (bt (V64 y)) 64)) := by
  unfold f_J13_bitCount_95d88
  exact congrArg some J13_sw
end BL
