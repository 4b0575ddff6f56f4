/-! level 3: the count of bits, over plain numbers -/
section BP
theorem lan_lo {w : Nat} {f : Nat → Nat} : ∀ n, lan w f (n + 1) = 2 ^ w * lan w (fun j => f (j + 1)) n + f 0 := by
  intro n
  induction n with
  | zero => show 2 ^ (w * 0) * f 0 + 0 = 2 ^ w * 0 + f 0; rw [Nat.mul_zero, Nat.pow_zero]; omega
  | succ n ih =>
    show 2 ^ (w * (n + 1)) * f (n + 1) + lan w f (n + 1) = 2 ^ w * (2 ^ (w * n) * f (n + 1) + lan w (fun j => f (j + 1)) n) + f 0
    rw [ih, Nat.mul_add (2 ^ w), ← Nat.mul_assoc (2 ^ w), ← Nat.pow_add, show w + w * n = w * (n + 1) by rw [Nat.mul_succ]; omega]
    omega
theorem lan_sh {w n : Nat} {f : Nat → Nat} (hf : f 0 < 2 ^ w) (hn : f n = 0) : lan w f n >>> w = lan w (fun j => f (j + 1)) n := by
  have e := lan_shift (w := w) n hf
  have e2 : lan w f (n + 1) = lan w f n := by show 2 ^ (w * n) * f n + lan w f n = _; rw [hn, Nat.mul_zero, Nat.zero_add]
  rw [e2] at e
  exact e
theorem lan_mask {w n : Nat} (hw : 0 < w) {f : Nat → Nat} (hf : ∀ j, f j < 2 ^ w) : lan w f (2 * n) &&& lan (2 * w) (fun _ => 2 ^ w - 1) n = lan (2 * w) (fun j => f (2 * j)) n := by
  have hp : 0 < 2 ^ w := Nat.pow_pos (by decide)
  have h2 : (2 : Nat) ^ (2 * w) = 2 ^ w * 2 ^ w := by rw [Nat.two_mul, Nat.pow_add]
  have hl : 2 ^ w ≤ 2 ^ w * 2 ^ w := Nat.le_mul_of_pos_left _ hp
  rw [lan_two, lan_and (by omega) (fun j _ => ?_) (by rw [h2]; omega)]
  · refine lan_congr n (fun j _ => ?_)
    rw [Nat.and_two_pow_sub_one_eq_mod, Nat.add_mul_mod_self_left, Nat.mod_eq_of_lt (hf _)]
  · have a : 2 ^ w * (f (2 * j + 1) + 1) ≤ 2 ^ w * 2 ^ w := Nat.mul_le_mul_left _ (hf _)
    have b := hf (2 * j)
    rw [Nat.mul_add, Nat.mul_one] at a
    rw [h2]
    omega
def nsum (f : Nat → Nat) : Nat → Nat
  | 0 => 0
  | n + 1 => nsum f n + f n
theorem nsum_two {f : Nat → Nat} : ∀ n, nsum f (2 * n) = nsum (fun j => f (2 * j) + f (2 * j + 1)) n := by
  intro n
  induction n with
  | zero => rfl
  | succ n ih =>
    show nsum f (2 * n) + f (2 * n) + f (2 * n + 1) = nsum _ n + (f (2 * n) + f (2 * n + 1))
    rw [ih]
    omega
def bt (y j : Nat) : Nat := (y.testBit j).toNat
theorem bt_lt {y j : Nat} : bt y j < 2 := by unfold bt; cases y.testBit j <;> decide
theorem bt_lan {y : Nat} (hy : y < 2 ^ 64) : y = lan 1 (bt y) 64 := by
  refine Nat.eq_of_testBit_eq (fun i => ?_)
  rw [lan_bit (by decide) i 64 (fun j _ => bt_lt), Nat.div_one, Nat.mod_one]
  by_cases h : i < 64
  · rw [decide_eq_true (show i < 1 * 64 by omega), Bool.true_and]
    unfold bt
    cases y.testBit i <;> rfl
  · rw [decide_eq_false (show ¬ i < 1 * 64 by omega), Bool.false_and]
    exact Nat.testBit_lt_two_pow (Nat.lt_of_lt_of_le hy (Nat.pow_le_pow_right (by decide) (by omega)))
theorem bt_hi {y j : Nat} (hy : y < 2 ^ 64) (hj : 64 ≤ j) : bt y j = 0 := by
  unfold bt
  rw [Nat.testBit_lt_two_pow (Nat.lt_of_lt_of_le hy (Nat.pow_le_pow_right (by decide) hj))]
  rfl
def bc (y j : Nat) : Nat := bt y (2 * j) + bt y (2 * j + 1)
def bd (y j : Nat) : Nat := bc y (2 * j) + bc y (2 * j + 1)
def be (y j : Nat) : Nat := bd y (2 * j) + bd y (2 * j + 1)
theorem bc_le {y j : Nat} : bc y j ≤ 2 := by have a := bt_lt (y := y) (j := 2 * j); have b := bt_lt (y := y) (j := 2 * j + 1); unfold bc; omega
theorem bd_le {y j : Nat} : bd y j ≤ 4 := by have a := bc_le (y := y) (j := 2 * j); have b := bc_le (y := y) (j := 2 * j + 1); unfold bd; omega
theorem be_le {y j : Nat} : be y j ≤ 8 := by have a := bd_le (y := y) (j := 2 * j); have b := bd_le (y := y) (j := 2 * j + 1); unfold be; omega
theorem bc_hi {y j : Nat} (hy : y < 2 ^ 64) (hj : 32 ≤ j) : bc y j = 0 := by unfold bc; rw [bt_hi hy (by omega), bt_hi hy (by omega)]
theorem bd_hi {y j : Nat} (hy : y < 2 ^ 64) (hj : 16 ≤ j) : bd y j = 0 := by unfold bd; rw [bc_hi hy (by omega), bc_hi hy (by omega)]
theorem be_hi {y j : Nat} (hy : y < 2 ^ 64) (hj : 8 ≤ j) : be y j = 0 := by unfold be; rw [bd_hi hy (by omega), bd_hi hy (by omega)]
theorem pop1 {y : Nat} (hy : y < 2 ^ 64) : y - (y >>> 1 &&& 6148914691236517205) = lan 2 (bc y) 32 := by
  have e1 : y >>> 1 = lan 1 (fun j => bt y (j + 1)) 64 := by
    have := lan_sh (w := 1) (n := 64) (f := bt y) bt_lt (bt_hi hy (by omega))
    rw [← bt_lan hy] at this
    exact this
  have e2 : y >>> 1 &&& 6148914691236517205 = lan 2 (fun j => bt y (2 * j + 1)) 32 := by
    rw [e1]
    exact lan_mask (w := 1) (n := 32) (by decide) (fun j => bt_lt)
  have e3 : y = lan 2 (fun j => bt y (2 * j) + 2 * bt y (2 * j + 1)) 32 := (bt_lan hy).trans (lan_two (w := 1) 32)
  have e4 : lan 2 (bc y) 32 + lan 2 (fun j => bt y (2 * j + 1)) 32 = y := by
    rw [lan_add]
    refine Eq.trans (lan_congr 32 (fun j _ => ?_)) e3.symm
    unfold bc
    omega
  omega
theorem pop2 {y : Nat} (hy : y < 2 ^ 64) : (lan 2 (bc y) 32 &&& 3689348814741910323) + (lan 2 (bc y) 32 >>> 2 &&& 3689348814741910323) = lan 4 (bd y) 16 := by
  have hb : ∀ j, bc y j < 2 ^ 2 := fun j => by have := bc_le (y := y) (j := j); omega
  have e1 : lan 2 (bc y) 32 >>> 2 = lan 2 (fun j => bc y (j + 1)) 32 := lan_sh (hb 0) (bc_hi hy (by omega))
  have e2 : lan 2 (bc y) 32 &&& 3689348814741910323 = lan 4 (fun j => bc y (2 * j)) 16 := lan_mask (w := 2) (n := 16) (by decide) hb
  have e3 : lan 2 (fun j => bc y (j + 1)) 32 &&& 3689348814741910323 = lan 4 (fun j => bc y (2 * j + 1)) 16 := lan_mask (w := 2) (n := 16) (by decide) (fun j => hb (j + 1))
  rw [e1, e2, e3, lan_add]
  rfl
theorem pop3s {y : Nat} (hy : y < 2 ^ 64) : lan 4 (bd y) 16 + lan 4 (bd y) 16 >>> 4 = lan 4 (fun j => bd y j + bd y (j + 1)) 16 := by
  have hb : ∀ j, bd y j < 2 ^ 4 := fun j => by have := bd_le (y := y) (j := j); omega
  rw [lan_sh (hb 0) (bd_hi hy (by omega)), lan_add]
theorem pop3 {y : Nat} (hy : y < 2 ^ 64) : (lan 4 (bd y) 16 + lan 4 (bd y) 16 >>> 4) &&& 1085102592571150095 = lan 8 (be y) 8 := by
  rw [pop3s hy]
  refine (lan_mask (w := 4) (n := 8) (by decide) (fun j => ?_)).trans (lan_congr 8 (fun j _ => rfl))
  have a := bd_le (y := y) (j := j)
  have b := bd_le (y := y) (j := j + 1)
  omega
theorem pop4 {y : Nat} (hy : y < 2 ^ 64) : lan 8 (be y) 8 + lan 8 (be y) 8 >>> 8 = lan 8 (fun j => be y j + be y (j + 1)) 8 := by
  have hb : ∀ j, be y j < 2 ^ 8 := fun j => by have := be_le (y := y) (j := j); omega
  rw [lan_sh (hb 0) (be_hi hy (by omega)), lan_add]
def b4 (y j : Nat) : Nat := be y j + be y (j + 1)
def b5 (y j : Nat) : Nat := b4 y j + b4 y (j + 2)
def b6 (y j : Nat) : Nat := b5 y j + b5 y (j + 4)
theorem b4_le {y j : Nat} : b4 y j ≤ 16 := by have a := be_le (y := y) (j := j); have b := be_le (y := y) (j := j + 1); unfold b4; omega
theorem b5_le {y j : Nat} : b5 y j ≤ 32 := by have a := b4_le (y := y) (j := j); have b := b4_le (y := y) (j := j + 2); unfold b5; omega
theorem b6_le {y j : Nat} : b6 y j ≤ 64 := by have a := b5_le (y := y) (j := j); have b := b5_le (y := y) (j := j + 4); unfold b6; omega
theorem b4_hi {y j : Nat} (hy : y < 2 ^ 64) (hj : 8 ≤ j) : b4 y j = 0 := by unfold b4; rw [be_hi hy (by omega), be_hi hy (by omega)]
theorem b5_hi {y j : Nat} (hy : y < 2 ^ 64) (hj : 8 ≤ j) : b5 y j = 0 := by unfold b5; rw [b4_hi hy (by omega), b4_hi hy (by omega)]
theorem pop5 {y : Nat} (hy : y < 2 ^ 64) : lan 8 (b4 y) 8 + lan 8 (b4 y) 8 >>> 16 = lan 8 (b5 y) 8 := by
  have hb : ∀ j, b4 y j < 2 ^ 8 := fun j => by have := b4_le (y := y) (j := j); omega
  rw [show (16 : Nat) = 8 + 8 from rfl, Nat.shiftRight_add, lan_sh (hb 0) (b4_hi hy (by omega)), lan_sh (f := fun j => b4 y (j + 1)) (hb 1) (b4_hi hy (by omega)), lan_add]
  rfl
theorem pop6 {y : Nat} (hy : y < 2 ^ 64) : lan 8 (b5 y) 8 + lan 8 (b5 y) 8 >>> 32 = lan 8 (b6 y) 8 := by
  have hb : ∀ j, b5 y j < 2 ^ 8 := fun j => by have := b5_le (y := y) (j := j); omega
  rw [show (32 : Nat) = 8 + 8 + 8 + 8 from rfl, Nat.shiftRight_add, Nat.shiftRight_add, Nat.shiftRight_add, lan_sh (hb 0) (b5_hi hy (by omega)), lan_sh (f := fun j => b5 y (j + 1)) (hb 1) (b5_hi hy (by omega)), lan_sh (f := fun j => b5 y (j + 1 + 1)) (hb 2) (b5_hi hy (by omega)), lan_sh (f := fun j => b5 y (j + 1 + 1 + 1)) (hb 3) (b5_hi hy (by omega)), lan_add]
  rfl
theorem pop7 {y : Nat} : lan 8 (b6 y) 8 &&& 127 = nsum (bt y) 64 := by
  have e : nsum (bt y) 64 = b6 y 0 := by
    rw [show (64 : Nat) = 2 * 32 from rfl, nsum_two, show (32 : Nat) = 2 * 16 from rfl, nsum_two, show (16 : Nat) = 2 * 8 from rfl, nsum_two]
    show nsum (be y) 8 = _
    unfold b6 b5 b4
    simp only [nsum, Nat.zero_add, Nat.reduceAdd]
    omega
  have := b6_le (y := y) (j := 0)
  rw [show (127 : Nat) = 2 ^ 7 - 1 from rfl, Nat.and_two_pow_sub_one_eq_mod, lan_lo, e]
  omega
end BP
