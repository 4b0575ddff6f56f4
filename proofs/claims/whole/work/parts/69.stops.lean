/-! level 3: stops: sets of columns -/
section SP
variable {k : Nat} {M : Mm} {q : Nat → Nat}
def onesV (m : Nat) : Int32 := sm 16 (fun i => (Int32.ofNat m >>> (Int32.ofNat i &&& 31)) &&& 1)
theorem st_bit : ∀ m : Nat, m < 256 → ∀ i : Nat, i < 16 → (((Int32.ofNat m >>> (Int32.ofNat i &&& 31)) &&& 1) = if m.testBit i then 1 else 0) := by decide +kernel
/-- the way of column c to the nearest stop of m among the first n columns: -1 if none -/
def nrM (m c : Nat) : Nat → Int32
  | 0 => -1
  | n + 1 => if m.testBit n then (if nrM m c n = -1 then mabs (Int32.ofNat n - Int32.ofNat c) else if nrM m c n ≤ mabs (Int32.ofNat n - Int32.ofNat c) then nrM m c n else mabs (Int32.ofNat n - Int32.ofNat c)) else nrM m c n
def nrK (m c : Nat) : Nat → Int32
  | 0 => 8
  | n + 1 => if m.testBit n then mmin (nrK m c n) (mabs (Int32.ofNat n - Int32.ofNat c)) else nrK m c n
theorem nr_eq : ∀ c : Nat, c < 8 → ∀ m : Nat, m < 256 → nrK m c 8 = if m = 0 then 8 else nrM m c 8 := by decide +kernel
theorem nr_none : ∀ c : Nat, c < 8 → ∀ m : Nat, m < 256 → (nrM m c 8 = -1 ↔ m = 0) := by decide +kernel
theorem nr_wide {m c w : Nat} (hm : m < 2 ^ w) : ∀ d, nrM m c (w + d) = nrM m c w := by
  intro d
  induction d with
  | zero => rfl
  | succ d ih =>
    have hb : ¬ m.testBit (w + d) = true := by
      rw [Nat.testBit_lt_two_pow (Nat.lt_of_lt_of_le hm (Nat.pow_le_pow_right (by decide) (by omega)))]
      decide
    exact (show nrM m c (w + d + 1) = _ from if_neg hb).trans ih
theorem far_ab : ∀ a : Nat, a < 8 → ∀ b : Nat, b < 8 → ((if Int32.ofNat a ≤ Int32.ofNat b then (Int32.ofNat b - Int32.ofNat a) else (Int32.ofNat a - Int32.ofNat b)) + (if (0 : Int32) ≤ 0 then ((0 : Int32) - 0) else ((0 : Int32) - 0))) = mabs (Int32.ofNat a - Int32.ofNat b) := by decide +kernel
theorem k_J6 {C : Mm} {m : Nat} (hm : m < 256) : f_J6_bitCount_0f7a4 (Int32.ofNat m) C = some (onesV m) := (by decide +kernel : ∀ m : Nat, m < 256 → f_J6_bitCount_0f7a4 (Int32.ofNat m) mLw = some (onesV m)) m hm
theorem m_ones {N : Mm} {m : Nat} : f_X10_ones (Int32.ofNat m) N = some (onesV m) := by
  have e := sum_loop (b := f_X10_ones_b4 (Int32.ofNat m) N) 16 (fun i => (Int32.ofNat m >>> (Int32.ofNat i &&& 31)) &&& 1) (by omega) (by
    intro i hi s
    unfold f_X10_ones_b4
    dsimp only
    rw [if_neg (show ¬ (16 : Int32) ≤ Int32.ofNat i from nle (n := 16) hi (by omega))]) (by
    intro s
    unfold f_X10_ones_b4
    dsimp only
    rw [if_pos (show (16 : Int32) ≤ Int32.ofNat 16 from le_rf _)])
  unfold f_X10_ones
  rw [e]
  rfl
theorem k_toStop {C : Mm} {m c : Nat} (hm : m < 256) : f_X0_cellsToStop (Int32.ofNat m) (Int32.ofNat c) C = some (nrK m c 8) := by
  have e := whl_eq (f := f_X0_cellsToStop_b5 (Int32.ofNat m) (Int32.ofNat c) C) (e := nrK m c 8) 8 fu (fun i => (nrK m c i, Int32.ofNat i)) (by decide) (fun i hi => by
    try dsimp only
    unfold f_X0_cellsToStop_b5
    dsimp only
    rw [if_neg (show ¬ (8 : Int32) ≤ Int32.ofNat i from nle (n := 8) hi (by omega)), st_bit m hm i (by omega), oN_S]
    by_cases hb : m.testBit i = true
    · rw [if_pos hb, if_neg z10, show nrK m c (i + 1) = _ from if_pos hb]
    · rw [if_neg hb, if_pos z00, show nrK m c (i + 1) = _ from if_neg hb]) (by
    try dsimp only
    unfold f_X0_cellsToStop_b5
    dsimp only
    rw [if_pos (show (8 : Int32) ≤ Int32.ofNat 8 from le_rf _)])
  unfold f_X0_cellsToStop
  rw [show whl fu (f_X0_cellsToStop_b5 (Int32.ofNat m) (Int32.ofNat c) C) (8, 0) = _ from e]
  rfl
theorem m_toStop {N : Mm} {x1 x3 : Int32} {i m w h : Nat} (hT : RGt N) (hV : VR w h (mi N 196)) (hi : i < rN (mi N 196)) (hm : m < 2 ^ tw N) : whl fu (f_X10_stopsBy_b83 x1 (Int32.ofNat m) x3 (Int32.ofNat i) N) (-1, 0) = some (nrM m (rC (mi N 196) i % 8) 8) := by
  have h6 := hV.n60
  have t8 := hT.1.2.1
  have hm8 : m < 256 := Nat.lt_of_lt_of_le hm (Nat.pow_le_pow_right (i := tw N) (j := 8) (by decide) t8)
  have hc : rC (mi N 196) i % 8 < 8 := Nat.mod_lt _ (by decide)
  have e8 : nrM m (rC (mi N 196) i % 8) 8 = nrM m (rC (mi N 196) i % 8) (tw N) := by
    have := nr_wide (c := rC (mi N 196) i % 8) hm (8 - tw N)
    rw [show tw N + (8 - tw N) = 8 by omega] at this
    exact this
  have a0 : ai N 80 10 0 = some (mi N 80 0) := ai_o (i := 0) (by omega) (by omega)
  rw [e8]
  exact whl_eq (f := f_X10_stopsBy_b83 x1 (Int32.ofNat m) x3 (Int32.ofNat i) N) (e := nrM m (rC (mi N 196) i % 8) (tw N)) (tw N) fu (fun j => (nrM m (rC (mi N 196) i % 8) j, Int32.ofNat j)) (by show tw N < 1000000; omega) (fun j hj => by
    try dsimp only
    have j132 : f_X10_stopsBy_j132 x1 (Int32.ofNat m) x3 (Int32.ofNat i) (Int32.ofNat j) N = some (.inl (mabs (Int32.ofNat j - Int32.ofNat (rC (mi N 196) i % 8)), Int32.ofNat (j + 1))) := by
      unfold f_X10_stopsBy_j132 f_X10_farOf
      rw [m_of0 LN196 (by omega), bsome, (hV.xy hi).1, bsome, far_ab j (by omega) _ hc, oN_S]
    have ef : f_X10_farOf (Int32.ofNat j) 0 (Int32.ofNat (rC (mi N 196) i % 8)) 0 N = some (mabs (Int32.ofNat j - Int32.ofNat (rC (mi N 196) i % 8))) := by
      unfold f_X10_farOf
      rw [far_ab j (by omega) _ hc]
    unfold f_X10_stopsBy_b83
    dsimp only
    rw [a0, bsome, hT.1.2.2, if_neg (nle hj (by omega)), st_bit m hm8 j (by omega), j132]
    by_cases hb : m.testBit j = true
    · rw [if_pos hb, if_pos rfl, show nrM m (rC (mi N 196) i % 8) (j + 1) = _ from if_pos hb]
      by_cases h1 : nrM m (rC (mi N 196) i % 8) j = -1
      · rw [if_pos h1, if_pos h1]
      · rw [if_neg h1, if_neg h1, m_of0 LN196 (by omega), bsome, (hV.xy hi).1, ef, bsome]
        by_cases h2 : nrM m (rC (mi N 196) i % 8) j ≤ mabs (Int32.ofNat j - Int32.ofNat (rC (mi N 196) i % 8))
        · rw [if_pos h2, if_pos h2, oN_S]
        · rw [if_neg h2, if_neg h2]
    · rw [if_neg hb, if_neg (show ¬ (0 : Int32) = 1 by decide), show nrM m (rC (mi N 196) i % 8) (j + 1) = _ from if_neg hb, oN_S]) (by
    try dsimp only
    unfold f_X10_stopsBy_b83
    dsimp only
    rw [a0, bsome, hT.1.2.2, if_pos (le_rf _)])
end SP
