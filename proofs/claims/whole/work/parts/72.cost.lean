/-! level 3: stops: what a set costs -/
section SS
variable {k : Nat} {M : Mm} {q : Nat → Nat}
def soV (T : Mm) (r : Nat → Int32) (y m : Nat) : Int32 := mi T 80 6 * onesV m + sm (rN r) (fun i => if Lt T r y i then ((2 : Int32) * mi T 80 5) * nrM m (rC r i % 8) 8 else 0)
theorem k_carriedCells {C T : Mm} {r : Nat → Int32} {y m : Nat} (hm0 : ¬ m = 0) (hm : m < 256) (hC : ∀ d, d < 8 → mi C 14 d = colN (Lt T r y) (fun i => rC r i % 8) d (rN r)) : f_X0_carriedCells (Int32.ofNat m) C = some (sm (rN r) (fun i => if Lt T r y i then nrM m (rC r i % 8) 8 else 0)) := by
  have e := sum_loop (b := f_X0_carriedCells_b4 (Int32.ofNat m) C) 8 (fun d => colN (Lt T r y) (fun i => rC r i % 8) d (rN r) * nrM m d 8) (by omega) (by
    intro d hd s
    unfold f_X0_carriedCells_b4
    dsimp only
    rw [if_neg (show ¬ (8 : Int32) ≤ Int32.ofNat d from nle (n := 8) hd (by omega)), ai_o hd (by omega), bsome, hC d hd]
    by_cases h0 : colN (Lt T r y) (fun i => rC r i % 8) d (rN r) = 0
    · rw [if_pos h0, h0, Int32.zero_mul]
    · rw [if_neg h0, bsome, k_toStop hm, bsome, nr_eq d hd m hm, if_neg hm0]) (by
    intro s
    unfold f_X0_carriedCells_b4
    dsimp only
    rw [if_pos (show (8 : Int32) ≤ Int32.ofNat 8 from le_rf _)])
  unfold f_X0_carriedCells
  rw [e, bsome, sm_exch (P := Lt T r y) (f := fun i => rC r i % 8) (g := fun d => nrM m d 8) (rN r) (fun i _ => Nat.mod_lt _ (by decide))]
theorem k_setCost {C T : Mm} {g : Nat} {r : Nat → Int32} {y m : Nat} (hG : RGd C T g) : onesV m * mi C g 8 + (2 : Int32) * mi C g 7 * sm (rN r) (fun i => if Lt T r y i then nrM m (rC r i % 8) 8 else 0) = soV T r y m := by
  unfold soV
  rw [hG.2.1.2.2.2.2.2.1, hG.2.1.2.2.2.2.1, sm_scale, Int32.mul_comm (onesV m)]
theorem m_stopsBy {N : Mm} {y m w h : Nat} (hT : RGt N) (hV : VR w h (mi N 196)) (hy : y < 48) (hm0 : ¬ m = 0) (hm : m < 2 ^ tw N) : f_X10_stopsBy (Int32.ofNat y) (Int32.ofNat m) N = some (soV N (mi N 196) y m) := by
  have h6 := hV.n60
  have hm8 : m < 256 := Nat.lt_of_lt_of_le hm (Nat.pow_le_pow_right (i := tw N) (j := 8) (by decide) hT.1.2.1)
  have a6 : ai N 80 10 6 = some (mi N 80 6) := ai_o (i := 6) (by omega) (by omega)
  have a4 : ai N 80 10 4 = some (mi N 80 4) := ai_o (i := 4) (by omega) (by omega)
  have a5 : ai N 80 10 5 = some (mi N 80 5) := ai_o (i := 5) (by omega) (by omega)
  have a360 : ai N 196 415 360 = some (mi N 196 360) := ai_o (i := 360) (by omega) (by omega)
  have e := whl_eq (f := f_X10_stopsBy_b16 (Int32.ofNat y) (Int32.ofNat m) N) (e := Sum.inr (soV N (mi N 196) y m)) (rN (mi N 196)) fu (fun j => (mi N 80 6 * onesV m + sm j (fun i => if Lt N (mi N 196) y i then ((2 : Int32) * mi N 80 5) * nrM m (rC (mi N 196) i % 8) 8 else 0), Int32.ofNat j)) (by show rN (mi N 196) < 1000000; omega) (fun i hi => by
    try dsimp only
    have h48 := hV.c48 hi
    unfold f_X10_stopsBy_b16
    dsimp only
    rw [a360, bsome, hV.n, if_neg (nle hi hV.n1), m_isThere LN196 hV hi, bsome, ← oN_S]
    show _ = some (Sum.inl ((mi N 80 6 * onesV m + (sm i (fun i => if Lt N (mi N 196) y i then ((2 : Int32) * mi N 80 5) * nrM m (rC (mi N 196) i % 8) 8 else 0) + (if Lt N (mi N 196) y i then ((2 : Int32) * mi N 80 5) * nrM m (rC (mi N 196) i % 8) 8 else 0)), Int32.ofNat i + 1)))
    by_cases hT1 : Th (mi N 196) i
    · rw [if_pos hT1, if_neg z10, m_of1 LN196 (by omega), bsome, (hV.xy hi).2]
      by_cases hy1 : rC (mi N 196) i / 8 = y
      · rw [if_pos (congrArg Int32.ofNat hy1), m_of2 LN196 (by omega), bsome, a4, bsome]
        by_cases hs : mi N 196 (6 * i + 2) ≤ mi N 80 4
        · have hL : Lt N (mi N 196) y i := ⟨hT1, hy1, hs⟩
          rw [if_pos hs, m_toStop hT hV hi hm, bsome, if_neg (fun z => hm0 ((nr_none _ (Nat.mod_lt _ (by decide)) m hm8).mp z)), a5, bsome, if_pos hL, Int32.add_assoc]
        · rw [if_neg hs, if_neg (fun z : Lt N (mi N 196) y i => hs z.2.2), Int32.add_zero]
      · rw [if_neg (fun z => hy1 ((oN_eq (by omega) (by omega)).mp z)), if_neg (fun z : Lt N (mi N 196) y i => hy1 z.2.1), Int32.add_zero]
    · rw [if_neg hT1, if_pos z00, if_neg (fun z : Lt N (mi N 196) y i => hT1 z.1), Int32.add_zero]) (by
    try dsimp only
    unfold f_X10_stopsBy_b16
    dsimp only
    rw [a360, bsome, hV.n, if_pos (le_rf _)]
    rfl)
  have e2 : whl fu (f_X10_stopsBy_b16 (Int32.ofNat y) (Int32.ofNat m) N) (mi N 80 6 * onesV m + 0, 0) = some (Sum.inr (soV N (mi N 196) y m)) := e
  rw [Int32.add_zero] at e2
  unfold f_X10_stopsBy
  rw [a6, bsome, m_ones, bsome, e2, bsome]
end SS
