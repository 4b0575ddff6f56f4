/-! level 3: lifts -/
section BM
variable {k : Nat} {M : Mm} {q : Nat → Nat}
theorem dec1 : ∀ i : Nat, i < 60 → (((Int32.ofNat i).toInt64 &&& 63).toBitVec.smod 64) = BitVec.ofNat 64 i := by decide +kernel
theorem bit64 {y : Int64} {i : Nat} (hi : i < 60) : ((y >>> ((Int32.ofNat i).toInt64 &&& 63)) &&& 1) = if bt (V64 y) i = 1 then (1 : Int64) else 0 := by
  have e1 : (y >>> ((Int32.ofNat i).toInt64 &&& 63)).toBitVec.getLsbD 0 = (V64 y).testBit i := by
    rw [Int64.toBitVec_shiftRight, dec1 i hi, BitVec.sshiftRight_eq', BitVec.getLsbD_sshiftRight, BitVec.toNat_ofNat, Nat.mod_eq_of_lt (show i < 2 ^ 64 by omega), Nat.add_zero]
    rw [show (decide ((64 : Nat) ≤ 0)) = false from rfl, Bool.not_false, Bool.true_and, if_pos (show i < 64 by omega)]
    rfl
  have e2 : ∀ b : Bool, (y >>> ((Int32.ofNat i).toInt64 &&& 63)).toBitVec.getLsbD 0 = b → ((y >>> ((Int32.ofNat i).toInt64 &&& 63)) &&& 1) = if b then (1 : Int64) else 0 := by
    intro b hb
    refine Int64.toBitVec_inj.mp (BitVec.eq_of_getLsbD_eq (fun k hk => ?_))
    rw [Int64.toBitVec_and, BitVec.getLsbD_and]
    by_cases hk0 : k = 0
    · subst hk0
      rw [hb]
      cases b <;> decide
    · have : (1 : Int64).toBitVec.getLsbD k = false := by
        show (1#64).getLsbD k = false
        rw [BitVec.getLsbD_one]
        simp only [hk0, decide_false, Bool.and_false]
      rw [this, Bool.and_false]
      cases b
      · exact (BitVec.getLsbD_zero ..).symm
      · exact this.symm
  rw [e2 _ e1]
  unfold bt
  cases (V64 y).testBit i <;> rfl
theorem V64_one : ∀ i : Nat, i < 60 → V64 ((1 : Int64) <<< ((Int32.ofNat i).toInt64 &&& 63)) = 2 ^ i := by decide +kernel
theorem V64_or {a b : Int64} : V64 (a ||| b) = V64 a ||| V64 b := by
  unfold V64
  rw [Int64.toUInt64_or, UInt64.toNat_or]
theorem bt_top {y n j : Nat} (hy : y < 2 ^ n) (hj : n ≤ j) : bt y j = 0 := by
  unfold bt
  rw [Nat.testBit_lt_two_pow (Nat.lt_of_lt_of_le hy (Nat.pow_le_pow_right (by decide) hj))]
  rfl
theorem nsum_top {y n : Nat} (hy : y < 2 ^ n) : ∀ d, nsum (bt y) (n + d) = nsum (bt y) n := by
  intro d
  induction d with
  | zero => rfl
  | succ d ih =>
    show nsum (bt y) (n + d) + bt y (n + d) = _
    rw [ih, bt_top hy (by omega), Nat.add_zero]
theorem nsum_sm {y : Nat} : ∀ n, Int32.ofNat (nsum (bt y) n) = sm n (fun i => if bt y i = 1 then 1 else 0) := by
  intro n
  induction n with
  | zero => rfl
  | succ n ih =>
    show Int32.ofNat (nsum (bt y) n + bt y n) = sm n _ + (if bt y n = 1 then 1 else 0)
    rw [Int32.ofNat_add, ih]
    have := bt_lt (y := y) (j := n)
    by_cases h : bt y n = 1
    · rw [if_pos h, h]; rfl
    · rw [if_neg h, show bt y n = 0 by omega]; rfl
theorem ldS_top {T : Mm} {r : Nat → Int32} {c : Nat} {lg l0 : Int32} : ∀ n, n ≤ 60 → V64 (ldS T r c lg l0 n).1 < 2 ^ n := by
  intro n
  induction n with
  | zero => intro _; exact (by decide : V64 0 < 2 ^ 0)
  | succ n ih =>
    intro h
    have h1 := ih (by omega)
    have h2 : 2 ^ n < 2 ^ (n + 1) := Nat.pow_lt_pow_right (by decide) (by omega)
    by_cases hP : Li r c n ∧ (if r (6 * n + 2) ≤ mi T 80 4 then (0 : Int32) else 1) = lg ∧ (ldS T r c lg l0 n).2 + r (6 * n + 2) ≤ mi T 80 8
    · rw [show ldS T r c lg l0 (n + 1) = _ from if_pos hP]
      show V64 ((ldS T r c lg l0 n).1 ||| ((1 : Int64) <<< ((Int32.ofNat n).toInt64 &&& 63))) < _
      rw [V64_or, V64_one n (by omega)]
      exact Nat.or_lt_two_pow (Nat.lt_trans h1 h2) h2
    · rw [show ldS T r c lg l0 (n + 1) = _ from if_neg hP]
      exact Nat.lt_trans h1 h2
/-- the minutes of a lift -/
def lfS (T : Mm) (r : Nat → Int32) (c s : Nat) (y : Int64) : Int32 := ((2 : Int32) * mi T 80 5 * fr c s) * sm (rN r) (fun i => if bt (V64 y) i = 1 then 1 else 0) + sm (rN r) (fun i => if bt (V64 y) i = 1 then r (6 * i + 2) else 0)
def lfM (T : Mm) (r : Nat → Int32) (c s : Nat) (y : Int64) : Int32 := (lfS T r c s y + mi T 80 3 - 1) / mi T 80 3
theorem k_holds {C : Mm} {y : Int64} {i : Nat} (hi : i < 60) : f_X8_holds y (Int32.ofNat i) C = some (if bt (V64 y) i = 1 then 1 else 0) := by
  unfold f_X8_holds g_X8_holds
  rw [bit64 hi]
  by_cases h : bt (V64 y) i = 1
  · rw [if_pos h, if_neg (fun p => absurd (lg_z.mp p) (by decide)), if_pos h]; rfl
  · rw [if_neg h, if_pos (lg_z.mpr rfl), if_neg h]; rfl
theorem k_sizesOf {C : Mm} {w h a : Nat} {r : Nat → Int32} {y : Int64} (hV : VR w h r) (hW : RW C a r) : f_X8_sizesOf a y C = some (sm (rN r) (fun i => if bt (V64 y) i = 1 then r (6 * i + 2) else 0)) := by
  have h6 := hV.n60
  have e := sum_loop (b := f_X8_sizesOf_b5 a y C) (rN r) (fun i => if bt (V64 y) i = 1 then r (6 * i + 2) else 0) (by omega) (by
    intro i hi s
    unfold f_X8_sizesOf_b5
    dsimp only
    rw [hW.n, hV.n, if_neg (nle hi hV.n1), k_holds (by omega), bsome]
    by_cases hb : bt (V64 y) i = 1
    · rw [if_pos hb, if_neg z10, k_sizeOf hV hW hi, bsome, if_pos hb]
    · rw [if_neg hb, if_pos z00, if_neg hb]) (by
    intro s
    unfold f_X8_sizesOf_b5
    dsimp only
    rw [hW.n, hV.n, if_pos (le_rf _)])
  unfold f_X8_sizesOf
  rw [e]
  rfl
theorem rg_ne {x : Int32} {hi : Nat} (h : rg x 1 hi) (hh : hi < 1000) : (1 : Int32) ≤ x ∧ ¬ x = 0 := by
  obtain ⟨n, h1, h2, rfl⟩ := h
  refine ⟨(show Int32.ofNat 1 ≤ Int32.ofNat n from (oN_le (by omega) (by omega)).mpr h1), fun p => ?_⟩
  have := (oN_eq (i := n) (j := 0) (by omega) (by omega)).mp p
  omega
theorem k_liftMinutes {C T : Mm} {g a w h c s : Nat} {r : Nat → Int32} {y : Int64} (hG : RGd C T g) (hV : VR w h r) (hW : RW C a r) (hc : c < 48) (hs : s < 48) (es : (8 : Int32) * r 362 + r 361 = Int32.ofNat s) (hy : V64 y < 2 ^ rN r) : f_X8_liftMinutes a g (Int32.ofNat c) y C = some (lfM T r c s y) := by
  have h6 := hV.n60
  have p := rg_ne hG.1.2.2.1 (by omega)
  have e9 : nsum (bt (V64 y)) 64 = nsum (bt (V64 y)) (rN r) := by
    have := nsum_top hy (64 - rN r)
    rw [show rN r + (64 - rN r) = 64 by omega] at this
    exact this
  unfold f_X8_liftMinutes
  rw [hW.1.2.2.1, es, k_far hc hs, bsome, k_bits, bsome, k_sizesOf hV hW, bsome, hG.2.1.2.2.1, hG.2.1.2.2.2.2.1, e9, nsum_sm]
  unfold f_X9_dividedUpward
  rw [if_pos p.1, if_neg p.2]
  rfl
theorem m_liftMinutes {N : Mm} {a w h c s : Nat} {y : Int64} (hL : LN a = 415) (hT : RGt N) (hV : VR w h (mi N a)) (hc : c < 48) (hs : s < 48) (e1 : mi N a 361 = Int32.ofNat (s % 8)) (e2 : mi N a 362 = Int32.ofNat (s / 8)) : f_X10_liftMinutes a (Int32.ofNat c) y N = some (lfM N (mi N a) c s y) := by
  have h6 := hV.n60
  have p := rg_ne hT.2.2.1 (by omega)
  have e := sum_loop (b := f_X10_liftMinutes_b38 a y ((2 : Int32) * mi N 80 5 * fr c s) N) (rN (mi N a)) (fun i => (2 : Int32) * mi N 80 5 * fr c s * (if bt (V64 y) i = 1 then 1 else 0) + (if bt (V64 y) i = 1 then mi N a (6 * i + 2) else 0)) (by omega) (by
    intro i hi s9
    unfold f_X10_liftMinutes_b38
    dsimp only
    rw [m_a360 hL, bsome, hV.n, if_neg (nle hi hV.n1), bit64 (by omega)]
    by_cases hb : bt (V64 y) i = 1
    · rw [if_pos hb, if_pos (lg_z.mpr rfl), m_of2 hL (by omega), bsome, if_pos hb, if_pos hb, Int32.mul_one]
    · rw [if_neg hb, if_neg (fun p => absurd (lg_z.mp p) (by decide)), if_neg hb, if_neg hb, Int32.mul_zero, Int32.add_zero, Int32.add_zero, Int32.add_zero]) (by
    intro s9
    unfold f_X10_liftMinutes_b38
    dsimp only
    rw [m_a360 hL, bsome, hV.n, if_pos (le_rf _)])
  have a5 : ai N 80 10 5 = some (mi N 80 5) := ai_o (i := 5) (by omega) (by omega)
  have a3 : ai N 80 10 3 = some (mi N 80 3) := ai_o (i := 3) (by omega) (by omega)
  have a1 : ai N a (LN a) 361 = some (mi N a 361) := by rw [hL]; exact ai_o (i := 361) (by omega) (by omega)
  have a2 : ai N a (LN a) 362 = some (mi N a 362) := by rw [hL]; exact ai_o (i := 362) (by omega) (by omega)
  unfold f_X10_liftMinutes
  rw [a5, bsome, a1, bsome, a2, bsome, e1, e2, kmod c hc, kdiv c hc, m_far_c hc hs, bsome, e, bsome, a3, bsome, bsome, if_neg p.2, sm_add, sm_mul]
  rfl
theorem G_lifts (hI : INV k M) : ∀ x1 x2 : Int32, GdI k (f_X9_lifts x1 x2 M) (f_X10_lifts x1 x2) 1 0 0 := by
  obtain ⟨⟨q, h⟩, -⟩ := id hI
  intro x y
  unfold f_X9_lifts
  by_cases hc : cOk M x y
  · rw [k_cell_y h hc, bsome]
    dsimp only
    obtain ⟨c, hc48, ec, -, -⟩ := cOk_c h hc
    obtain ⟨s, hs, es, e1, e2, -, -⟩ := h.wd.1.sl
    have h6 := h.wd.1.n60
    rw [k_cellAt, bsome, ec, h.w, h.g, k_liftable h.gd h.wd.1 h.wd.2.1 h.wd.2.2.1 hc48, bsome]
    have hT : ∀ v, RGt (nQ M v) := fun v => RGt_of (nQ_o (by omega)) h.gd.1
    have e8 : ∀ v, mi (nQ M v) 80 = mi M 80 := fun v => nQ_o (by omega)
    have e19 : ∀ v, mi (nQ M v) 196 = mi M 196 := fun v => nQ_o (by omega)
    have hm : ∀ v : Int64, f_X10_lifts x y (sL M 275 0 v) = some (if ldB M (mi M 196) c 0 = 0 then -1 else lfM M (mi M 196) c s (ldB M (mi M 196) c 0), nQ M v) := fun v => by
      unfold f_X10_lifts
      rw [m_cell_y (M := M) (by rw [nQ_def]; exact e8 v) h.gd.1 hc, bsome, if_neg z10, m_fine, bsome]
      dsimp only
      rw [if_pos z00, ec, nQ_def, m_loadsOf LN196 (vr_nQ h) hc48, bsome, e19, ldB_of (e8 v)]
      by_cases h0 : ldB M (mi M 196) c 0 = 0
      · rw [if_pos (lg_z.mpr h0), if_pos h0]
      · rw [if_neg (fun p => h0 (lg_z.mp p)), if_neg h0, m_liftMinutes LN196 (hT v) (vr_nQ h) hc48 hs (by rw [e19]; exact e1) (by rw [e19]; exact e2), bsome, e19]
        unfold lfM lfS
        rw [e8]
    by_cases h0 : ldB M (mi M 196) c 0 = 0
    · rw [if_pos (lg_z.mpr h0)]
      refine gd_q hI rfl ?_
      rw [hm, if_pos h0]
    · rw [if_neg (fun p => h0 (lg_z.mp p)), k_liftMinutes h.gd h.wd.1 h.wd.2.1 hc48 hs es (show V64 (ldB M (mi M 196) c 0) < 2 ^ rN (mi M 196) from ldS_top _ h6), bsome]
      refine gd_q hI rfl ?_
      rw [hm, if_neg h0]
  · rw [k_cell_n h hc, bsome]
    refine gd_r0 (b := 0) hI (by decide) rfl ?_
    unfold f_X10_lifts
    rw [m_cell_n (M := M) (nR_o (by omega) (by omega)) h.gd.1 hc, bsome, if_pos z00, m_r0 1 (by decide), bsome]
    rfl
end BM
