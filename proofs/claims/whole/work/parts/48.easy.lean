/-! level 3: the plain questions -/
theorem in_nat {x : Int32} {lo hi : Nat} (hl : lo < 2147483648) (hh : hi < 2147483648) : (Int32.ofNat lo ≤ x ∧ x ≤ Int32.ofNat hi) ↔ rg x lo hi := by
  constructor
  · rintro ⟨h1, h2⟩
    have h0 : (0 : Int32) ≤ x := Int32.le_trans (show (0 : Int32) ≤ Int32.ofNat lo from lle (n := 0) (by omega) hl) h1
    have e := Int32.ofNat_toNatClampNeg x h0
    have hx := Int32.toNatClampNeg_lt x
    rw [← e, oN_le hl hx] at h1
    rw [← e, oN_le hx hh] at h2
    exact ⟨x.toNatClampNeg, h1, h2, e.symm⟩
  · rintro ⟨n, h1, h2, rfl⟩
    exact ⟨lle h1 (by omega), lle h2 hh⟩
theorem arg2 {α : Type} {A B : α} {x lo hi : Int32} : (if x < lo then A else if hi < x then A else B) = if lo ≤ x ∧ x ≤ hi then B else A := by
  by_cases h1 : x < lo
  · rw [if_pos h1, if_neg (fun q => Int32.not_lt.mpr q.1 h1)]
  · rw [if_neg h1]
    by_cases h2 : hi < x
    · rw [if_pos h2, if_neg (fun q => Int32.not_lt.mpr q.2 h2)]
    · rw [if_neg h2, if_pos ⟨Int32.not_lt.mp h1, Int32.not_lt.mp h2⟩]
theorem needA0 {M : Mm} : f_X9_needArgument 0 M = some (.inl 2, eRef M 2) := rfl
theorem needA1 {M : Mm} : f_X9_needArgument 1 M = some (.inr (), M) := rfl
theorem m_ref {M : Mm} {c reason : Int32} {j : Nat} (hc : c ≠ 0) (hj : j < 3) (hr : reason = Int32.ofNat j) : f_X10_bad 1 c reason (sI M 76 0 0) = some (1, eRefM M j c) := by
  rw [bad_yes mi_sI_k hc hj hr, mi_sI_ne (by omega)]
  rfl
theorem m_r0 {M : Mm} (c : Int32) (hc : c ≠ 0) : f_X10_bad 1 c 0 (sI M 76 0 0) = some (1, eRefM M 0 c) := m_ref hc (by omega) rfl
theorem m_r1 {M : Mm} (c : Int32) (hc : c ≠ 0) : f_X10_bad 1 c 1 (sI M 76 0 0) = some (1, eRefM M 1 c) := m_ref hc (by omega) rfl
theorem m_r2 {M : Mm} (c : Int32) (hc : c ≠ 0) : f_X10_bad 1 c 2 (sI M 76 0 0) = some (1, eRefM M 2 c) := m_ref hc (by omega) rfl
theorem m_fine {M : Mm} {c reason : Int32} : f_X10_bad 0 c reason (sI M 76 0 0) = some (0, sI M 76 0 0) := bad_no mi_sI_k
theorem LN196 : LN 196 = 415 := by decide
theorem ml_sL_k {M : Mm} {a j : Nat} {x : Int64} : ml (sL M a j x) a j = x := by
  show u2 (ml M) a j x a j = x
  rw [u2_same, u1_same]
theorem z10 : ¬ (1 : Int32) = 0 := by decide
theorem z00 : (0 : Int32) = 0 := rfl
section EQ
variable {k : Nat} {M : Mm} {q : Nat → Nat}
theorem rd_of {M : Mm} {a j x : Nat} (h : mr M a j = some x) : rd M a j = x := by unfold rd; rw [h]; rfl
theorem RR.g {C T : Mm} (h : RR C T q) : rd C 0 5 = q 0 := rd_of h.1.1.1
theorem RR.w {C T : Mm} (h : RR C T q) : rd C 0 7 = q 2 := rd_of h.1.1.2.2.1
theorem RR.b {C T : Mm} (h : RR C T q) : rd C 0 9 = q 4 := rd_of h.1.1.2.2.2.2.1
theorem RR.gd {C T : Mm} (h : RR C T q) : RGd C T (q 0) := h.2.2.1
theorem RR.wd {C T : Mm} (h : RR C T q) : RWd C T (q 2) := h.2.2.2.2.2.1
theorem RR.cnt {C T : Mm} (h : RR C T q) : Rc C T := h.2.2.2.2.2.2.2.2
/-- the reference's memory behind 'thrown = 0', with the answer in the out cell -/
def nQ (M : Mm) (v : Int64) : Mm := sI (sL M 275 0 v) 76 0 0
theorem nQ_o {v : Int64} {a : Nat} (h : a ≠ 76) : mi (nQ M v) a = mi M a := by unfold nQ; rw [mi_sI_ne h, mi_sL]
theorem nQ_76 {v : Int64} {n : Nat} (h : n ≠ 0) : mi (nQ M v) 76 n = mi M 76 n := by unfold nQ; rw [mi_sI_o h, mi_sL]
theorem nQ_t {v : Int64} : mi (nQ M v) 76 0 = 0 := mi_sI_k
theorem nQ_out {v : Int64} : ml (nQ M v) 275 0 = v := ml_sL_k
theorem INV.nQ {v : Int64} (hI : INV k M) : INV (k + 1) (nQ M v) := hI.sL.q1
/-- a question answered alike -/
theorem gd_q {v : Int32} {fc : Option ((Nat ⊕ Int32) × Mm)} {fm : Mm → Option (Int32 × Mm)} {c0 c1 c2 : Int32} (hI : INV k M) (h1 : fc = some (.inr v, M)) (h2 : fm (sL M 275 0 v.toInt64) = some (v, nQ M v.toInt64)) : GdI k fc fm c0 c1 c2 := Or.inr ⟨v, M, nQ M v.toInt64, h1, h2, nQ_t, nQ_out, hI.nQ⟩
theorem gd_qJ {v : Int64} {fc : Option ((Nat ⊕ Int64) × Mm)} {fm : Mm → Option (Int64 × Mm)} {c0 c1 c2 : Int32} (hI : INV k M) (h1 : fc = some (.inr v, M)) (h2 : fm (sL M 275 0 v) = some (v, nQ M v)) : GdJ k fc fm c0 c1 c2 := Or.inr ⟨v, M, nQ M v, h1, h2, nQ_t, nQ_out, hI.nQ⟩
theorem gd_r2 {fc : Option ((Nat ⊕ Int32) × Mm)} {fm : Mm → Option (Int32 × Mm)} {c0 c1 c2 b : Int32} (hI : INV k M) (hc : c2 ≠ 0) (h1 : fc = some (.inl 2, eRef M 2)) (h2 : fm (eRef M 2) = some (b, eRefM (eRef M 2) 2 c2)) : GdI k fc fm c0 c1 c2 := Or.inl ⟨2, _, c2, b, _, h1, Or.inr (Or.inr ⟨rfl, rfl⟩), hc, h2, eRefM_t, hI.ref (by omega)⟩
theorem gd_r1 {fc : Option ((Nat ⊕ Int32) × Mm)} {fm : Mm → Option (Int32 × Mm)} {c0 c1 c2 b : Int32} (hI : INV k M) (hc : c1 ≠ 0) (h1 : fc = some (.inl 1, eRef M 1)) (h2 : fm (eRef M 1) = some (b, eRefM (eRef M 1) 1 c1)) : GdI k fc fm c0 c1 c2 := Or.inl ⟨1, _, c1, b, _, h1, Or.inr (Or.inl ⟨rfl, rfl⟩), hc, h2, eRefM_t, hI.ref (by omega)⟩
theorem gd_r0 {fc : Option ((Nat ⊕ Int32) × Mm)} {fm : Mm → Option (Int32 × Mm)} {c0 c1 c2 b : Int32} (hI : INV k M) (hc : c0 ≠ 0) (h1 : fc = some (.inl 0, eRef M 0)) (h2 : fm (eRef M 0) = some (b, eRefM (eRef M 0) 0 c0)) : GdI k fc fm c0 c1 c2 := Or.inl ⟨0, _, c0, b, _, h1, Or.inl ⟨rfl, rfl⟩, hc, h2, eRefM_t, hI.ref (by omega)⟩
theorem gd_r0J {fc : Option ((Nat ⊕ Int64) × Mm)} {fm : Mm → Option (Int64 × Mm)} {c0 c1 c2 : Int32} {b : Int64} (hI : INV k M) (hc : c0 ≠ 0) (h1 : fc = some (.inl 0, eRef M 0)) (h2 : fm (eRef M 0) = some (b, eRefM (eRef M 0) 0 c0)) : GdJ k fc fm c0 c1 c2 := Or.inl ⟨0, _, c0, b, _, h1, Or.inl ⟨rfl, rfl⟩, hc, h2, eRefM_t, hI.ref (by omega)⟩
theorem gd_r2J {fc : Option ((Nat ⊕ Int64) × Mm)} {fm : Mm → Option (Int64 × Mm)} {c0 c1 c2 : Int32} {b : Int64} (hI : INV k M) (hc : c2 ≠ 0) (h1 : fc = some (.inl 2, eRef M 2)) (h2 : fm (eRef M 2) = some (b, eRefM (eRef M 2) 2 c2)) : GdJ k fc fm c0 c1 c2 := Or.inl ⟨2, _, c2, b, _, h1, Or.inr (Or.inr ⟨rfl, rfl⟩), hc, h2, eRefM_t, hI.ref (by omega)⟩
theorem G_fault (hI : INV k M) : GdP k (f_X9_fault M) (f_X10_fault M) := by
  obtain ⟨⟨q, h⟩, -⟩ := id hI
  refine ⟨mi M 1 6, sI M 76 0 0, rfl, ?_, hI.q1⟩
  unfold f_X10_fault
  rw [mi_sI_o (by omega), h.2.1.2.2]
theorem G_count (hI : INV k M) : ∀ x1 : Int32, GdP k (f_X9_count x1 M) (f_X10_count x1 M) := by
  obtain ⟨⟨q, h⟩, -⟩ := id hI
  intro x
  obtain ⟨n, -, e1, e2, -⟩ := h.2.2.2.2.2.2.1.1
  obtain ⟨m, -, e3, e4, -⟩ := h.2.2.2.2.2.2.1.2
  obtain ⟨t, -, e5, e6⟩ := h.2.1.1
  unfold f_X9_count f_X10_count
  by_cases h0 : x = 0
  · rw [if_pos h0, if_pos h0]
    exact ⟨_, _, rfl, by rw [mi_sI_o (by omega), e4, e3], hI.q1⟩
  rw [if_neg h0, if_neg h0]
  by_cases h1 : x = 1
  · rw [if_pos h1, if_pos h1]
    exact ⟨_, _, rfl, by rw [mi_sI_o (by omega), e6, e5], hI.q1⟩
  rw [if_neg h1, if_neg h1]
  by_cases h2 : x = 2
  · rw [if_pos h2, if_pos h2]
    exact ⟨_, _, rfl, by rw [mi_sI_o (by omega), e2, e1], hI.q1⟩
  rw [if_neg h2, if_neg h2]
  exact ⟨_, _, rfl, rfl, hI.q1⟩
theorem G_status (hI : INV k M) : ∀ x1 : Int32, GdP k (f_X9_status x1 M) (f_X10_status x1 M) := by
  obtain ⟨⟨q, h⟩, -⟩ := id hI
  intro x
  obtain ⟨c1, c2, c3, c4⟩ := h.cnt
  unfold f_X9_status f_X10_status
  rw [m_in, bsome]
  by_cases hx : (0 : Int32) ≤ x ∧ x ≤ 2
  · rw [if_pos hx, if_neg z10]
    obtain ⟨n, -, hn, rfl⟩ := (in_nat (lo := 0) (hi := 2) (by omega) (by omega)).mp hx
    rw [ai_o (by omega) (by omega), bsome, mi_sI_ne (by omega)]
    have h9 : n = 0 ∨ n = 1 ∨ n = 2 := by omega
    rcases h9 with rfl | rfl | rfl
    · rw [if_pos (by decide)]
      exact ⟨_, _, rfl, by rw [c2], hI.q1⟩
    · rw [if_neg (by decide), if_pos (by decide)]
      exact ⟨_, _, rfl, by rw [c3], hI.q1⟩
    · rw [if_neg (by decide), if_neg (by decide), if_pos (by decide)]
      exact ⟨_, _, rfl, by rw [c4], hI.q1⟩
  · have h0 : x ≠ 0 := fun e => hx (by subst e; decide)
    have h1 : x ≠ 1 := fun e => hx (by subst e; decide)
    have h2 : x ≠ 2 := fun e => hx (by subst e; decide)
    rw [if_neg hx, if_pos z00, if_neg h0, if_neg h1, if_neg h2]
    exact ⟨_, _, rfl, rfl, hI.q1⟩
theorem G_told (hI : INV k M) : ∀ x1 : Int32, GdI k (f_X9_told x1 M) (f_X10_told x1) 0 0 1 := by
  obtain ⟨⟨q, h⟩, -⟩ := id hI
  intro x
  unfold f_X9_told
  rw [arg2]
  by_cases hx : (0 : Int32) ≤ x ∧ x ≤ 9
  · rw [if_pos hx]
    have hs : ∀ v : Int64, f_X10_told x (sL M 275 0 v) = (if x = 0 then (ai (nQ M v) 80 10 x).bind fun v7 => some (v7, nQ M v) else if x = 1 then (ai (nQ M v) 80 10 x).bind fun v10 => some (v10, nQ M v) else if x = 2 then (ai (nQ M v) 196 415 360).bind fun v13 => some (v13, nQ M v) else if x = 3 then (f_X10_whereMany 196 (x - 3) (nQ M v)).bind fun v16 => some (v16, nQ M v) else if x = 4 then (f_X10_whereMany 196 (x - 3) (nQ M v)).bind fun v16 => some (v16, nQ M v) else if x = 5 then (f_X10_whereMany 196 (x - 3) (nQ M v)).bind fun v16 => some (v16, nQ M v) else if x = 6 then (f_X10_whereMany 196 (x - 3) (nQ M v)).bind fun v16 => some (v16, nQ M v) else if x = 7 then (ai (nQ M v) 196 415 363).bind fun v13 => some (v13, nQ M v) else if x = 8 then some (mi (nQ M v) 76 30, nQ M v) else some (mi (nQ M v) 76 32, nQ M v)) := fun v => by
      unfold f_X10_told
      rw [m_in, bsome, if_pos hx, if_neg z10, m_fine, bsome]
      dsimp only
      rw [if_pos rfl]
      rfl
    unfold f_X9_told_j16
    rw [needA1, bsome]
    dsimp only
    rw [h.g, h.w, h.b]
    obtain ⟨n, -, hn, rfl⟩ := (in_nat (lo := 0) (hi := 9) (by omega) (by omega)).mp hx
    have hV := h.wd.1
    have hF := h.wd.2.1
    obtain ⟨t, -, b1, b2, -⟩ := h.2.2.2.2.2.2.2.1
    have hW : ∀ (p : Int32) (v : Int64), f_X10_whereMany 196 p (nQ M v) = some (whN (mi M 196) p) := fun p v => by
      have e : mi (nQ M v) 196 = mi M 196 := nQ_o (by omega)
      have := m_whereMany (p := p) LN196 (M := nQ M v) (w := tw M) (h := th M) (by rw [e]; exact hV)
      rw [e] at this
      exact this
    have h9 : n = 0 ∨ n = 1 ∨ n = 2 ∨ n = 7 ∨ n = 8 ∨ n = 9 ∨ (n = 3 ∨ n = 4 ∨ n = 5 ∨ n = 6) := by omega
    rcases h9 with rfl | rfl | rfl | rfl | rfl | rfl | h9
    · rw [if_pos (by decide)]
      refine gd_q hI rfl ?_
      rw [hs, if_pos (by decide), ai_o (by omega) (by omega), nQ_o (by omega), h.gd.2.1.1]
      rfl
    · rw [if_neg (by decide), if_pos (by decide)]
      refine gd_q hI rfl ?_
      rw [hs, if_neg (by decide), if_pos (by decide), ai_o (by omega) (by omega), nQ_o (by omega), h.gd.2.1.2.1]
      rfl
    · rw [if_neg (by decide), if_neg (by decide), if_pos (by decide)]
      refine gd_q hI rfl ?_
      rw [hs, if_neg (by decide), if_neg (by decide), if_pos (by decide), show ai (nQ M (mi M (q 2) 8).toInt64) 196 415 360 = _ from ai_o (i := 360) (by omega) (by omega), nQ_o (by omega), hF.1.1]
      rfl
    · rw [if_neg (by decide), if_neg (by decide), if_neg (by decide), if_pos (by decide)]
      refine gd_q hI rfl ?_
      rw [hs, if_neg (by decide), if_neg (by decide), if_neg (by decide), if_neg (by decide), if_neg (by decide), if_neg (by decide), if_neg (by decide), if_pos (by decide), show ai (nQ M (mi M (q 2) 9).toInt64) 196 415 363 = _ from ai_o (i := 363) (by omega) (by omega), nQ_o (by omega), hF.1.2.1]
      rfl
    · rw [if_neg (by decide), if_neg (by decide), if_neg (by decide), if_neg (by decide), if_pos (by decide)]
      refine gd_q hI rfl ?_
      rw [hs, if_neg (by decide), if_neg (by decide), if_neg (by decide), if_neg (by decide), if_neg (by decide), if_neg (by decide), if_neg (by decide), if_neg (by decide), if_pos (by decide), nQ_76 (by omega), b2, b1]
    · rw [if_neg (by decide), if_neg (by decide), if_neg (by decide), if_neg (by decide), if_neg (by decide), if_pos (by decide)]
      refine gd_q hI rfl ?_
      rw [hs, if_neg (by decide), if_neg (by decide), if_neg (by decide), if_neg (by decide), if_neg (by decide), if_neg (by decide), if_neg (by decide), if_neg (by decide), if_neg (by decide), nQ_76 (by omega), h.cnt.1]
    · have z : ¬ Int32.ofNat n = 0 ∧ ¬ Int32.ofNat n = 1 ∧ ¬ Int32.ofNat n = 2 ∧ ¬ Int32.ofNat n = 7 ∧ ¬ Int32.ofNat n = 8 ∧ ¬ Int32.ofNat n = 9 := by
        rcases h9 with rfl | rfl | rfl | rfl <;> decide
      rw [if_neg z.1, if_neg z.2.1, if_neg z.2.2.1, if_neg z.2.2.2.1, if_neg z.2.2.2.2.1, if_neg z.2.2.2.2.2, k_howMany hV hF, bsome]
      refine gd_q hI rfl ?_
      rw [hs, if_neg z.1, if_neg z.2.1, if_neg z.2.2.1, hW, bsome]
      rcases h9 with rfl | rfl | rfl | rfl
      · rw [if_pos (by decide)]
      · rw [if_neg (by decide), if_pos (by decide)]
      · rw [if_neg (by decide), if_neg (by decide), if_pos (by decide)]
      · rw [if_neg (by decide), if_neg (by decide), if_neg (by decide), if_pos (by decide)]
  · rw [if_neg hx]
    unfold f_X9_told_j15 f_X9_told_j16
    rw [needA0, bsome]
    refine gd_r2 (b := 0) hI (by decide) rfl ?_
    unfold f_X10_told
    rw [m_in, bsome, if_neg hx, if_pos z00, m_r2 1 (by decide), bsome]
    rfl
end EQ
