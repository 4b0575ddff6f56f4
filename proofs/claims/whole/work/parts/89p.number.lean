/-! level 3: numbers and signs of the text -/
section TN
variable {b : Nat → Int32} {C C' T T' : Mm} {L p : Nat} {f fa lo hi : Int32}
abbrev isDg (x : Int32) : Prop := 48 ≤ x ∧ x ≤ 57
def stp (acc x : Int32) : Int32 := if (10 * acc + x) - 48 ≤ 100000 then (10 * acc + x) - 48 else 100000
theorem stp_min (acc x : Int32) : mmin (100000 : Int32) (((acc * (10 : Int32)) + x) - (48 : Int32)) = stp acc x := by
  rw [Int32.mul_comm]
  unfold stp mmin
  generalize (10 * acc + x) - 48 = y
  by_cases h1 : y < 100000
  · rw [if_pos h1, if_pos (Int32.le_of_lt h1)]
  · rw [if_neg h1]
    by_cases h2 : y ≤ 100000
    · rw [if_pos h2]; exact Int32.le_antisymm (nlt h1) h2
    · rw [if_neg h2]
def nvF (b : Nat → Int32) : Nat → Nat → Int32 → Int32
  | 0, _, acc => acc
  | d + 1, p, acc => if isDg (b p) then nvF b d (p + 1) (stp acc (b p)) else acc
theorem k_isDigit {x : Int32} : f_X7_isDigit x C = some (if isDg x then 1 else 0) := by
  unfold f_X7_isDigit g_X7_isDigit
  rw [arg2]
  by_cases h : isDg x
  · rw [if_pos h, if_pos h]; rfl
  · rw [if_neg h, if_neg h]; rfl
theorem m_isDigit {x : Int32} : f_X10_isDigit x T = some (if isDg x then 1 else 0) := by
  unfold f_X10_isDigit g_X10_isDigit
  rw [arg2]
  by_cases h : isDg x
  · rw [if_pos h, if_pos h]; rfl
  · rw [if_neg h, if_neg h]; rfl
theorem k_digits : ∀ d p C k acc, L - p = d → d < k → TC b C L p f fa → ∃ C', whl k (f_X7_readNumber_b31 lo hi) (acc, C) = some (nvF b d p acc, C') ∧ TC b C' L (skp isDg b L p) f fa ∧ CFr C C' ∧ mi C' 1 4 = mi C 1 4 := by
  intro d
  induction d with
  | zero =>
    intro p C k acc h1 h2 h
    have hL := h.1.1
    have hp := h.1.2.1
    obtain ⟨k, rfl⟩ : ∃ k', k = k' + 1 := ⟨k - 1, by omega⟩
    refine ⟨C, whl_e ?_, ?_, CFr.refl, rfl⟩
    · unfold f_X7_readNumber_b31
      dsimp only
      rw [h.1.2.2.1, h.1.2.2.2.1, if_pos ((oN_le (by omega) (by omega)).mpr (by omega))]
      rfl
    · rw [skp_e (by omega)]
      exact h
  | succ d ih =>
    intro p C k acc h1 h2 h
    have hL := h.1.1
    obtain ⟨k, rfl⟩ : ∃ k', k = k' + 1 := ⟨k - 1, by omega⟩
    by_cases hP : isDg (b p)
    · obtain ⟨C', a1, a2, a3, a4⟩ := ih (p + 1) (sI C 1 3 (Int32.ofNat (p + 1))) k (stp acc (b p)) (by omega) (by omega) (h.pos (p' := p + 1) (by omega))
      refine ⟨C', ?_, ?_, (CFr.s (by omega)).trans a3, a4.trans (mi_sI_o (by omega))⟩
      · rw [whl_s (s' := (stp acc (b p), sI C 1 3 (Int32.ofNat (p + 1)))) (by
          unfold f_X7_readNumber_b31
          dsimp only
          rw [h.1.2.2.1, h.1.2.2.2.1, if_neg (nle (by omega) (by omega)), k_byte h (by omega), bsome, k_isDigit, bsome, if_pos hP, if_neg z10, bsome, stp_min, oN_S]), a1]
        rw [show nvF b (d + 1) p acc = nvF b d (p + 1) (stp acc (b p)) from if_pos hP]
      · rw [skp_y (by omega) hP]
        exact a2
    · refine ⟨C, whl_e ?_, ?_, CFr.refl, rfl⟩
      · unfold f_X7_readNumber_b31
        dsimp only
        rw [h.1.2.2.1, h.1.2.2.2.1, if_neg (nle (by omega) (by omega)), k_byte h (by omega), bsome, k_isDigit, bsome, if_neg hP, if_pos z00, show nvF b (d + 1) p acc = acc from if_neg hP]
      · rw [skp_n (by omega) hP]
        exact h
theorem bL_nd (hp : ¬ p < L) : ¬ isDg (bL b L p) := by
  unfold bL
  rw [if_neg hp]
  exact fun z => absurd z.1 (by decide)
theorem m_digits {x3 : Int32} : ∀ d p T k acc, L - p = d → d < k → TT b T L p f fa → ∃ T', whl k (f_X10_number_b44 lo hi x3) (acc, T) = some (nvF b d p acc, T') ∧ TT b T' L (skp isDg b L p) f fa ∧ TFr T T' := by
  intro d
  induction d with
  | zero =>
    intro p T k acc h1 h2 h
    have hL := h.1.1
    have hp := h.1.2.1
    obtain ⟨k, rfl⟩ : ∃ k', k = k' + 1 := ⟨k - 1, by omega⟩
    refine ⟨T, whl_e ?_, ?_, TFr.refl⟩
    · unfold f_X10_number_b44
      dsimp only
      rw [h.1.2.2.2.1, m_byte h (by omega), bsome, m_isDigit, bsome, if_neg (bL_nd (by omega)), if_pos z00]
      rfl
    · rw [skp_e (by omega)]
      exact h
  | succ d ih =>
    intro p T k acc h1 h2 h
    have hL := h.1.1
    obtain ⟨k, rfl⟩ : ∃ k', k = k' + 1 := ⟨k - 1, by omega⟩
    have eb : bL b L p = b p := if_pos (by omega)
    by_cases hP : isDg (b p)
    · obtain ⟨T', a1, a2, a3⟩ := ih (p + 1) (sI T 76 4 (Int32.ofNat (p + 1))) k (stp acc (b p)) (by omega) (by omega) (h.pos (p' := p + 1) (by omega))
      refine ⟨T', ?_, ?_, (TFr.s (by omega)).trans a3⟩
      · rw [whl_s (s' := (stp acc (b p), sI T 76 4 (Int32.ofNat (p + 1)))) (by
          unfold f_X10_number_b44 stp
          dsimp only
          rw [h.1.2.2.2.1, m_byte h (by omega), bsome, m_isDigit, bsome, eb, if_pos hP, if_neg z10, bsome, oN_S]
          by_cases h9 : (10 * acc + b p) - 48 ≤ 100000
          · rw [if_pos h9, if_pos h9]
          · rw [if_neg h9, if_neg h9]), a1]
        rw [show nvF b (d + 1) p acc = nvF b d (p + 1) (stp acc (b p)) from if_pos hP]
      · rw [skp_y (by omega) hP]
        exact a2
    · refine ⟨T, whl_e ?_, ?_, TFr.refl⟩
      · unfold f_X10_number_b44
        dsimp only
        rw [h.1.2.2.2.1, m_byte h (by omega), bsome, m_isDigit, bsome, eb, if_neg hP, if_pos z00, show nvF b (d + 1) p acc = acc from if_neg hP]
      · rw [skp_n (by omega) hP]
        exact h
/-- the number's worth from there on -/
def nmV (b : Nat → Int32) (L p : Nat) : Int32 := nvF b (L - p) p 0
/-- a digit stands there -/
abbrev dgA (b : Nat → Int32) (L p : Nat) : Prop := p < L ∧ isDg (b p)
def nOk (b : Nat → Int32) (L p : Nat) (lo hi : Int32) : Prop := dgA b L (nb b L p) ∧ lo ≤ nmV b L (nb b L p) ∧ nmV b L (nb b L p) ≤ hi
def nEr (b : Nat → Int32) (L p : Nat) : Int32 := if dgA b L (nb b L p) then 2 else 1
theorem dg_bL {p : Nat} : isDg (bL b L p) ↔ dgA b L p := by
  unfold bL
  by_cases h1 : p < L
  · rw [if_pos h1]
    exact ⟨fun z => ⟨h1, z⟩, fun z => z.2⟩
  · rw [if_neg h1]
    exact ⟨fun z => absurd z.1 (by decide), fun z => absurd z.1 h1⟩
theorem k_num (h : TC b C L p f fa) : ∃ v C', f_X7_readNumber lo hi C = some (v, C') ∧ CFr C C' ∧ (nOk b L p lo hi → v = nmV b L (nb b L p) ∧ TC b C' L (skp isDg b L (nb b L p)) f fa ∧ mi C' 1 4 = Int32.ofNat (nb b L p)) ∧ (¬ nOk b L p lo hi → ∃ p', TC b C' L p' (if f = 0 then nEr b L p else f) (if f = 0 then Int32.ofNat (nb b L p) else fa)) := by
  obtain ⟨C1, e1, t1, c1, s1⟩ := k_next h
  have hL := t1.1.1
  unfold f_X7_readNumber
  rw [e1, bsome]
  dsimp only
  rw [k_isDigit, bsome]
  unfold nOk nEr
  by_cases hd : dgA b L (nb b L p)
  · rw [if_pos (dg_bL.mpr hd), if_neg z10, t1.1.2.2.2.1, if_pos hd]
    obtain ⟨C2, e2, t2, c2, s2⟩ := k_digits (lo := lo) (hi := hi) (L - nb b L p) (nb b L p) (sI C1 1 4 (Int32.ofNat (nb b L p))) fu 0 rfl (by show L - nb b L p < 1000000; omega) t1.st
    have s3 : mi C2 1 4 = Int32.ofNat (nb b L p) := s2.trans mi_sI_k
    rw [e2, bsome]
    dsimp only
    rw [show nvF b (L - nb b L p) (nb b L p) 0 = nmV b L (nb b L p) from rfl]
    unfold f_X7_readNumber_j91
    have cc := (c1.trans (CFr.s (j := 4) (x := Int32.ofNat (nb b L p)) (by omega))).trans c2
    obtain ⟨C3, e3, t3, c3, s4⟩ := k_fail (x1 := 2) (x2 := mi C2 1 4) t2
    by_cases h1 : nmV b L (nb b L p) < lo
    · rw [if_pos h1, e3, bsome]
      rw [s3] at t3
      exact ⟨_, C3, rfl, cc.trans c3, fun z => absurd z.2.1 (Int32.not_le.mpr h1), fun _ => ⟨_, t3⟩⟩
    · rw [if_neg h1]
      by_cases h2 : nmV b L (nb b L p) ≤ hi
      · rw [if_pos h2]
        exact ⟨_, C2, rfl, cc, fun _ => ⟨rfl, t2, s3⟩, fun z => absurd ⟨hd, nlt h1, h2⟩ z⟩
      · rw [if_neg h2, e3, bsome]
        rw [s3] at t3
        exact ⟨_, C3, rfl, cc.trans c3, fun z => absurd z.2.2 h2, fun _ => ⟨_, t3⟩⟩
  · rw [if_neg (fun z => hd (dg_bL.mp z)), if_pos z00, if_neg hd]
    obtain ⟨C3, e3, t3, c3, s4⟩ := k_fail (x1 := 1) (x2 := mi C1 1 3) t1
    rw [e3, bsome]
    rw [t1.1.2.2.2.1] at t3
    exact ⟨_, C3, rfl, c1.trans c3, fun z => absurd z.1 hd, fun _ => ⟨_, t3⟩⟩
theorem m_num (hb : TxB b) (h : TT b T L p 0 fa) : ∃ v T', f_X10_number lo hi T = some (v, T') ∧ TFr T T' ∧ (nOk b L p lo hi → v = nmV b L (nb b L p) ∧ TT b T' L (skp isDg b L (nb b L p)) 0 fa) ∧ (¬ nOk b L p lo hi → v = 0 ∧ ∃ p', TT b T' L p' (nEr b L p) (Int32.ofNat (nb b L p))) := by
  obtain ⟨T1, e1, t1, c1⟩ := m_blanks hb h
  have hL := t1.1.1
  have hp1 := t1.1.2.1
  unfold f_X10_number
  rw [h.1.2.2.2.2.1, if_pos rfl, e1, bsome, t1.1.2.2.2.1, m_byte t1 (by omega), bsome, m_isDigit, bsome]
  unfold nOk nEr
  by_cases hd : dgA b L (nb b L p)
  · rw [if_pos (dg_bL.mpr hd), if_neg z10, if_pos hd]
    obtain ⟨T2, e2, t2, c2⟩ := m_digits (lo := lo) (hi := hi) (x3 := Int32.ofNat (nb b L p)) (L - nb b L p) (nb b L p) T1 fu 0 rfl (by show L - nb b L p < 1000000; omega) t1
    rw [e2, bsome]
    dsimp only
    rw [show nvF b (L - nb b L p) (nb b L p) 0 = nmV b L (nb b L p) from rfl, m_in, bsome]
    unfold f_X10_number_j122
    by_cases h1 : lo ≤ nmV b L (nb b L p) ∧ nmV b L (nb b L p) ≤ hi
    · rw [if_pos h1, if_neg z10, t2.1.2.2.2.2.1, if_pos rfl]
      exact ⟨_, T2, rfl, c1.trans c2, fun _ => ⟨rfl, t2⟩, fun z => absurd ⟨hd, h1⟩ z⟩
    · obtain ⟨T3, e3, t3, c3⟩ := m_wrong (x1 := 2) (x2 := Int32.ofNat (nb b L p)) t2
      rw [if_pos rfl, if_pos rfl] at t3
      rw [if_neg h1, if_pos z00, e3, bsome, t3.1.2.2.2.2.1, if_neg (show ¬ (2 : Int32) = 0 by decide)]
      exact ⟨_, T3, rfl, (c1.trans c2).trans c3, fun z => absurd z.2 h1, fun _ => ⟨rfl, _, t3⟩⟩
  · rw [if_neg (fun z => hd (dg_bL.mp z)), if_pos z00, if_neg hd]
    obtain ⟨T2, e2, t2, c2⟩ := m_wrong (x1 := 1) (x2 := Int32.ofNat (nb b L p)) t1
    rw [if_pos rfl, if_pos rfl] at t2
    rw [e2, bsome]
    obtain ⟨T3, e3, t3, c3⟩ := m_digits (lo := lo) (hi := hi) (x3 := Int32.ofNat (nb b L p)) (L - nb b L p) (nb b L p) T2 fu 0 rfl (by show L - nb b L p < 1000000; omega) t2
    rw [e3, bsome]
    dsimp only
    rw [m_in, bsome]
    unfold f_X10_number_j122
    obtain ⟨T4, e4, t4, c4⟩ := m_wrong (x1 := 2) (x2 := Int32.ofNat (nb b L p)) t3
    rw [if_neg (show ¬ (1 : Int32) = 0 by decide), if_neg (show ¬ (1 : Int32) = 0 by decide)] at t4
    have cc := (c1.trans c2).trans c3
    by_cases h1 : lo ≤ nvF b (L - nb b L p) (nb b L p) 0 ∧ nvF b (L - nb b L p) (nb b L p) 0 ≤ hi
    · rw [if_pos h1, if_neg z10, t3.1.2.2.2.2.1, if_neg (show ¬ (1 : Int32) = 0 by decide)]
      exact ⟨_, T3, rfl, cc, fun z => absurd z.1 hd, fun _ => ⟨rfl, _, t3⟩⟩
    · rw [if_neg h1, if_pos z00, e4, bsome, t4.1.2.2.2.2.1, if_neg (show ¬ (1 : Int32) = 0 by decide)]
      exact ⟨_, T4, rfl, cc.trans c4, fun z => absurd z.1 hd, fun _ => ⟨rfl, _, t4⟩⟩
theorem m_num_f (h : TT b T L p f fa) (hf : f ≠ 0) : f_X10_number lo hi T = some (0, T) := by
  unfold f_X10_number
  rw [h.1.2.2.2.2.1, if_neg hf]
/-! both sides -/
def SY (b : Nat → Int32) (C T : Mm) (L p : Nat) : Prop := TC b C L p 0 (-1) ∧ TT b T L p 0 (-1)
def FL (b : Nat → Int32) (C T : Mm) (L : Nat) : Prop := ∃ (f fa : Int32) (p p' : Nat), f ≠ 0 ∧ TC b C L p f fa ∧ TT b T L p' f fa
theorem nEr_ne {L p : Nat} : nEr b L p ≠ 0 := by
  unfold nEr
  by_cases h : dgA b L (nb b L p)
  · rw [if_pos h]; decide
  · rw [if_neg h]; decide
theorem y_num (hb : TxB b) (h : SY b C T L p) : ∃ v C' v' T', f_X7_readNumber lo hi C = some (v, C') ∧ f_X10_number lo hi T = some (v', T') ∧ CFr C C' ∧ TFr T T' ∧ ((v' = v ∧ lo ≤ v ∧ v ≤ hi ∧ mi C' 1 4 = Int32.ofNat (nb b L p) ∧ nb b L p < L ∧ ∃ p', p < p' ∧ SY b C' T' L p') ∨ (v' = 0 ∧ FL b C' T' L)) := by
  obtain ⟨v, C', e1, c1, y1, n1⟩ := k_num (lo := lo) (hi := hi) h.1
  obtain ⟨v', T', e2, c2, y2, n2⟩ := m_num (lo := lo) (hi := hi) hb h.2
  refine ⟨v, C', v', T', e1, e2, c1, c2, ?_⟩
  by_cases hk : nOk b L p lo hi
  · obtain ⟨a1, a2, a3⟩ := y1 hk
    obtain ⟨b1, b2⟩ := y2 hk
    have hp := nb_ge (b := b) h.1.1.2.1
    have hq : nb b L p < skp isDg b L (nb b L p) := by
      rw [skp_y hk.1.1 hk.1.2]
      exact Nat.lt_of_lt_of_le (Nat.lt_succ_self _) (skp_ge (by have := hk.1.1; omega))
    exact Or.inl ⟨b1.trans a1.symm, by rw [a1]; exact hk.2.1, by rw [a1]; exact hk.2.2, a3, hk.1.1, _, by omega, a2, b2⟩
  · obtain ⟨p', a1⟩ := n1 hk
    obtain ⟨b1, p'', b2⟩ := n2 hk
    rw [if_pos rfl, if_pos rfl] at a1
    exact Or.inr ⟨b1, _, _, _, _, nEr_ne, a1, b2⟩
theorem k_num_f (h : TC b C L p f fa) (hf : f ≠ 0) : ∃ v C' p', f_X7_readNumber lo hi C = some (v, C') ∧ CFr C C' ∧ TC b C' L p' f fa := by
  obtain ⟨v, C', e1, c1, y1, n1⟩ := k_num (lo := lo) (hi := hi) h
  by_cases hk : nOk b L p lo hi
  · exact ⟨v, C', _, e1, c1, (y1 hk).2.1⟩
  · obtain ⟨p', a1⟩ := n1 hk
    rw [if_neg hf, if_neg hf] at a1
    exact ⟨v, C', p', e1, c1, a1⟩
/-! signs -/
theorem k_sign {x : Int32} (hx : x ≠ -1) (h : TC b C L p f fa) : ∃ C', f_X7_readSign x C = some C' ∧ CFr C C' ∧ (bL b L (nb b L p) = x → TC b C' L (nb b L p + 1) f fa ∧ mi C' 1 4 = mi C 1 4) ∧ (¬ bL b L (nb b L p) = x → TC b C' L (nb b L p) (if f = 0 then 1 else f) (if f = 0 then Int32.ofNat (nb b L p) else fa)) := by
  obtain ⟨C1, e1, t1, c1, s1⟩ := k_next h
  unfold f_X7_readSign
  rw [e1, bsome]
  dsimp only
  by_cases hv : bL b L (nb b L p) = x
  · rw [if_pos hv, t1.1.2.2.2.1, oN_S]
    have hlt : nb b L p < L := by
      by_cases hlt : nb b L p < L
      · exact hlt
      · unfold bL at hv
        rw [if_neg hlt] at hv
        exact absurd hv.symm hx
    exact ⟨_, rfl, c1.trans (CFr.s (by omega)), fun _ => ⟨t1.pos (by omega), (mi_sI_o (by omega)).trans s1⟩, fun z => absurd hv z⟩
  · obtain ⟨C3, e3, t3, c3, s4⟩ := k_fail (x1 := 1) (x2 := mi C1 1 3) t1
    rw [t1.1.2.2.2.1] at t3
    rw [if_neg hv, e3, bsome]
    exact ⟨C3, rfl, c1.trans c3, fun z => absurd z hv, fun _ => t3⟩
theorem m_sign {x : Int32} (hb : TxB b) (hx : x ≠ -1) (h : TT b T L p 0 fa) : ∃ T', f_X10_sign x T = some T' ∧ TFr T T' ∧ (bL b L (nb b L p) = x → TT b T' L (nb b L p + 1) 0 fa) ∧ (¬ bL b L (nb b L p) = x → TT b T' L (nb b L p) 1 (Int32.ofNat (nb b L p))) := by
  obtain ⟨T1, e1, t1, c1⟩ := m_blanks hb h
  have hL := t1.1.1
  have hp1 := t1.1.2.1
  unfold f_X10_sign
  rw [h.1.2.2.2.2.1, if_pos rfl, e1, bsome, t1.1.2.2.2.1, m_byte t1 (by omega), bsome]
  by_cases hv : bL b L (nb b L p) = x
  · have hlt : nb b L p < L := by
      by_cases hlt : nb b L p < L
      · exact hlt
      · unfold bL at hv
        rw [if_neg hlt] at hv
        exact absurd hv.symm hx
    rw [if_pos hv, oN_S]
    exact ⟨_, rfl, c1.trans (TFr.s (by omega)), fun _ => t1.pos (by omega), fun z => absurd hv z⟩
  · obtain ⟨T3, e3, t3, c3⟩ := m_wrong (x1 := 1) (x2 := Int32.ofNat (nb b L p)) t1
    rw [if_pos rfl, if_pos rfl] at t3
    rw [if_neg hv, e3, bsome]
    exact ⟨T3, rfl, c1.trans c3, fun z => absurd z hv, fun _ => t3⟩
theorem m_sign_f {x : Int32} (h : TT b T L p f fa) (hf : f ≠ 0) : f_X10_sign x T = some T := by
  unfold f_X10_sign
  rw [h.1.2.2.2.2.1, if_neg hf]
theorem k_sign_f {x : Int32} (hx : x ≠ -1) (h : TC b C L p f fa) (hf : f ≠ 0) : ∃ C' p', f_X7_readSign x C = some C' ∧ CFr C C' ∧ TC b C' L p' f fa := by
  obtain ⟨C', e1, c1, y1, n1⟩ := k_sign hx h
  by_cases hv : bL b L (nb b L p) = x
  · exact ⟨C', _, e1, c1, (y1 hv).1⟩
  · have := n1 hv
    rw [if_neg hf, if_neg hf] at this
    exact ⟨C', _, e1, c1, this⟩
theorem y_sign {x : Int32} (hb : TxB b) (hx : x ≠ -1) (h : SY b C T L p) : ∃ C' T', f_X7_readSign x C = some C' ∧ f_X10_sign x T = some T' ∧ CFr C C' ∧ TFr T T' ∧ ((∃ p', p < p' ∧ SY b C' T' L p') ∨ FL b C' T' L) := by
  obtain ⟨C', e1, c1, y1, n1⟩ := k_sign hx h.1
  obtain ⟨T', e2, c2, y2, n2⟩ := m_sign hb hx h.2
  refine ⟨C', T', e1, e2, c1, c2, ?_⟩
  by_cases hv : bL b L (nb b L p) = x
  · have hp := nb_ge (b := b) h.1.1.2.1
    exact Or.inl ⟨_, by omega, (y1 hv).1, y2 hv⟩
  · have := n1 hv
    rw [if_pos rfl, if_pos rfl] at this
    exact Or.inr ⟨1, _, _, _, by decide, this, n2 hv⟩
/-- the sign on a state in sync or with a fault -/
theorem x_sign {x : Int32} (hb : TxB b) (hx : x ≠ -1) (h : (∃ p, SY b C T L p) ∨ FL b C T L) : ∃ C' T', f_X7_readSign x C = some C' ∧ f_X10_sign x T = some T' ∧ CFr C C' ∧ TFr T T' ∧ ((∃ p, SY b C' T' L p) ∨ FL b C' T' L) := by
  rcases h with ⟨p, h⟩ | ⟨f, fa, p, p', hf, h1, h2⟩
  · obtain ⟨C', T', e1, e2, c1, c2, h3⟩ := y_sign hb hx h
    exact ⟨C', T', e1, e2, c1, c2, h3.elim (fun ⟨p', _, h4⟩ => Or.inl ⟨p', h4⟩) Or.inr⟩
  · obtain ⟨C', p2, e1, c1, t1⟩ := k_sign_f hx h1 hf
    exact ⟨C', T, e1, m_sign_f h2 hf, c1, TFr.refl, Or.inr ⟨f, fa, p2, p', hf, t1, h2⟩⟩
end TN
