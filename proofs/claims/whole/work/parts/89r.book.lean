/-! level 3: a line of the book -/
section BO
variable {k : Nat} {M M2 : Mm} {q : Nat → Nat} {b : Nat → Int32} {C C' T T' N : Mm} {L p p' : Nat} {f fa lo hi : Int32} {a0 g w h j : Nat}
theorem y_num2 (hb : TxB b) (h1 : TC b C L p 0 (-1)) (h2 : TT b T L p' 0 (-1)) (e : nb b L p' = nb b L p) : ∃ v C' v' T', f_X7_readNumber lo hi C = some (v, C') ∧ f_X10_number lo hi T = some (v', T') ∧ CFr C C' ∧ TFr T T' ∧ ((v' = v ∧ lo ≤ v ∧ v ≤ hi ∧ mi C' 1 4 = Int32.ofNat (nb b L p) ∧ ∃ p2, p < p2 ∧ SY b C' T' L p2) ∨ (v' = 0 ∧ FL b C' T' L)) := by
  obtain ⟨v, C', e1, c1, y1, n1⟩ := k_num (lo := lo) (hi := hi) h1
  obtain ⟨v', T', e2, c2, y2, n2⟩ := m_num (lo := lo) (hi := hi) hb h2
  refine ⟨v, C', v', T', e1, e2, c1, c2, ?_⟩
  have ek : nOk b L p' lo hi ↔ nOk b L p lo hi := by unfold nOk; rw [e]
  have en : nEr b L p' = nEr b L p := by unfold nEr; rw [e]
  by_cases hk : nOk b L p lo hi
  · obtain ⟨a1, a2, a3⟩ := y1 hk
    obtain ⟨b1, b2⟩ := y2 (ek.mpr hk)
    rw [e] at b1 b2
    have hp := nb_ge (b := b) h1.1.2.1
    have hq : nb b L p < skp isDg b L (nb b L p) := by
      rw [skp_y hk.1.1 hk.1.2]
      exact Nat.lt_of_lt_of_le (Nat.lt_succ_self _) (skp_ge (by have := hk.1.1; omega))
    exact Or.inl ⟨b1.trans a1.symm, by rw [a1]; exact hk.2.1, by rw [a1]; exact hk.2.2, a3, _, by omega, a2, b2⟩
  · obtain ⟨p3, a1⟩ := n1 hk
    obtain ⟨b1, p'', b2⟩ := n2 (fun z => hk (ek.mp z))
    rw [if_pos rfl, if_pos rfl] at a1
    rw [e, en] at b2
    exact Or.inr ⟨b1, _, _, _, _, nEr_ne, a1, b2⟩
def Bf (a0 : Nat) (C C' : Mm) : Prop := Om (fun a => a = 1 ∨ (a0 ≤ a ∧ a ≤ a0 + 2)) C C' ∧ ∀ i, i < 3 → mi C' 1 i = mi C 1 i
def Bt (T T' : Mm) : Prop := Om (fun a => a = 76 ∨ (128 ≤ a ∧ a ≤ 133)) T T' ∧ ∀ i, (i < 4 ∨ 6 < i) → mi T' 76 i = mi T 76 i
theorem Bf.refl : Bf a0 C C := ⟨Om.refl, fun _ _ => rfl⟩
theorem Bt.refl : Bt T T := ⟨Om.refl, fun _ _ => rfl⟩
theorem Bf.trans {D : Mm} (h1 : Bf a0 C C') (h2 : Bf a0 C' D) : Bf a0 C D := ⟨h1.1.trans h2.1, fun i hi => (h2.2 i hi).trans (h1.2 i hi)⟩
theorem Bt.trans {D : Mm} (h1 : Bt T T') (h2 : Bt T' D) : Bt T D := ⟨h1.1.trans h2.1, fun i hi => (h2.2 i hi).trans (h1.2 i hi)⟩
theorem CFr.bf (h : CFr C C') : Bf a0 C C' := ⟨h.1.mono (fun a ha => Or.inl ha), h.2⟩
theorem TFr.bt (h : TFr T T') : Bt T T' := ⟨h.1.mono (fun a ha => Or.inl ha), h.2⟩
theorem Bf.s {a i : Nat} {x : Int32} (ha : a0 ≤ a ∧ a ≤ a0 + 2) (h1 : a ≠ 1) : Bf a0 C (sI C a i x) := ⟨Om.sI (Or.inr ha), fun i _ => by rw [mi_sI_ne (fun e => h1 e.symm)]⟩
theorem Bt.s {a i : Nat} {x : Int32} (ha : 128 ≤ a ∧ a ≤ 133) : Bt T (sI T a i x) := ⟨Om.sI (Or.inr ha), fun i _ => by rw [mi_sI_ne (by omega)]⟩
/-- among the first j cells told -/
def tld (C : Mm) (a0 : Nat) (c : Int32) : Nat → Prop
  | 0 => False
  | j + 1 => tld C a0 c j ∨ mi C (a0 + 1) j = c
theorem tld_x {c : Int32} : ∀ j, tld C a0 c j ↔ ∃ i, i < j ∧ mi C (a0 + 1) i = c := by
  intro j
  induction j with
  | zero => exact ⟨fun z => z.elim, fun ⟨i, hi, _⟩ => absurd hi (by omega)⟩
  | succ j ih =>
    constructor
    · rintro (z | z)
      · obtain ⟨i, i1, i2⟩ := ih.mp z
        exact ⟨i, by omega, i2⟩
      · exact ⟨j, by omega, z⟩
    · rintro ⟨i, i1, i2⟩
      by_cases e : i = j
      · exact Or.inr (by rw [← e]; exact i2)
      · exact Or.inl (ih.mpr ⟨i, by omega, i2⟩)
theorem k_told {c : Int32} (h3 : mi C a0 3 = Int32.ofNat j) (hj : j ≤ 6) : ∃ v, f_X1_isTold a0 c C = some v ∧ ((v = 0 ∧ ¬ tld C a0 c j) ∨ (v = 1 ∧ tld C a0 c j)) := by
  obtain ⟨e, e1, e2⟩ := whl_ex (f := f_X1_isTold_b2 a0 c C) (fun i st => st = Int32.ofNat i ∧ ¬ tld C a0 c i) (fun e => (e = Sum.inr () ∧ ¬ tld C a0 c j) ∨ (e = Sum.inl () ∧ tld C a0 c j)) j fu 0 (by show j < 1000000; omega) ⟨rfl, fun z => z⟩ (by
    rintro i st hi ⟨rfl, hn⟩
    unfold f_X1_isTold_b2
    rw [h3, if_neg (nle hi (by omega)), if_neg (show ¬ (6 : Int32) ≤ Int32.ofNat i from nle (n := 6) (by omega) (by omega)), ai_o (by omega) (by omega), bsome]
    by_cases hc : mi C (a0 + 1) i = c
    · rw [if_pos hc]
      exact Or.inr ⟨_, rfl, Or.inr ⟨rfl, (tld_x j).mpr ⟨i, hi, hc⟩⟩⟩
    · rw [if_neg hc, oN_S]
      exact Or.inl ⟨_, rfl, rfl, fun z => z.elim hn hc⟩) (by
    rintro st ⟨rfl, hn⟩
    refine ⟨_, ?_, Or.inl ⟨rfl, hn⟩⟩
    unfold f_X1_isTold_b2
    rw [h3, if_pos (le_rf _)])
  unfold f_X1_isTold g_X1_isTold
  rw [show whl fu (f_X1_isTold_b2 a0 c C) 0 = some e from e1, bsome]
  rcases e2 with ⟨rfl, h2⟩ | ⟨rfl, h2⟩
  · exact ⟨0, rfl, Or.inl ⟨rfl, h2⟩⟩
  · exact ⟨1, rfl, Or.inr ⟨rfl, h2⟩⟩
theorem ne59 : (59 : Int32) ≠ -1 := by decide
/-- the class behind a fault -/
theorem k_j70_f {x5 : Int32} (ha : 60 ≤ a0) (hf : f ≠ 0) (t : TC b C L p f fa) (h3 : mi C a0 3 = Int32.ofNat j) (hj : j < 6) : ∃ C' p', f_X1_readLine_j70 a0 x5 C = some C' ∧ Bf a0 C C' ∧ TC b C' L p' f fa := by
  unfold f_X1_readLine_j70
  rw [h3, wi_o hj (by omega), bsome]
  have t1 : TC b (sI C (a0 + 1) j x5) L p f fa := t.of (fun i _ _ => by rw [mi_sI_ne (by omega)]) (mi_sI_ne (by omega))
  obtain ⟨v, C1, p1, e1, c1, t2⟩ := k_num_f (lo := 0) (hi := 60) t1 hf
  rw [e1, bsome]
  dsimp only
  rw [mi_sI_ne (by omega), h3, wi_o hj (by omega), bsome]
  have e3 : mi (sI C1 (a0 + 2) j v) a0 3 = Int32.ofNat j := by rw [mi_sI_ne (by omega), c1.1.at (by omega), mi_sI_ne (by omega), h3]
  rw [e3, oN_S]
  have t3 : TC b (sI (sI C1 (a0 + 2) j v) a0 3 (Int32.ofNat (j + 1))) L p1 f fa := t2.of (fun i _ _ => by rw [mi_sI_ne (by omega), mi_sI_ne (by omega)]) (by rw [mi_sI_ne (by omega), mi_sI_ne (by omega)])
  obtain ⟨C2, p2, e2, c2, t4⟩ := k_sign_f (x := 59) ne59 t3 hf
  rw [e2, bsome]
  exact ⟨C2, p2, rfl, ((((Bf.s (by omega) (by omega)).trans c1.bf).trans (Bf.s (a := a0 + 2) (by omega) (by omega))).trans (Bf.s (a := a0) (by omega) (by omega))).trans c2.bf, t4⟩
/-- behind the number x -/
def lnR (a0 a2 : Nat) (v1 : Int32) (M1 : Mm) : Option Mm := if (mi M1 a0 3) < (6 : Int32) then (f_X7_readNumber (0 : Int32) ((mi M1 a2 4) - (1 : Int32)) M1).bind fun (v3, M3) => (f_X9_cellAt v1 v3 M3).bind fun v4 => (f_X1_isTold a0 v4 M3).bind fun v5 => (if v5 = 0 then f_X1_readLine_j70 a0 v4 M3 else (f_X7_fail (2 : Int32) (mi M3 1 4) M3).bind fun M13 => f_X1_readLine_j70 a0 v4 M13) else (f_X7_fail (3 : Int32) (mi M1 1 4) M1).bind fun M14 => some M14
theorem lnR_def {a2 : Nat} : f_X1_readLine a0 a2 C = (f_X7_readNumber (0 : Int32) ((mi C a2 3) - (1 : Int32)) C).bind fun (v1, M1) => lnR a0 a2 v1 M1 := rfl
theorem k_lnR_f {a2 : Nat} {v1 : Int32} (ha : 60 ≤ a0) (hf : f ≠ 0) (t : TC b C L p f fa) (h3 : mi C a0 3 = Int32.ofNat j) (hj : j ≤ 6) : ∃ C' p', lnR a0 a2 v1 C = some C' ∧ Bf a0 C C' ∧ TC b C' L p' f fa := by
  unfold lnR
  rw [h3]
  by_cases h6 : j < 6
  · rw [if_pos (show Int32.ofNat j < 6 from (oN_lt (j := 6) (by omega) (by omega)).mpr h6)]
    obtain ⟨v, C1, p1, e1, c1, t2⟩ := k_num_f (lo := 0) (hi := mi C a2 4 - 1) t hf
    rw [e1, bsome]
    dsimp only
    have h31 : mi C1 a0 3 = Int32.ofNat j := by rw [c1.1.at (by omega)]; exact h3
    obtain ⟨v5, e5, -⟩ := k_told (c := 8 * v + v1) h31 hj
    unfold f_X9_cellAt
    rw [bsome, e5, bsome]
    by_cases h5 : v5 = 0
    · rw [if_pos h5]
      obtain ⟨C2, p2, g1, g2, g3⟩ := k_j70_f (x5 := 8 * v + v1) ha hf t2 h31 h6
      exact ⟨C2, p2, g1, c1.bf.trans g2, g3⟩
    · rw [if_neg h5]
      obtain ⟨C3, e3, t3, c3, -⟩ := k_fail (x1 := 2) (x2 := mi C1 1 4) t2
      rw [if_neg hf, if_neg hf] at t3
      rw [e3, bsome]
      obtain ⟨C2, p2, g1, g2, g3⟩ := k_j70_f (x5 := 8 * v + v1) ha hf t3 (by rw [c3.1.at (by omega)]; exact h31) h6
      exact ⟨C2, p2, g1, (c1.bf.trans c3.bf).trans g2, g3⟩
  · rw [if_neg (show ¬ Int32.ofNat j < 6 from fun z => h6 ((oN_lt (j := 6) (by omega) (by omega)).mp z))]
    obtain ⟨C3, e3, t3, c3, -⟩ := k_fail (x1 := 3) (x2 := mi C 1 4) t
    rw [if_neg hf, if_neg hf] at t3
    rw [e3, bsome]
    exact ⟨C3, p, rfl, c3.bf, t3⟩
/-- the reference behind a fault -/
theorem m_bdup_f {x2 x3 x4 x5 : Int32} (hf : f ≠ 0) (t : TT b T L p f fa) (hx : x2 = Int32.ofNat j) (hj : j ≤ 6) : whl fu (f_X10_book_b130 x2 x3 x4 x5) (0, T) = some T := by
  subst hx
  exact whl_eq (f := f_X10_book_b130 (Int32.ofNat j) x3 x4 x5) (e := T) j fu (fun i => (Int32.ofNat i, T)) (by show j < 1000000; omega) (fun i hi => by
    try dsimp only
    unfold f_X10_book_b130
    dsimp only
    rw [if_neg (nle hi (by omega)), t.1.2.2.2.2.1, if_neg hf, oN_S]) (by
    try dsimp only
    unfold f_X10_book_b130
    dsimp only
    rw [if_pos (le_rf _)])
theorem m_j103_f {x2 x4 : Int32} (hb : TxB b) (hf : f ≠ 0) (t : TT b T L p f fa) (hx : x2 = Int32.ofNat j) (hj : j ≤ 6) : ∃ T' p', f_X10_book_j103 x2 x4 T = some (.inl (x2, T')) ∧ Bt T T' ∧ TT b T' L p' f fa := by
  obtain ⟨T1, e1, t1, c1⟩ := m_blanks hb t
  have a1 : ai T1 80 10 1 = some (mi T1 80 1) := ai_o (i := 1) (by omega) (by omega)
  obtain ⟨T2, e2, t2, c2⟩ := m_blanks hb t1
  unfold f_X10_book_j103
  rw [e1, bsome, a1, bsome, m_num_f t1 hf, bsome]
  dsimp only
  rw [m_bdup_f hf t1 hx hj, bsome, m_num_f t1 hf, bsome]
  dsimp only
  rw [m_sign_f t1 hf, bsome, t1.1.2.2.2.2.1, if_neg hf, e2, bsome]
  exact ⟨T2, _, rfl, c1.bt.trans c2.bt, t2⟩
def BL (w h : Nat) (a0 : Nat) (C T : Mm) (i : Nat) : Prop := ∃ x y v : Nat, x < w ∧ y < h ∧ v ≤ 60 ∧ mi C (a0 + 1) i = Int32.ofNat (8 * y + x) ∧ mi C (a0 + 2) i = Int32.ofNat v ∧ mi T (128 + i) 0 = Int32.ofNat x ∧ mi T (128 + i) 1 = Int32.ofNat y ∧ mi T (128 + i) 2 = Int32.ofNat v
theorem ar_127 {i : Nat} (hi : i < 6) : ar 127 6 (Int32.ofNat i) = some (128 + i) := by rw [ar_o hi (by omega)]
/-- a cell twice -/
theorem m_bdup {x y : Nat} (hx : x < 8) (hy : y < 6) (hw : w ≤ 8 ∧ h ≤ 6) (hj : j ≤ 6) (t : TT b T L p 0 (-1)) (hl : ∀ i, i < j → BL w h a0 C T i) {x3 : Int32} : ∃ T', whl fu (f_X10_book_b130 (Int32.ofNat j) x3 (Int32.ofNat x) (Int32.ofNat y)) (0, T) = some T' ∧ TFr T T' ∧ (tld C a0 (Int32.ofNat (8 * y + x)) j → TT b T' L p 2 x3) ∧ (¬ tld C a0 (Int32.ofNat (8 * y + x)) j → TT b T' L p 0 (-1)) := by
  exact whl_ex (f := f_X10_book_b130 (Int32.ofNat j) x3 (Int32.ofNat x) (Int32.ofNat y)) (fun i st => ∃ T1, st = (Int32.ofNat i, T1) ∧ TFr T T1 ∧ (tld C a0 (Int32.ofNat (8 * y + x)) i → TT b T1 L p 2 x3) ∧ (¬ tld C a0 (Int32.ofNat (8 * y + x)) i → TT b T1 L p 0 (-1))) (fun T1 => TFr T T1 ∧ (tld C a0 (Int32.ofNat (8 * y + x)) j → TT b T1 L p 2 x3) ∧ (¬ tld C a0 (Int32.ofNat (8 * y + x)) j → TT b T1 L p 0 (-1))) j fu (0, T) (by show j < 1000000; omega) ⟨T, rfl, TFr.refl, fun z => z.elim, fun _ => t⟩ (by
    rintro i st hi ⟨T1, rfl, c1, y1, n1⟩
    obtain ⟨x', y', v', w1, w2, w3, w4, w5, w6, w7, w8⟩ := hl i hi
    have q3 : ∀ X a j, j < 3 → ai X a 3 (Int32.ofNat j) = some (mi X a j) := fun X a j hj => ai_o hj (by omega)
    refine Or.inl ?_
    unfold f_X10_book_b130
    dsimp only
    rw [if_neg (nle hi (by omega)), oN_S]
    by_cases ht : tld C a0 (Int32.ofNat (8 * y + x)) i
    · have t1 := y1 ht
      rw [t1.1.2.2.2.2.1, if_neg (show ¬ (2 : Int32) = 0 by decide)]
      exact ⟨_, rfl, T1, rfl, c1, fun _ => t1, fun z => absurd (Or.inl ht) z⟩
    · have t1 := n1 ht
      have e0 : mi T1 (128 + i) = mi T (128 + i) := c1.1.at (by omega)
      rw [t1.1.2.2.2.2.1, if_pos rfl, ar_127 (by omega), bsome, show ai T1 (128 + i) 3 0 = _ from q3 T1 _ 0 (by omega), bsome, bsome, show ai T1 (128 + i) 3 1 = _ from q3 T1 _ 1 (by omega), bsome, e0, w6, w7]
      have key : (x' = x ∧ y' = y) ↔ mi C (a0 + 1) i = Int32.ofNat (8 * y + x) := by
        rw [w4, oN_eq (by omega) (by omega)]
        omega
      by_cases h1 : x' = x
      · rw [if_pos (show Int32.ofNat x' = Int32.ofNat x by rw [h1])]
        by_cases h2 : y' = y
        · obtain ⟨T2, e2, t2, c2⟩ := m_wrong (x1 := 2) (x2 := x3) t1
          rw [if_pos rfl, if_pos rfl] at t2
          rw [if_pos (show Int32.ofNat y' = Int32.ofNat y by rw [h2]), e2, bsome]
          exact ⟨_, rfl, T2, rfl, c1.trans c2, fun _ => t2, fun z => absurd (Or.inr (key.mp ⟨h1, h2⟩)) z⟩
        · rw [if_neg (fun z => h2 ((oN_eq (by omega) (by omega)).mp z))]
          exact ⟨_, rfl, T1, rfl, c1, fun z => z.elim (fun z => absurd z ht) (fun z => absurd (key.mpr z).2 h2), fun _ => t1⟩
      · rw [if_neg (fun z => h1 ((oN_eq (by omega) (by omega)).mp z))]
        exact ⟨_, rfl, T1, rfl, c1, fun z => z.elim (fun z => absurd z ht) (fun z => absurd (key.mpr z).1 h1), fun _ => t1⟩) (by
    rintro st ⟨T1, rfl, c1, y1, n1⟩
    refine ⟨T1, ?_, c1, y1, n1⟩
    unfold f_X10_book_b130
    dsimp only
    rw [if_pos (le_rf _)])
end BO
