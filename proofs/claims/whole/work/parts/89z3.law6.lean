/-! level 3: a law: the pair -/
section LG9
variable {k : Nat} {M M2 : Mm} {q : Nat → Nat} {b : Nat → Int32} {C C' T T' N : Mm} {L p p' cnt D dep a0 s n m r i : Nat} {f fa : Int32}
theorem bL_end (hb : TxB b) (h : nb b L p ≤ L) : bL b L (nb b L p) = -1 ↔ nb b L p = L := by
  rw [bL_1 hb]
  omega
/-- the end of a law's text in the reference -/
def mEnd (T : Mm) : Option Mm := (f_X10_blanks T).bind fun M7 => (if (mi M7 76 5) = 0 then (if (mi M7 76 2) ≤ (mi M7 76 4) then some M7 else f_X10_wrong 1 (mi M7 76 4) M7) else some M7)
theorem y_law (hb : TxB b) (hL : L ≤ 150) (ha : 28 ≤ a0) (h1 : TC b C L 0 0 (-1)) (h2 : TT b T L (nb b L 0) 0 (-1)) (h8 : mi T 76 8 = 0) : ∃ C' T', f_X4_readLaw a0 C = some C' ∧ ((f_X10_sum (sI T 76 23 0)).bind fun M6 => mEnd M6) = some T' ∧ Lf a0 C C' ∧ Lt9 T T' ∧ ((∃ n, 0 < n ∧ n ≤ L ∧ TC b C' L L 0 (-1) ∧ TT b T' L L 0 (-1) ∧ LwS a0 C' T' L n 1 0) ∨ FL b C' T' L) := by
  have u1 : TC b (sI C a0 3 0) L 0 0 (-1) := h1.of (fun j _ _ => by rw [mi_sI_ne (by omega)]) (by rw [mi_sI_ne (by omega)])
  have u2 : TT b (sI T 76 23 0) L (nb b L 0) 0 (-1) := h2.of (fun j hj => mi_sI_o (by omega)) (by rw [mi_sI_ne (by omega)])
  have l0 : LwS a0 (sI C a0 3 0) (sI T 76 23 0) (0 - 0) 0 0 0 := ⟨mi_sI_k, mi_sI_k, by omega, by rw [mi_sI_o (by omega)]; exact h8, fun j hj => by omega, rfl⟩
  have f1 : Lf a0 C (sI C a0 3 0) := ⟨om_si Om.refl (Or.inr (Or.inl rfl)), fun j hj => by rw [mi_sI_ne (by omega)]⟩
  have f2 : Lt9 T (sI T 76 23 0) := Lt9.s (by omega)
  obtain ⟨C1, T1, e1, e2, c1, c2, hx⟩ := y_all hb hL ha 6 0 60 60 (by omega) (by omega) (by omega) (sI C a0 3 0) (sI T 76 23 0) 0 (nb b L 0) 0 0 0 u1 u2 (nb_id (by omega)) (by omega) l0
  have hC : f_X4_readLaw a0 C = (f_X7_next C1).bind fun (v2, M2) => (if v2 = (-1 : Int32) then some M2 else (f_X7_fail (1 : Int32) (mi M2 1 3) M2).bind fun M4 => some M4) := by
    unfold f_X4_readLaw f_X4_readSum
    rw [show R_X4_readSum 60 0 a0 0 (sI C a0 3 0) = some C1 from e1, bsome]
  have hT : ((f_X10_sum (sI T 76 23 0)).bind fun M6 => mEnd M6) = mEnd T1 := by
    unfold f_X10_sum
    rw [e2, bsome]
  rw [hC, hT]
  unfold mEnd
  rcases hx with ⟨p1, n, x1, x2, -, x3⟩ | ⟨⟨f, fa, p1, p2, hf, x1, x2⟩, x3⟩
  · have hp1 := x2.1.1.2.1
    have hle : nb b L p1 ≤ L := nb_le hp1
    have hge : p1 ≤ nb b L p1 := nb_ge hp1
    have hn0 : 0 < n := by
      by_cases h : n = 0
      · have := x3.2.2.2.2.2
        rw [h] at this
        exact absurd this (by show ¬ (0 : Nat) = 0 + 1; omega)
      · omega
    have hn9 := x3.2.2.1
    obtain ⟨C2, e3, t3, c3, -⟩ := k_next x2.1
    obtain ⟨T2, e4, t4, c4⟩ := m_blanks hb x2.2
    rw [e3, bsome, e4, bsome, t4.1.2.2.2.2.1, if_pos rfl, t4.1.2.2.1, t4.1.2.2.2.1]
    dsimp only
    by_cases hend : nb b L p1 = L
    · rw [if_pos ((bL_end hb hle).mpr hend), if_pos ((oN_le (by omega) (by omega)).mpr (by omega))]
      rw [hend] at t3 t4
      exact ⟨C2, T2, rfl, rfl, (f1.trans c1).trans c3.lf, (f2.trans c2).trans c4.lt, Or.inl ⟨n, hn0, by omega, t3, t4, x3.of ha (by omega) c3 c4⟩⟩
    · obtain ⟨C3, e5, t5, c5, -⟩ := k_fail (x1 := 1) (x2 := mi C2 1 3) t3
      obtain ⟨T3, e6, t6, c6⟩ := m_wrong (x1 := 1) (x2 := Int32.ofNat (nb b L p1)) t4
      rw [if_pos rfl, if_pos rfl, t3.1.2.2.2.1] at t5
      rw [if_pos rfl, if_pos rfl] at t6
      rw [if_neg (fun z => hend ((bL_end hb hle).mp z)), e5, bsome, if_neg (fun z => by have := (oN_le (by omega) (by omega)).mp z; omega), e6]
      exact ⟨C3, T3, rfl, rfl, (f1.trans c1).trans (c3.trans c5).lf, (f2.trans c2).trans (c4.trans c6).lt, Or.inr ⟨1, _, _, _, by decide, t5, t6⟩⟩
  · obtain ⟨C2, e3, t3, c3, -⟩ := k_next x1
    obtain ⟨T2, e4, t4, c4⟩ := m_blanks hb x2
    rw [e3, bsome, e4, bsome, t4.1.2.2.2.2.1, if_neg hf]
    dsimp only
    by_cases h9 : bL b L (nb b L p1) = -1
    · rw [if_pos h9]
      exact ⟨C2, T2, rfl, rfl, (f1.trans c1).trans c3.lf, (f2.trans c2).trans c4.lt, Or.inr ⟨f, fa, _, _, hf, t3, t4⟩⟩
    · obtain ⟨C3, e5, t5, c5, -⟩ := k_fail (x1 := 1) (x2 := mi C2 1 3) t3
      rw [if_neg hf, if_neg hf] at t5
      rw [if_neg h9, e5, bsome]
      exact ⟨C3, T2, rfl, rfl, (f1.trans c1).trans (c3.trans c5).lf, (f2.trans c2).trans c4.lt, Or.inr ⟨f, fa, _, _, hf, t5, t4⟩⟩
theorem ar_117 (hi : i < 2) : ar 117 2 (Int32.ofNat i) = some (118 + i) := by rw [ar_o hi (by omega)]
/-- the law copied -/
theorem m_lcopy (hi : i < 2) (hn : n ≤ 150) (h23 : mi N 76 23 = Int32.ofNat n) : ∃ N', whl fu (f_X10_law_b123 (Int32.ofNat i)) (0, N) = some N' ∧ Om (fun a => a = 118 + i) N N' ∧ ∀ j, j < 2 * n → mi N' (118 + i) j = mi N 134 j := by
  exact whl_ex (f := f_X10_law_b123 (Int32.ofNat i)) (fun t st => ∃ N1, st = (Int32.ofNat t, N1) ∧ Om (fun a => a = 118 + i) N N1 ∧ ∀ j, j < t → mi N1 (118 + i) j = mi N 134 j) (fun N1 => Om (fun a => a = 118 + i) N N1 ∧ ∀ j, j < 2 * n → mi N1 (118 + i) j = mi N 134 j) (2 * n) fu (0, N) (by show 2 * n < 1000000; omega) ⟨N, rfl, Om.refl, fun j hj => by omega⟩ (by
    rintro t st ht ⟨N1, rfl, hO, hq⟩
    unfold f_X10_law_b123
    dsimp only
    rw [hO.at (by omega), h23, show (2 : Int32) * Int32.ofNat n = Int32.ofNat (2 * n) from tw2, if_neg (nle ht (by omega)), ar_117 hi, bsome, ai_o (by omega) (by omega), bsome, wi_o (by omega) (by omega), bsome, oN_S]
    refine Or.inl ⟨_, rfl, _, rfl, om_si hO rfl, fun j hj => ?_⟩
    rw [mi_sI, u1_at]
    by_cases e : j = t
    · rw [if_pos e, e, hO.at (by omega)]
    · rw [if_neg e]
      exact hq j (by omega)) (by
    rintro st ⟨N1, rfl, hO, hq⟩
    refine ⟨N1, ?_, hO, hq⟩
    unfold f_X10_law_b123
    dsimp only
    rw [hO.at (by omega), h23, show (2 : Int32) * Int32.ofNat n = Int32.ofNat (2 * n) from tw2, if_pos (le_rf _)])
theorem lwE_congr {c g g' : Nat → Int32} (h : lwE c g n) (e : ∀ j, j < 2 * n → g' j = g j) : lwE c g' n := fun j hj => by
  rw [e (2 * j) (by omega), e (2 * j + 1) (by omega), dp_congr j (fun t ht => e (2 * t) (by omega))]
  exact h j hj
theorem rlaw_eq2 {l : Nat} (h : RLaw C T l i) (h1 : mi C' l 3 = mi C l 3) (h2 : mi C' (l + 1) = mi C (l + 1)) (t1 : mi T' 114 i = mi T 114 i) (t2 : mi T' (118 + i) = mi T (118 + i)) : RLaw C' T' l i := by
  unfold RLaw at h ⊢
  rw [h1, h2, t1, t2]
  exact h
def qL (q : Nat → Nat) (i : Nat) : Nat → Nat := fun t => if t = 6 + i then q 10 else if t = 10 then q (6 + i) else q t
theorem ids_law (h : IDS M q) (hi : i = 0 ∨ i = 1) (hr : ∀ a j, mr C a j = if a = 0 ∧ j = 11 then some (q (6 + i)) else if a = q 0 ∧ j = 1 + i then some (q 10) else mr M a j) : IDS C (qL q i) := by
  obtain ⟨⟨i1, i2, i3, i4, i5, i6, i7⟩, ⟨j1, j2, j3, j4⟩, g1, g2, g3, g4, g5⟩ := h
  have ql : ∀ t, t < 6 → qL q i t = q t := fun t ht => by
    unfold qL
    rw [if_neg (by omega), if_neg (by omega)]
  have q0 : q 0 ≠ 0 := by omega
  have low : ∀ j, j ≠ 11 → mr C 0 j = mr M 0 j := fun j hj => by rw [hr, if_neg (by omega), if_neg (by omega)]
  have q10 : qL q i 10 = q (6 + i) := by
    unfold qL
    rw [if_neg (by omega), if_pos rfl]
  have isl : ∀ t, 6 ≤ t → t ≤ 10 → isL (qL q i t) := fun t u1 u2 => by
    unfold qL
    by_cases e : t = 6 + i
    · rw [if_pos e]; exact g4 10 (by omega) (by omega)
    · rw [if_neg e]
      by_cases e2 : t = 10
      · rw [if_pos e2]; exact g4 (6 + i) (by omega) (by omega)
      · rw [if_neg e2]; exact g4 t u1 u2
  refine ⟨⟨?_, ?_, ?_, ?_, ?_, ?_, ?_⟩, ⟨?_, ?_, ?_, ?_⟩, ?_, ?_, ?_, isl, fun s t u1 u2 u3 => ?_⟩
  · rw [low 5 (by omega), ql 0 (by omega)]; exact i1
  · rw [low 6 (by omega), ql 1 (by omega)]; exact i2
  · rw [low 7 (by omega), ql 2 (by omega)]; exact i3
  · rw [low 8 (by omega), ql 3 (by omega)]; exact i4
  · rw [low 9 (by omega), ql 4 (by omega)]; exact i5
  · rw [low 10 (by omega), ql 5 (by omega)]; exact i6
  · rw [hr, if_pos ⟨rfl, rfl⟩, q10]
  · rw [ql 0 (by omega), hr, if_neg (by omega)]
    unfold qL
    by_cases e : i = 0
    · rw [if_pos ⟨rfl, by omega⟩, if_pos (by omega)]
    · rw [if_neg (by omega), if_neg (by omega), if_neg (by omega)]; exact j1
  · rw [ql 0 (by omega), hr, if_neg (by omega)]
    unfold qL
    by_cases e : i = 1
    · rw [if_pos ⟨rfl, by omega⟩, if_pos (by omega)]
    · rw [if_neg (by omega), if_neg (by omega), if_neg (by omega)]; exact j2
  · rw [ql 1 (by omega), hr, if_neg (by omega), if_neg (by omega)]
    unfold qL
    rw [if_neg (by omega), if_neg (by omega)]; exact j3
  · rw [ql 1 (by omega), hr, if_neg (by omega), if_neg (by omega)]
    unfold qL
    rw [if_neg (by omega), if_neg (by omega)]; exact j4
  · rw [ql 0 (by omega), ql 1 (by omega)]; exact g1
  · rw [ql 2 (by omega), ql 3 (by omega)]; exact g2
  · rw [ql 4 (by omega), ql 5 (by omega)]; exact g3
  · unfold qL
    by_cases e : s = 6 + i
    · rw [if_pos e, if_neg (by omega)]
      by_cases e2 : t = 10
      · rw [if_pos e2]
        exact (g5 (6 + i) 10 (by omega) (by omega) (by omega)).symm
      · rw [if_neg e2]
        exact (g5 t 10 (by omega) (by omega) (by omega)).symm
    · rw [if_neg e, if_neg (show ¬ s = 10 by omega)]
      by_cases e1 : t = 6 + i
      · rw [if_pos e1]
        exact g5 s 10 (by omega) (by omega) (by omega)
      · rw [if_neg e1]
        by_cases e2 : t = 10
        · rw [if_pos e2]
          by_cases e3 : s < 6 + i
          · exact g5 s (6 + i) (by omega) (by omega) (by omega)
          · exact (g5 (6 + i) s (by omega) (by omega) (by omega)).symm
        · rw [if_neg e2]
          exact g5 s t u1 u2 u3
end LG9
