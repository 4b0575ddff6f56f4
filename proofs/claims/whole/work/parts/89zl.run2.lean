/-! level 3: work: carried out: programs on both sides -/
section SL9
variable {C C' T T' C0 T0 : Mm} {q : Nat → Nat} {w h n m i j kd b t cc Y : Nat}
/-- the class's loop -/
abbrev kL (q : Nat → Nat) : (Int32 × Int32 × Int32 × Mm) → Option ((Int32 × Int32 × Int32 × Mm) ⊕ (Mm ⊕ Mm)) := f_X6_carryOut_b18 (q 0) (q 2)
def kS (b i t : Nat) (C : Mm) : Int32 × Int32 × Int32 × Mm := (Int32.ofNat b, Int32.ofNat i, Int32.ofNat t, C)
/-- from here to there in the class -/
def kTo (q : Nat → Nat) (b i t : Nat) (C : Mm) (b' i' t' : Nat) (C' : Mm) : Prop := t ≤ t' ∧ ∀ k, whl (k + (t' - t)) (kL q) (kS b i t C) = whl k (kL q) (kS b' i' t' C')
theorem kTo.refl : kTo q b i t C b i t C := ⟨Nat.le_refl _, fun k => by rw [Nat.sub_self, Nat.add_zero]⟩
theorem kTo.trans {b1 i1 t1 b2 i2 t2 : Nat} {C1 C2 : Mm} (h1 : kTo q b i t C b1 i1 t1 C1) (h2 : kTo q b1 i1 t1 C1 b2 i2 t2 C2) : kTo q b i t C b2 i2 t2 C2 := by
  obtain ⟨a1, a2⟩ := h1
  obtain ⟨b1, b2⟩ := h2
  refine ⟨by omega, fun k => ?_⟩
  rw [show k + (t2 - t) = (k + (t2 - t1)) + (t1 - t) by omega, a2, b2]
theorem kTo.one {b1 i1 : Nat} {C1 : Mm} (h1 : kL q (kS b i t C) = some (.inl (kS b1 i1 (t + 1) C1))) : kTo q b i t C b1 i1 (t + 1) C1 := ⟨by omega, fun k => by
  rw [show t + 1 - t = 1 by omega]
  exact whl_s h1⟩
/-- the loop's end in the class -/
theorem k_end {r : Nat} (hE : ER q C0 T0 Y b C T) (hcc : mi C0 3 4 = Int32.ofNat cc) (hc2 : cc ≤ 200) {i2 : Nat} (h2 : i2 < cc) (hi : i < i2) (ht : t < 6600) (k1 : mi C0 4 i2 = 8) (k2 : mi C0 5 i2 = Int32.ofNat i) (hr : 1 ≤ r) (hr2 : r ≤ 20) (h7 : mi C 7 i = Int32.ofNat r) : kTo q b i2 t C b (if r = 1 then i2 + 1 else i + 1) (t + 1) (sI C 7 i (Int32.ofNat (r - 1))) := by
  have e34 : mi C 3 4 = Int32.ofNat cc := hE.2.1.1.trans hcc
  refine kTo.one ?_
  unfold kL kS f_X6_carryOut_b18 f_X6_endLoop
  dsimp only
  rw [if_neg (show ¬ (6600 : Int32) ≤ Int32.ofNat t from nle (n := 6600) ht (by omega)), if_neg (oN_nn (by omega)), e34, if_neg (nle h2 (by omega)), ai_o (by omega) (by omega), bsome, hE.c9 (Or.inl rfl), k1, if_pos rfl, ai_o (by omega) (by omega), bsome, hE.c9 (Or.inr (Or.inl rfl)), k2, if_neg (oN_nn (by omega)), if_pos ((oN_lt (by omega) (by omega)).mpr hi), ai_o (by omega) (by omega), bsome, h7, wi_o (by omega) (by omega), bsome, ai_o (by omega) (by omega), bsome, mi_sI_k, bsome, sb1 hr]
  dsimp only
  by_cases e : r = 1
  · subst e
    rw [if_pos (show Int32.ofNat (1 - 1) ≤ 0 by decide), if_pos rfl, oN_S, oN_S]
  · rw [if_neg (show ¬ Int32.ofNat (r - 1) ≤ 0 from nle (i := 0) (n := r - 1) (by omega) (by omega)), if_neg e, oN_S, oN_S]
/-- a loop begun in the class -/
theorem k_beg {N i2 : Nat} (hE : ER q C0 T0 Y b C T) (hcc : mi C0 3 4 = Int32.ofNat cc) (hc2 : cc ≤ 200) (hi : i < cc) (hb : b < 300) (ht : t < 6600) (hN : N ≤ 20) (h2 : i2 < 200) (k1 : mi C0 4 i = 7) (k2 : mi C0 5 i = Int32.ofNat N) (k3 : mi C0 6 i = Int32.ofNat i2) : kTo q b i t C (b + 1) (if N = 0 then i2 + 1 else i + 1) (t + 1) (sI C 7 i (Int32.ofNat N)) := by
  have e34 : mi C 3 4 = Int32.ofNat cc := hE.2.1.1.trans hcc
  have n3 : ¬ Int32.ofNat b = 300 := fun z => by have := (oN_eq (j := 300) (by omega) (by omega)).mp z; omega
  refine kTo.one ?_
  unfold kL kS f_X6_carryOut_b18 f_X6_beginLoop f_X6_carryOut_j109
  dsimp only
  rw [if_neg (show ¬ (6600 : Int32) ≤ Int32.ofNat t from nle (n := 6600) ht (by omega)), if_neg (oN_nn (by omega)), e34, if_neg (nle hi (by omega)), ai_o (by omega) (by omega), bsome, hE.c9 (Or.inl rfl), k1, if_neg (by decide), if_neg n3, bsome, if_pos rfl, ai_o (by omega) (by omega), bsome, hE.c9 (Or.inr (Or.inl rfl)), k2, wi_o (by omega) (by omega), bsome, ai_o (by omega) (by omega), bsome, mi_sI_ne (show (5 : Nat) ≠ 7 by omega), hE.c9 (Or.inr (Or.inl rfl)), k2]
  by_cases e : N = 0
  · subst e
    rw [if_pos (show Int32.ofNat 0 = 0 from rfl), ai_o (by omega) (by omega), bsome, mi_sI_ne (show (6 : Nat) ≠ 7 by omega), hE.c9 (Or.inr (Or.inr rfl)), k3, bsome]
    dsimp only
    rw [if_pos rfl, oN_S, oN_S, oN_S]
  · rw [if_neg (show ¬ Int32.ofNat N = 0 from fun z => e ((oN_eq (j := 0) (by omega) (by omega)).mp z)), bsome]
    dsimp only
    rw [if_neg e, oN_S, oN_S, oN_S]
/-- what running from (i, j) to (i', j') gives -/
def RunR (q : Nat → Nat) (C0 T0 : Mm) (Y cc b i i' t : Nat) (C T' : Mm) : Prop := ∃ C' b' t' at', kTo q b i t C b' at' t' C' ∧ ER q C0 T0 Y b' C' T' ∧ (b ≤ b' ∧ b' ≤ 300) ∧ t' + 21 * b ≤ t + 21 * b' ∧ at' ≤ cc ∧ (at' = i' ∨ b' = 300) ∧ ∀ k, k < i → mi C' 7 k = mi C 7 k
/-- the claim for a program -/
def HXr (q : Nat → Nat) (C0 T0 : Mm) (Y cc n i i' j j' : Nat) : Prop := ∀ C T b t m K, ER q C0 T0 Y b C T → b ≤ 300 → t ≤ 21 * b → n < m → n < K → ∃ T', whl K (f_X10_goes_b2 (R_X10_goes m) (Int32.ofNat j')) (Int32.ofNat j, T) = some T' ∧ RunR q C0 T0 Y cc b i i' t C T'
theorem m_full {x2 x3 : Int32} {K : Nat} {rec : Nat → Int32 → Int32 → Mm → Option Mm} (h9 : mi T 76 35 = Int32.ofNat 300) : whl (K + 1) (f_X10_goes_b2 rec x2) (x3, T) = some T := by
  refine whl_e ?_
  unfold f_X10_goes_b2
  dsimp only
  rw [h9]
  by_cases e : x2 ≤ x3
  · rw [if_pos e]
  · rw [if_neg e, if_pos (show (300 : Int32) ≤ Int32.ofNat 300 by decide)]
theorem m_fullL {x2 x4 : Int32} {K N : Nat} {rec : Nat → Int32 → Int32 → Mm → Option Mm} (h9 : mi T 76 35 = Int32.ofNat 300) (hj : j < 60) (hN : mi T (136 + j) 1 = Int32.ofNat N) : whl (K + 1) (f_X10_goes_b43 rec x2 (Int32.ofNat j)) (x4, T) = some T := by
  refine whl_e ?_
  unfold f_X10_goes_b43
  dsimp only
  rw [ar_135 hj, bsome, show ai T (136 + j) 3 1 = some (mi T (136 + j) 1) from ai_o (i := 1) (by omega) (by omega), bsome, h9]
  by_cases e : mi T (136 + j) 1 ≤ x4
  · rw [if_pos e]
  · rw [if_neg e, if_pos (show (300 : Int32) ≤ Int32.ofNat 300 by decide)]
/-- the rounds of a loop -/
theorem ex_loop {N i2 j2 : Nat} (hcc : mi C0 3 4 = Int32.ofNat cc) (hc2 : cc ≤ 200) (hN : N ≤ 20) (h2 : i2 < cc) (hi : i < i2) (hj : j < 60) (hj2 : j2 ≤ 60) (k1 : mi C0 4 i2 = 8) (k2 : mi C0 5 i2 = Int32.ofNat i) (k3 : mi T0 (136 + j) 1 = Int32.ofNat N) (k4 : mi T0 (136 + j) 2 = Int32.ofNat j2) (hB : HXr q C0 T0 Y cc n (i + 1) i2 (j + 1) j2) {x2 : Int32} (hm : n + 1 < m) (hn : n < 1000) : ∀ r x C T b t K, x + r = N → 1 ≤ r → mi C 7 i = Int32.ofNat r → ER q C0 T0 Y b C T → b ≤ 300 → t + 20 ≤ 21 * b + x → r < K → ∃ T', whl K (f_X10_goes_b43 (R_X10_goes m) x2 (Int32.ofNat j)) (Int32.ofNat x, T) = some T' ∧ ∃ C' b' t' at', kTo q b (i + 1) t C b' at' t' C' ∧ ER q C0 T0 Y b' C' T' ∧ (b ≤ b' ∧ b' ≤ 300) ∧ t' + 21 * b ≤ t + r + 21 * b' ∧ at' ≤ cc ∧ (at' = i2 + 1 ∨ b' = 300) ∧ ∀ k, k < i → mi C' 7 k = mi C 7 k := by
  intro r
  induction r with
  | zero => exact fun _ _ _ _ _ _ _ z => absurd z (by omega)
  | succ r ih =>
    intro x C T b t K hx h1 h7 hE hb ht hK
    obtain ⟨K, rfl⟩ : ∃ k, K = k + 1 := ⟨K - 1, by omega⟩
    obtain ⟨m, rfl⟩ : ∃ k, m = k + 1 := ⟨m - 1, by omega⟩
    have et1 : mi T (136 + j) 1 = Int32.ofNat N := by rw [hE.t9 (by omega)]; exact k3
    have et2 : mi T (136 + j) 2 = Int32.ofNat j2 := by rw [hE.t9 (by omega)]; exact k4
    by_cases hb3 : b = 300
    · subst hb3
      exact ⟨T, m_fullL hE.2.2.2.2.1 hj et1, C, 300, t, i + 1, kTo.refl, hE, ⟨Nat.le_refl _, Nat.le_refl _⟩, by omega, by omega, Or.inr rfl, fun _ _ => rfl⟩
    · obtain ⟨T1, w1, C1, b1, t1, at1, g1, g2, g3, g4, g5, g6, g7⟩ := hB C T b t m fu hE hb (by omega) (by omega) (by show n < 1000000; omega)
      have hbody : f_X10_goes_b43 (R_X10_goes (m + 1)) x2 (Int32.ofNat j) (Int32.ofNat x, T) = some (.inl (Int32.ofNat (x + 1), T1)) := by
        unfold f_X10_goes_b43
        dsimp only
        rw [ar_135 hj, bsome, show ai T (136 + j) 3 1 = some (mi T (136 + j) 1) from ai_o (i := 1) (by omega) (by omega), bsome, et1, if_neg (nle (by omega) (by omega)), hE.2.2.2.2.1, if_neg (show ¬ (300 : Int32) ≤ Int32.ofNat b from nle (n := 300) (by omega) (by omega)), bsome, show ai T (136 + j) 3 2 = some (mi T (136 + j) 2) from ai_o (i := 2) (by omega) (by omega), bsome, et2, oN_S, oN_S]
        rw [show R_X10_goes (m + 1) 0 (Int32.ofNat (j + 1)) (Int32.ofNat j2) T = (whl fu (f_X10_goes_b2 (R_X10_goes m) (Int32.ofNat j2)) (Int32.ofNat (j + 1), T)).bind fun M33 => some M33 from rfl, w1, bsome, bsome]
      rw [whl_s hbody]
      have h71 : mi C1 7 i = Int32.ofNat (r + 1) := by rw [g7 i (by omega)]; exact h7
      rcases g6 with e | e
      · subst e
        have hE2 : ER q C0 T0 Y b1 (sI C1 7 i (Int32.ofNat r)) T1 := g2.s7
        have hend := k_end (t := t1) (r := r + 1) g2 hcc hc2 h2 hi (by omega) k1 k2 (by omega) (by omega) h71
        rw [show r + 1 - 1 = r by omega] at hend
        by_cases hr : r = 0
        · subst hr
          rw [if_pos rfl] at hend
          obtain ⟨K, rfl⟩ : ∃ k, K = k + 1 := ⟨K - 1, by omega⟩
          refine ⟨T1, whl_e ?_, _, b1, t1 + 1, at1 + 1, g1.trans hend, hE2, g3, by omega, by omega, Or.inl rfl, fun k hk => ?_⟩
          · unfold f_X10_goes_b43
            dsimp only
            rw [ar_135 hj, bsome, show ai T1 (136 + j) 3 1 = some (mi T1 (136 + j) 1) from ai_o (i := 1) (by omega) (by omega), bsome, g2.t9 (by omega), k3, if_pos ((oN_le (by omega) (by omega)).mpr (by omega))]
          · rw [mi_sI_o (by omega), g7 k (by omega)]
        · rw [if_neg (by omega)] at hend
          obtain ⟨T2, v1, C2, b2, t2, at2, v2, v3, v4, v5, v6, v7, v8⟩ := ih (x + 1) (sI C1 7 i (Int32.ofNat r)) T1 b1 (t1 + 1) K (by omega) (by omega) mi_sI_k hE2 g3.2 (by omega) (by omega)
          refine ⟨T2, v1, C2, b2, t2, at2, (g1.trans hend).trans v2, v3, ⟨by omega, v4.2⟩, by omega, v6, v7, fun k hk => ?_⟩
          rw [v8 k hk, mi_sI_o (by omega), g7 k (by omega)]
      · subst e
        obtain ⟨K, rfl⟩ : ∃ k, K = k + 1 := ⟨K - 1, by omega⟩
        exact ⟨T1, m_fullL g2.2.2.2.2.1 hj (by rw [g2.t9 (by omega)]; exact k3), C1, 300, t1, at1, g1, g2, g3, by omega, g5, Or.inr rfl, fun k hk => g7 k (by omega)⟩
/-- a program on both sides -/
theorem ex_blk (hY : Y < 8000000) (hcc : mi C0 3 4 = Int32.ofNat cc) (hc2 : cc ≤ 200) : ∀ n i i' j j', n < 1000 → BlkM (tw T0) (th T0) C0 T0 n i i' j j' → i' ≤ cc → j' ≤ 60 → HXr q C0 T0 Y cc n i i' j j' := by
  intro n
  have nil : ∀ n i j, i ≤ cc → HXr q C0 T0 Y cc n i i j j := fun n i j hi C T b t m K hE hb ht hm hK => by
    obtain ⟨K, rfl⟩ : ∃ k, K = k + 1 := ⟨K - 1, by omega⟩
    refine ⟨T, whl_e ?_, C, b, t, i, kTo.refl, hE, ⟨Nat.le_refl _, hb⟩, Nat.le_refl _, hi, Or.inl rfl, fun _ _ => rfl⟩
    unfold f_X10_goes_b2
    dsimp only
    rw [if_pos (le_rf _)]
  have full : ∀ n i i' j j', i ≤ cc → ∀ C T b t m K, ER q C0 T0 Y b C T → b = 300 → n < K → ∃ T', whl K (f_X10_goes_b2 (R_X10_goes m) (Int32.ofNat j')) (Int32.ofNat j, T) = some T' ∧ RunR q C0 T0 Y cc b i i' t C T' := fun n i i' j j' hi C T b t m K hE hb hK => by
    subst hb
    obtain ⟨K, rfl⟩ : ∃ k, K = k + 1 := ⟨K - 1, by omega⟩
    exact ⟨T, m_full hE.2.2.2.2.1, C, 300, t, i, kTo.refl, hE, ⟨Nat.le_refl _, Nat.le_refl _⟩, Nat.le_refl _, hi, Or.inr rfl, fun _ _ => rfl⟩
  induction n with
  | zero =>
    rintro i i' j j' - ⟨e1, e2⟩ h1 h2
    rw [e1, e2]
    exact nil 0 i j (by omega)
  | succ n ih =>
    intro i i' j j' hn hB hi' hj'
    have hle := blk_le _ _ _ _ _ hB
    intro C T b t m K hE hb ht hm hK
    by_cases hb3 : b = 300
    · exact full (n + 1) i i' j j' (by omega) C T b t m K hE hb3 hK
    obtain ⟨K, rfl⟩ : ∃ k, K = k + 1 := ⟨K - 1, by omega⟩
    rcases hB with ⟨e1, e2⟩ | ⟨kd, k1, k2, k3, k4, k5, hb9⟩ | ⟨N, i2, j2, n1, ⟨l1, l2, l3, l4, l5, l6⟩, ⟨l7, l8⟩, hB1, hB2⟩
    · rw [e1, e2]
      exact nil (n + 1) i j (by omega) C T b t m (K + 1) hE hb ht hm hK
    · have l9 := blk_le _ _ _ _ _ hb9
      obtain ⟨C1, T1, p1, p2, p3, p4⟩ := ex_one (rec := R_X10_goes m) (t := t) (jE := j') hE (by omega) hcc hc2 (i := i) (j := j) (by omega) (by omega) (by omega) hj' (by omega) (by omega) k1 k2 k3 k4 k5
      obtain ⟨T2, w1, C2, b2, t2, at2, w2, w3, w4, w5, w6, w7, w8⟩ := ih (i + 1) i' (j + 1) j' (by omega) hb9 hi' hj' C1 T1 (b + 1) (t + 1) m K p3 (by omega) (by omega) (by omega) (by omega)
      refine ⟨T2, by rw [whl_s p2]; exact w1, C2, b2, t2, at2, (kTo.one p1).trans w2, w3, ⟨by omega, w4.2⟩, by omega, w6, w7, fun k hk => ?_⟩
      rw [w8 k (by omega), p4]
    · have l2 : mi T0 (136 + j) 0 = 7 := l2
      have l4 : mi T0 (136 + j) 1 = Int32.ofNat N := l4
      have l5 : mi T0 (136 + j) 2 = Int32.ofNat j2 := l5
      have l9 := blk_le _ _ _ _ _ hB1
      have l10 := blk_le _ _ _ _ _ hB2
      have hN7 : f_X10_goes_b2 (R_X10_goes m) (Int32.ofNat j') (Int32.ofNat j, T) = (whl fu (f_X10_goes_b43 (R_X10_goes m) (Int32.ofNat j') (Int32.ofNat j)) (0, sI T 76 35 (Int32.ofNat (b + 1)))).bind fun M29 => some (.inl (mi M29 (136 + j) 2, M29)) := by
        unfold f_X10_goes_b2 f_X10_goes_j87
        dsimp only
        rw [if_neg (nle (by omega) (by omega)), hE.2.2.2.2.1, if_neg (show ¬ (300 : Int32) ≤ Int32.ofNat b from nle (n := 300) (by omega) (by omega)), ar_135 (by omega), bsome, oN_S, show ai (sI T 76 35 (Int32.ofNat (b + 1))) (136 + j) 3 0 = some (mi (sI T 76 35 (Int32.ofNat (b + 1))) (136 + j) 0) from ai_o (i := 0) (by omega) (by omega), bsome, mi_sI_ne (by omega), hE.t9 (by omega), if_pos l2]
        cases whl fu (f_X10_goes_b43 (R_X10_goes m) (Int32.ofNat j') (Int32.ofNat j)) (0, sI T 76 35 (Int32.ofNat (b + 1))) with
        | none => rfl
        | some M29 =>
          rw [bsome, bsome, bsome, show ai M29 (136 + j) 3 2 = some (mi M29 (136 + j) 2) from ai_o (i := 2) (by omega) (by omega), bsome]
      have hE1 := hE.beg
      have hbeg := k_beg (t := t) (N := N) (i2 := i2) hE hcc hc2 (i := i) (by omega) (by omega) (by omega) n1 (by omega) l1 l3 l6
      have hE2 : ER q C0 T0 Y (b + 1) (sI C 7 i (Int32.ofNat N)) (sI T 76 35 (Int32.ofNat (b + 1))) := hE1.s7
      have fin : ∀ T2 C2 b2 t2 at2, whl fu (f_X10_goes_b43 (R_X10_goes m) (Int32.ofNat j') (Int32.ofNat j)) (0, sI T 76 35 (Int32.ofNat (b + 1))) = some T2 → kTo q b i t C b2 at2 t2 C2 → ER q C0 T0 Y b2 C2 T2 → (b ≤ b2 ∧ b2 ≤ 300) → t2 + 21 * b ≤ t + 21 * b2 → at2 ≤ cc → (at2 = i2 + 1 ∨ b2 = 300) → (∀ k, k < i → mi C2 7 k = mi C 7 k) → ∃ T', whl (K + 1) (f_X10_goes_b2 (R_X10_goes m) (Int32.ofNat j')) (Int32.ofNat j, T) = some T' ∧ RunR q C0 T0 Y cc b i i' t C T' := fun T2 C2 b2 t2 at2 v1 v2 v3 v4 v5 v6 v7 v8 => by
        rw [v1, bsome, v3.t9 (by omega), l5] at hN7
        rw [whl_s hN7]
        rcases v7 with e | e
        · subst e
          obtain ⟨T4, w1, C4, b4, t4, at4, w2, w3, w4, w5, w6, w7, w8⟩ := ih (i2 + 1) i' j2 j' (by omega) hB2 hi' hj' C2 T2 b2 t2 m K v3 v4.2 (by omega) (by omega) (by omega)
          exact ⟨T4, w1, C4, b4, t4, at4, v2.trans w2, w3, ⟨by omega, w4.2⟩, by omega, w6, w7, fun k hk => by rw [w8 k (by omega), v8 k hk]⟩
        · subst e
          obtain ⟨K, rfl⟩ : ∃ k, K = k + 1 := ⟨K - 1, by omega⟩
          exact ⟨T2, m_full v3.2.2.2.2.1, C2, 300, t2, at2, v2, v3, v4, v5, v6, Or.inr rfl, v8⟩
      have k7 : ∀ k, k < i → mi (sI C 7 i (Int32.ofNat N)) 7 k = mi C 7 k := fun k hk => mi_sI_o (by omega)
      by_cases hN0 : N = 0
      · rw [if_pos hN0] at hbeg
        refine fin _ _ (b + 1) (t + 1) (i2 + 1) ?_ hbeg hE2 ⟨by omega, by omega⟩ (by omega) (by omega) (Or.inl rfl) k7
        show whl (999999 + 1) _ _ = _
        refine whl_e ?_
        unfold f_X10_goes_b43
        dsimp only
        rw [ar_135 (by omega), bsome, show ai (sI T 76 35 (Int32.ofNat (b + 1))) (136 + j) 3 1 = some (mi (sI T 76 35 (Int32.ofNat (b + 1))) (136 + j) 1) from ai_o (i := 1) (by omega) (by omega), bsome, hE2.t9 (by omega), l4, hN0, if_pos (show Int32.ofNat 0 ≤ 0 by decide)]
      · rw [if_neg hN0] at hbeg
        have hIH : HXr q C0 T0 Y cc n (i + 1) i2 (j + 1) j2 := ih (i + 1) i2 (j + 1) j2 (by omega) hB1 (by omega) (by omega)
        obtain ⟨T2, v1, C2, b2, t2, at2, v2, v3, v4, v5, v6, v7, v8⟩ := ex_loop (m := m) (x2 := Int32.ofNat j') hcc hc2 n1 (by omega) (by omega) (by omega) (by omega) l7 l8 l4 l5 hIH (by omega) (by omega) N 0 (sI C 7 i (Int32.ofNat N)) (sI T 76 35 (Int32.ofNat (b + 1))) (b + 1) (t + 1) fu (by omega) (by omega) mi_sI_k hE2 (by omega) (by omega) (by show N < 1000000; omega)
        exact fin T2 C2 b2 t2 at2 v1 (hbeg.trans v2) v3 ⟨by omega, v4.2⟩ (by omega) v6 v7 (fun k hk => by rw [v8 k hk, k7 k hk])
/-- when 300 are begun, the class only counts on -/
theorem k_halt (hc2 : cc ≤ 200) : ∀ d i t C K, t + d = 6600 → d < K → i ≤ cc → mi C 3 4 = Int32.ofNat cc → ∃ e C', whl K (kL q) (kS 300 i t C) = some e ∧ (e = .inl C' ∨ e = .inr C') ∧ Om (fun a => a = 7) C C' := by
  intro d
  induction d with
  | zero =>
    intro i t C K ht hK hi h34
    obtain ⟨K, rfl⟩ : ∃ k, K = k + 1 := ⟨K - 1, by omega⟩
    refine ⟨_, C, whl_e ?_, Or.inr rfl, Om.refl⟩
    unfold kL kS f_X6_carryOut_b18
    dsimp only
    rw [if_pos (show (6600 : Int32) ≤ Int32.ofNat t from (oN_le (i := 6600) (by omega) (by omega)).mpr (by omega))]
  | succ d ih =>
    intro i t C K ht hK hi h34
    obtain ⟨K, rfl⟩ : ∃ k, K = k + 1 := ⟨K - 1, by omega⟩
    by_cases hic : i < cc
    · by_cases h8 : mi C 4 i = 8
      · have go : ∀ i1 C1, kL q (kS 300 i t C) = some (.inl (kS 300 i1 (t + 1) C1)) → i1 ≤ cc → Om (fun a => a = 7) C C1 → ∃ e C', whl (K + 1) (kL q) (kS 300 i t C) = some e ∧ (e = .inl C' ∨ e = .inr C') ∧ Om (fun a => a = 7) C C' := fun i1 C1 h1 h2 h3 => by
          obtain ⟨e, C2, w1, w2, w3⟩ := ih i1 (t + 1) C1 K (by omega) (by omega) h2 (by rw [h3.at (by omega)]; exact h34)
          exact ⟨e, C2, by rw [whl_s h1]; exact w1, w2, h3.trans w3⟩
        have hk : kL q (kS 300 i t C) = (f_X6_endLoop (Int32.ofNat i) C).bind fun (v14, M14) => some (.inl (Int32.ofNat 300, v14, Int32.ofNat t + 1, M14)) := by
          unfold kL kS f_X6_carryOut_b18
          dsimp only
          rw [if_neg (show ¬ (6600 : Int32) ≤ Int32.ofNat t from nle (n := 6600) (by omega) (by omega)), if_neg (oN_nn (by omega)), h34, if_neg (nle hic (by omega)), ai_o (by omega) (by omega), bsome, h8, if_pos rfl]
        unfold f_X6_endLoop at hk
        rw [ai_o (by omega) (by omega), bsome, oN_S, oN_S] at hk
        by_cases hr : 0 ≤ mi C 5 i ∧ mi C 5 i < Int32.ofNat i
        · obtain ⟨x, x1, x2⟩ := (lt_oN (by omega)).mp hr
          rw [x2, if_neg (oN_nn (by omega)), if_pos ((oN_lt (by omega) (by omega)).mpr x1), ai_o (by omega) (by omega), bsome, wi_o (by omega) (by omega), bsome, ai_o (by omega) (by omega), bsome, bsome] at hk
          dsimp only at hk
          by_cases h9 : mi (sI C 7 x (mi C 7 x - 1)) 7 x ≤ 0
          · rw [if_pos h9] at hk
            exact go (i + 1) _ hk (by omega) (Om.sI rfl)
          · rw [if_neg h9, oN_S] at hk
            exact go (x + 1) _ hk (by omega) (Om.sI rfl)
        · have hk2 : kL q (kS 300 i t C) = some (.inl (kS 300 (i + 1) (t + 1) C)) := by
            rw [hk]
            by_cases h0 : mi C 5 i < 0
            · rw [if_pos h0]
              rfl
            · rw [if_neg h0, if_neg (fun z => hr ⟨nlt h0, z⟩)]
              rfl
          exact go (i + 1) C hk2 (by omega) Om.refl
      · refine ⟨_, C, whl_e ?_, Or.inl rfl, Om.refl⟩
        unfold kL kS f_X6_carryOut_b18
        dsimp only
        rw [if_neg (show ¬ (6600 : Int32) ≤ Int32.ofNat t from nle (n := 6600) (by omega) (by omega)), if_neg (oN_nn (by omega)), h34, if_neg (nle hic (by omega)), ai_o (by omega) (by omega), bsome, if_neg h8, if_pos (show Int32.ofNat 300 = 300 from rfl)]
    · refine ⟨_, C, whl_e ?_, Or.inr rfl, Om.refl⟩
      unfold kL kS f_X6_carryOut_b18
      dsimp only
      rw [if_neg (show ¬ (6600 : Int32) ≤ Int32.ofNat t from nle (n := 6600) (by omega) (by omega)), if_neg (oN_nn (by omega)), h34, if_pos ((oN_le (by omega) (by omega)).mpr (by omega))]
/-- a work carried out -/
theorem ex_all {ct : Nat} (hY : Y < 8000000) (hcc : mi C0 3 4 = Int32.ofNat cc) (hc2 : cc ≤ 200) (hct : ct ≤ 50) (hB : BlkM (tw T0) (th T0) C0 T0 ct 0 cc 0 ct) (hE : ER q C0 T0 Y 0 C T) : ∃ C' T' b', (whl fu (kL q) (kS 0 0 0 C)).bind (fun e15 => (match e15 with | .inl M15 => some M15 | .inr M15 => some M15)) = some C' ∧ f_X10_goes 0 (Int32.ofNat ct) T = some T' ∧ ER q C0 T0 Y b' C' T' ∧ b' ≤ 300 := by
  obtain ⟨T1, w1, C1, b1, t1, at1, w2, w3, w4, w5, w6, w7, -⟩ := ex_blk (q := q) hY hcc hc2 ct 0 cc 0 ct (by omega) hB (Nat.le_refl _) (by omega) C T 0 0 59 fu hE (by omega) (by omega) (by omega) (by show ct < 1000000; omega)
  have hg : f_X10_goes 0 (Int32.ofNat ct) T = some T1 := by
    show (whl fu (f_X10_goes_b2 (R_X10_goes 59) (Int32.ofNat ct)) (0, T)).bind (fun M33 => some M33) = _
    rw [show whl fu (f_X10_goes_b2 (R_X10_goes 59) (Int32.ofNat ct)) (0, T) = some T1 from w1, bsome]
  have hk := w2.2 (1000000 - t1)
  rw [show 1000000 - t1 + (t1 - 0) = 1000000 by omega] at hk
  have e34 : mi C1 3 4 = Int32.ofNat cc := w3.2.1.1.trans hcc
  have fin : ∀ e C9, whl (1000000 - t1) (kL q) (kS b1 at1 t1 C1) = some e → (e = .inl C9 ∨ e = .inr C9) → Om (fun a => a = 7) C1 C9 → ∃ C' T' b', (whl fu (kL q) (kS 0 0 0 C)).bind (fun e15 => (match e15 with | .inl M15 => some M15 | .inr M15 => some M15)) = some C' ∧ f_X10_goes 0 (Int32.ofNat ct) T = some T' ∧ ER q C0 T0 Y b' C' T' ∧ b' ≤ 300 := fun e C9 h1 h2 h3 => by
    refine ⟨C9, T1, b1, ?_, hg, ?_, w4.2⟩
    · rw [show whl fu (kL q) (kS 0 0 0 C) = some e from hk.trans h1, bsome]
      rcases h2 with rfl | rfl <;> rfl
    · obtain ⟨⟨a1, a2⟩, ⟨d1, d2⟩, x, ⟨f1, f2⟩, g1⟩ := w3
      have hn := ids_n x.1
      refine ⟨⟨a1.trans (h3.mono (fun a ha => Or.inr (Or.inl ha))), a2⟩, ⟨by rw [h3.at (by omega)]; exact d1, d2⟩, ?_, ⟨by rw [h3.at (by omega)]; exact f1, by rw [h3.at (by omega)]; exact f2⟩, g1⟩
      exact x.of h3 (S' := fun _ => False) Om.refl (fun a ha => by omega) (fun a ha => ha.elim) x.2.2.1 (x.2.2.2.frame (fun j hj => h3.at (by omega)))
  by_cases h300 : b1 = 300
  · subst h300
    obtain ⟨e, C9, v1, v2, v3⟩ := k_halt (q := q) hc2 (6600 - t1) at1 t1 C1 (1000000 - t1) (by omega) (by omega) w6 e34
    exact fin e C9 v1 v2 v3
  · have ea : at1 = cc := w7.resolve_right h300
    obtain ⟨K, hK⟩ : ∃ k, 1000000 - t1 = k + 1 := ⟨1000000 - t1 - 1, by omega⟩
    refine fin (.inr C1) C1 ?_ (Or.inr rfl) Om.refl
    rw [hK]
    refine whl_e ?_
    unfold kL kS f_X6_carryOut_b18
    dsimp only
    rw [if_neg (show ¬ (6600 : Int32) ≤ Int32.ofNat t1 from nle (n := 6600) (by omega) (by omega)), if_neg (oN_nn (by omega)), e34, if_pos ((oN_le (by omega) (by omega)).mpr (by omega))]
end SL9
