/-! level 3: a field: the pair -/
section FJ
variable {k : Nat} {M M2 : Mm} {q : Nat → Nat} {b : Nat → Int32} {C C' T T' N : Mm} {L p p0 p' a0 a2 n i j w h cl l l1 l2 : Nat} {f fa lo hi v s x : Int32} {r0 r : Nat → Int32}
def Wrap9 (P : Prop) : Prop := P
def qF (q : Nat → Nat) : Nat → Nat := fun t => [q 1, q 0, q 3, q 2, q 4, q 5, q 8, q 9, q 6, q 7, q 10].getD t 0
theorem ids_field (h : IDS M q) (hr : ∀ a j, mr C a j = if a = 0 ∧ j = 8 then some (q 2) else if a = 0 ∧ j = 7 then some (q 3) else if a = 0 ∧ j = 6 then some (q 0) else if a = 0 ∧ j = 5 then some (q 1) else mr M a j) : IDS C (qF q) := by
  obtain ⟨⟨i1, i2, i3, i4, i5, i6, i7⟩, ⟨j1, j2, j3, j4⟩, g1, g2, g3, g4, g5⟩ := h
  have o : ∀ a j, a ≠ 0 → mr C a j = mr M a j := fun a j ha => by rw [hr, if_neg (by omega), if_neg (by omega), if_neg (by omega), if_neg (by omega)]
  have d67 := g5 6 7 (by omega) (by omega) (by omega)
  have d68 := g5 6 8 (by omega) (by omega) (by omega)
  have d69 := g5 6 9 (by omega) (by omega) (by omega)
  have d610 := g5 6 10 (by omega) (by omega) (by omega)
  have d78 := g5 7 8 (by omega) (by omega) (by omega)
  have d79 := g5 7 9 (by omega) (by omega) (by omega)
  have d710 := g5 7 10 (by omega) (by omega) (by omega)
  have d89 := g5 8 9 (by omega) (by omega) (by omega)
  have d810 := g5 8 10 (by omega) (by omega) (by omega)
  have d910 := g5 9 10 (by omega) (by omega) (by omega)
  refine ⟨⟨?_, ?_, ?_, ?_, ?_, ?_, ?_⟩, ⟨?_, ?_, ?_, ?_⟩, ?_, ?_, ?_, fun s u1 u2 => ?_, fun s t u1 u2 u3 => ?_⟩
  · rw [hr, if_neg (by omega), if_neg (by omega), if_neg (by omega), if_pos ⟨rfl, rfl⟩]; rfl
  · rw [hr, if_neg (by omega), if_neg (by omega), if_pos ⟨rfl, rfl⟩]; rfl
  · rw [hr, if_neg (by omega), if_pos ⟨rfl, rfl⟩]; rfl
  · rw [hr, if_pos ⟨rfl, rfl⟩]; rfl
  · rw [hr, if_neg (by omega), if_neg (by omega), if_neg (by omega), if_neg (by omega)]; exact i5
  · rw [hr, if_neg (by omega), if_neg (by omega), if_neg (by omega), if_neg (by omega)]; exact i6
  · rw [hr, if_neg (by omega), if_neg (by omega), if_neg (by omega), if_neg (by omega)]; exact i7
  · show mr C (q 1) 1 = some (q 8)
    rw [o _ _ (by omega)]; exact j3
  · show mr C (q 1) 2 = some (q 9)
    rw [o _ _ (by omega)]; exact j4
  · show mr C (q 0) 1 = some (q 6)
    rw [o _ _ (by omega)]; exact j1
  · show mr C (q 0) 2 = some (q 7)
    rw [o _ _ (by omega)]; exact j2
  · show (q 1 = 28 ∧ q 0 = 38) ∨ (q 1 = 38 ∧ q 0 = 28)
    omega
  · show (q 3 = 48 ∧ q 2 = 56) ∨ (q 3 = 56 ∧ q 2 = 48)
    omega
  · exact g3
  · have h9 : s = 6 ∨ s = 7 ∨ s = 8 ∨ s = 9 ∨ s = 10 := by omega
    rcases h9 with rfl | rfl | rfl | rfl | rfl
    · exact g4 8 (by omega) (by omega)
    · exact g4 9 (by omega) (by omega)
    · exact g4 6 (by omega) (by omega)
    · exact g4 7 (by omega) (by omega)
    · exact g4 10 (by omega) (by omega)
  · have h9 : s = 6 ∨ s = 7 ∨ s = 8 ∨ s = 9 := by omega
    have h8 : t = 7 ∨ t = 8 ∨ t = 9 ∨ t = 10 := by omega
    rcases h9 with rfl | rfl | rfl | rfl <;> rcases h8 with rfl | rfl | rfl | rfl <;> first | (exfalso; omega) | exact d67 | exact d68 | exact d69 | exact d610 | exact d78 | exact d79 | exact d710 | exact d89 | exact d810 | exact d910 | exact d67.symm | exact d68.symm | exact d69.symm | exact d610.symm | exact d78.symm | exact d79.symm | exact d710.symm | exact d89.symm | exact d810.symm | exact d910.symm
theorem m_field_s {x : Int32} (hx : 0 ≤ x ∧ x ≤ mi N 76 1) : f_X10_field x N = (f_X10_starts x (sI N 76 0 0)).bind fun M5 => ((f_X10_tellsNothing M5).bind fun M6 => whl fu f_X10_field_b42 M6).bind fun M11 => f_X10_field_j71 M11 := by
  unfold f_X10_field
  rw [m_in, bsome, mi_sI_o (by omega), if_pos hx, if_neg z10, m_fine, bsome]
  dsimp only
  rw [if_pos z00]
  refine congrArg _ (funext fun M5 => ?_)
  cases f_X10_tellsNothing M5 with
  | none => exact rfl
  | some M6 => rw [bsome, bsome]
def swF (q : Nat → Nat) (C : Mm) : Mm := sR (sR (sR (sR C 0 5 (some (q 1))) 0 6 (some (q 0))) 0 7 (some (q 3))) 0 8 (some (q 2))
def enF9 (q : Nat → Nat) (X : Mm) : Mm := sI (sI (sI (sI X (q 4) 3 0) 8 3 0) 8 4 0) 0 12 0
theorem k_field_s {x : Int32} {O : Mm} (hop : f_X9_openText x 600 M = some (.inr (), O)) (e6 : rd O 0 6 = q 1) (e8 : rd O 0 8 = q 3) (k1 : f_X3_readField (q 1) (q 3) O = some C') (r5 : rd C' 0 5 = q 0) (r6 : rd C' 0 6 = q 1) (r7 : rd C' 0 7 = q 2) (r8 : rd C' 0 8 = q 3) (r9 : rd C' 0 9 = q 4) : f_X9_field x M = (f_X7_isFine C').bind fun v7 => (if v7 = 0 then some (.inr ((-10 : Int32) + (mi C' 1 5)), C') else some (.inr (mi (enF9 q (swF q C')) (rd (enF9 q (swF q C')) 0 7) 8), enF9 q (swF q C'))) := by
  have e7' : rd (sR (sR C' 0 5 (some (q 1))) 0 6 (some (q 0))) 0 7 = q 2 := by
    unfold rd
    rw [mr_sR, mr_sR, if_neg (by omega), if_neg (by omega)]
    exact r7
  have e8' : rd (sR (sR C' 0 5 (some (q 1))) 0 6 (some (q 0))) 0 8 = q 3 := by
    unfold rd
    rw [mr_sR, mr_sR, if_neg (by omega), if_neg (by omega)]
    exact r8
  have e9' : rd (swF q C') 0 9 = q 4 := by
    unfold swF rd
    rw [mr_sR, mr_sR, mr_sR, mr_sR, if_neg (by omega), if_neg (by omega), if_neg (by omega), if_neg (by omega)]
    exact r9
  unfold f_X9_field
  rw [hop, bsome]
  dsimp only
  rw [e6, e8, k1, bsome, r6, r5, e7', e8']
  refine congrArg _ (funext fun v7 => ?_)
  by_cases h0 : v7 = 0
  · rw [if_pos h0, if_pos h0]
  · rw [if_neg h0, if_neg h0, show sR (sR (sR (sR C' 0 5 (some (q 1))) 0 6 (some (q 0))) 0 7 (some (q 3))) 0 8 (some (q 2)) = swF q C' from rfl, e9']
    unfold f_X1_forget f_X5_forget
    rw [bsome, bsome, show sI (sI (sI (sI (swF q C') (q 4) 3 0) 8 3 0) 8 4 0) 0 12 0 = enF9 q (swF q C') from rfl]
theorem spC_fld {a : Nat} (ha : a = 1 ∨ (a = q 1 ∨ a = q 1 + 1 ∨ (q 3 ≤ a ∧ a ≤ q 3 + 7)) ∨ ((a = q 8 ∨ a = q 8 + 1) ∨ (a = q 9 ∨ a = q 9 + 1))) : spC q a := by
  unfold spC
  rcases ha with z | (z | z | z) | ((z | z) | (z | z))
  · exact Or.inl z
  · exact Or.inr (Or.inr (Or.inl z))
  · exact Or.inr (Or.inr (Or.inr (Or.inl z)))
  · exact Or.inr (Or.inr (Or.inr (Or.inr (Or.inl z))))
  · exact Or.inr (Or.inr (Or.inr (Or.inr (Or.inr (Or.inr (Or.inl z))))))
  · exact Or.inr (Or.inr (Or.inr (Or.inr (Or.inr (Or.inr (Or.inr (Or.inl z)))))))
  · exact Or.inr (Or.inr (Or.inr (Or.inr (Or.inr (Or.inr (Or.inr (Or.inr (Or.inl z))))))))
  · exact Or.inr (Or.inr (Or.inr (Or.inr (Or.inr (Or.inr (Or.inr (Or.inr (Or.inr (Or.inl z)))))))))
theorem spT_fld {a : Nat} (ha : a = 76 ∨ a = 79 ∨ a = 81 ∨ (84 ≤ a ∧ a ≤ 113)) : spT a := by
  unfold spT
  omega
theorem fld_ids (h : IDS M q) : (Wrap9 (q 1 = 28 ∨ q 1 = 38)) ∧ (28 ≤ q 1 ∧ q 1 ≤ 38) ∧ (Wrap9 (q 3 = 48 ∨ q 3 = 56)) ∧ (48 ≤ q 3 ∧ q 3 ≤ 56) ∧ (64 ≤ q 4 ∧ q 4 ≤ 68) ∧ isL (q 8) ∧ isL (q 9) := by
  obtain ⟨hg, hw9, hbk, hll, hdist⟩ := ids_all h
  refine ⟨?_, ?_, ?_, ?_, ?_, hll 8 (by omega) (by omega), hll 9 (by omega) (by omega)⟩
  · unfold Wrap9; omega
  · omega
  · unfold Wrap9; omega
  · omega
  · omega
theorem fld_lw {t : Nat} (ht : lw10 t) (h4 : 64 ≤ q 4 ∧ q 4 ≤ 68) : t < 76 ∧ t ≠ 0 ∧ t ≠ 8 ∧ t ≠ q 4 := by
  unfold lw10 at ht
  omega
theorem m_field_t {x v : Int32} {T0 T2 : Mm} (hx : 0 ≤ x ∧ x ≤ mi N 76 1) (s1 : f_X10_starts x (sI N 76 0 0) = some T0) (w2 : ((f_X10_tellsNothing T0).bind fun M6 => whl fu f_X10_field_b42 M6) = some T') (hf : mi T' 76 5 = 0) (d1 : f_X10_stands (sI T' 76 3 (-1)) = some T2) (e : mi T2 80 2 = v) : f_X10_field x N = some (v, T2) := by
  refine (m_field_s hx).trans ?_
  rw [s1, bsome, w2, bsome]
  unfold f_X10_field_j71
  rw [if_pos hf, d1, bsome, ai_2 (by omega), bsome, e]
theorem m_field_b {x : Int32} {T0 : Mm} (hx : 0 ≤ x ∧ x ≤ mi N 76 1) (s1 : f_X10_starts x (sI N 76 0 0) = some T0) (w2 : ((f_X10_tellsNothing T0).bind fun M6 => whl fu f_X10_field_b42 M6) = some T') (hf : mi T' 76 5 ≠ 0) : f_X10_field x N = some (-10 + mi T' 76 5, sI T' 76 3 (mi T' 76 6)) := by
  refine (m_field_s hx).trans ?_
  rw [s1, bsome, w2, bsome]
  unfold f_X10_field_j71 f_X10_ends
  rw [if_neg hf, bsome, mi_sI_o (by omega), Int32.sub_eq_add_neg, Int32.add_comm]
theorem nQ_r {v : Int64} : mr (nQ M v) = mr M := rfl
theorem nQ_1 {v : Int64} : (nQ M v).1 = M.1 := rfl
theorem sI_r {a : Nat} : mr (sI M a j v) = mr M := rfl
theorem sI_1 {a : Nat} : (sI M a j v).1 = M.1 := rfl
theorem sI_l {a : Nat} : ml (sI M a j v) = ml M := rfl
theorem d2_at {A B : Mm} {a : Nat} (d : Om (fun a => a = 76 ∨ a = 80 ∨ a = 82 ∨ a = 114 ∨ a = 196) A B) (h1 : a ≠ 76) (h4 : ¬ (84 ≤ a ∧ a ≤ 114)) (h5 : a ≠ 80) (h6 : a ≠ 82) (h7 : a ≠ 196) : mi B a = mi A a := d.at (fun z => by
  rcases z with z | z | z | z | z
  · exact h1 z
  · exact h5 z
  · exact h6 z
  · exact h4 ⟨by rw [z]; decide, by rw [z]; decide⟩
  · exact h7 z)
theorem w4_at {A B : Mm} {a : Nat} (w : FtR A B) (h1 : a ≠ 76) (h2 : a ≠ 79) (h3 : a ≠ 81) (h4 : ¬ (84 ≤ a ∧ a ≤ 114)) : mi B a = mi A a := w.1.at (fun z => by
  rcases z with z | z | z | z
  · exact h1 z
  · exact h2 z
  · exact h3 z
  · exact h4 ⟨z.1, Nat.le_succ_of_le z.2⟩)
theorem G_field (hI : INV k M) : ∀ x1 : Int32, GdI k (f_X9_field x1 M) (f_X10_field x1) 0 0 1 := by
  obtain ⟨⟨q, h⟩, r⟩ := id hI
  intro x
  obtain ⟨hg1, hq1, hw1, hq3, hq4, l8, l9⟩ := fld_ids h.1
  by_cases hx : opOk M x (Int32.ofNat 600)
  · obtain ⟨L, hL, rfl, hop⟩ := k_open (M := M) (lm := 600) (by omega) hx
    have hx2 := (m_opOk h).mp hx
    have e6 : rd (opM M L) 0 6 = q 1 := (rd_o op_O.1.2.2.2.2.1).trans (rd_of h.1.1.2.1)
    have e8 : rd (opM M L) 0 8 = q 3 := (rd_o op_O.1.2.2.2.2.1).trans (rd_of h.1.1.2.2.2.1)
    have er1 : rd (opM M L) (q 1) 1 = q 8 := (rd_o op_O.1.2.2.2.2.1).trans (rd_of h.1.2.1.2.2.1)
    have er2 : rd (opM M L) (q 1) 2 = q 9 := (rd_o op_O.1.2.2.2.2.1).trans (rd_of h.1.2.1.2.2.2)
    generalize hr0 : upto 415 (fun _ => (0 : Int32)) (mi M 196) = r0
    have hr : ∀ j, j < 415 → r0 j = 0 := fun j hj => by rw [← hr0, upto_lt hj]
    have both : ∀ N : Mm, mi N 77 = mi M 77 → ∃ T0, f_X10_starts (Int32.ofNat L) N = some T0 ∧ Om (fun a => a = 76) N T0 ∧ (∀ j, (j = 0 ∨ j = 3 ∨ 8 < j) → mi T0 76 j = mi N 76 j) ∧ mi T0 76 1 = 0 ∧ ∃ C' T', f_X3_readField (q 1) (q 3) (opM M L) = some C' ∧ ((f_X10_tellsNothing T0).bind fun M6 => whl fu f_X10_field_b42 M6) = some T' ∧ (Om (fun a => a = 1 ∨ (a = q 1 ∨ a = q 1 + 1 ∨ (q 3 ≤ a ∧ a ≤ q 3 + 7)) ∨ ((a = q 8 ∨ a = q 8 + 1) ∨ (a = q 9 ∨ a = q 9 + 1))) (opM M L) C' ∧ ∀ j, j < 3 → mi C' 1 j = mi (opM M L) 1 j) ∧ FtR T0 T' ∧ ((∃ p1 cl' n' w' h', TC (txt M) C' L p1 0 (-1) ∧ TT (txt M) T' L p1 0 (-1) ∧ FSt (q 1) (q 3) r0 cl' n' w' h' C' T' ∧ (mi C' (q 8) 3 = 3 ∧ mi C' (q 8 + 1) 0 = 1000 ∧ mi C' (q 8 + 1) 1 = 2 ∧ mi C' (q 8 + 1) 2 = -42) ∧ (mi C' (q 9) 3 = 1 ∧ mi C' (q 9 + 1) 0 = 0)) ∨ FL (txt M) C' T' L) := fun N e77 => by
      obtain ⟨T0, s1, s2, s3, s4, s5, s7, -⟩ := m_starts (b := txt M) (N := N) (L := L) txt_b (by omega) (fun i hi => by rw [e77]; exact (h.2.1.2.1 i hi).symm)
      exact ⟨T0, s1, s3, s4, s5, y_ftext txt_b hr hg1 hw1 l8 l9 ((ids_all h.1).2.2.2.2 8 9 (by omega) (by omega) (by omega)) er1 er2 (op_TC (by omega)) s2 s7⟩
    obtain ⟨-, -, -, -, -, C', Td, k1, -, k3, -, k5⟩ := both M rfl
    have oC : Om (fun a => a = 1 ∨ (a = q 1 ∨ a = q 1 + 1 ∨ (q 3 ≤ a ∧ a ≤ q 3 + 7)) ∨ ((a = q 8 ∨ a = q 8 + 1) ∨ (a = q 9 ∨ a = q 9 + 1))) M C' := (op_O.1.mono (fun a ha => Or.inl ha)).trans k3.1
    have rC' : mr C' = mr M := oC.2.2.2.2.1
    have c11 : mi C' 1 1 = 0 := (k3.2 1 (by omega)).trans op_O.2.1
    have r6 : rd C' 0 6 = q 1 := (rd_o rC').trans (rd_of h.1.1.2.1)
    have r5 : rd C' 0 5 = q 0 := (rd_o rC').trans h.g
    have nl : ∀ a, (a = q 8 ∨ a = q 8 + 1 ∨ a = q 9 ∨ a = q 9 + 1) → lw10 a := fun a ha => by
      rcases ha with ha | ha | ha | ha
      · exact lw_of l8 (Or.inl ha)
      · exact lw_of l8 (Or.inr ha)
      · exact lw_of l9 (Or.inl ha)
      · exact lw_of l9 (Or.inr ha)
    have oC2 : ∀ a, a ≠ 1 → a ≠ q 1 → a ≠ q 1 + 1 → ¬ (q 3 ≤ a ∧ a ≤ q 3 + 7) → ¬ lw10 a → mi C' a = mi M a := fun a h1 h2 h3 h4 h5 => oC.at (fun z => by
      rcases z with z | (z | z | z) | ((z | z) | (z | z))
      · exact h1 z
      · exact h2 z
      · exact h3 z
      · exact h4 z
      · exact h5 (nl a (Or.inl z))
      · exact h5 (nl a (Or.inr (Or.inl z)))
      · exact h5 (nl a (Or.inr (Or.inr (Or.inl z))))
      · exact h5 (nl a (Or.inr (Or.inr (Or.inr z)))))
    have hi76 : ∀ a, 76 ≤ a → mi C' a = mi M a := fun a ha => oC2 a (by omega) (by omega) (by omega) (by omega) (by unfold lw10; omega)
    generalize hX : swF q C' = X
    have mX : mi X = mi C' := by rw [← hX]; rfl
    have rX : ∀ a j, mr X a j = if a = 0 ∧ j = 8 then some (q 2) else if a = 0 ∧ j = 7 then some (q 3) else if a = 0 ∧ j = 6 then some (q 0) else if a = 0 ∧ j = 5 then some (q 1) else mr M a j := fun a j => by
      rw [← hX]
      unfold swF
      rw [mr_sR, mr_sR, mr_sR, mr_sR, rC']
    have xX : X.1 = M.1 := by rw [← hX]; exact oC.1
    have hcl1 : f_X9_field (Int32.ofNat L) M = (f_X7_isFine C').bind fun v7 => (if v7 = 0 then some (.inr ((-10 : Int32) + (mi C' 1 5)), C') else some (.inr (mi (enF9 q X) (rd (enF9 q X) 0 7) 8), enF9 q X)) := by
      rw [← hX]
      exact k_field_s hop e6 e8 k1 r5 r6 ((rd_o rC').trans (rd_of h.1.1.2.2.1)) ((rd_o rC').trans (rd_of h.1.1.2.2.2.1)) ((rd_o rC').trans h.b)
    rcases k5 with ⟨p1, cl', n, w, h', nt, -, nF, nl1, nl2⟩ | ⟨f9, fa9, p9, p8, hf, u1, u2⟩
    · -- told
      rw [k_fine nt, bsome, if_pos rfl, if_neg z10] at hcl1
      generalize hM1 : enF9 q X = M1 at hcl1
      unfold enF9 at hM1
      have rM1 : mr M1 = mr X := by rw [← hM1]; rfl
      have r17 : rd M1 0 7 = q 3 := by
        unfold rd
        rw [rM1, rX, if_neg (by omega), if_pos ⟨rfl, rfl⟩]
        rfl
      have eM1 : ∀ a, a ≠ 0 → a ≠ 8 → a ≠ q 4 → mi M1 a = mi C' a := fun a h1 h2 h3 => by rw [← hM1, mi_sI_ne h1, mi_sI_ne h2, mi_sI_ne h2, mi_sI_ne h3, mX]
      have x1 : M1.1 = M.1 := by rw [← hM1]; exact xX
      have hr30 := nF.2.2.2.1.1
      have hVn9 := rwT_vr hr nF.1.1 n (by omega) nF.2.2.2.2.1
      have v8 : mi M1 (q 3) 8 = Int32.ofNat n := by
        rw [eM1 _ (by omega) (by omega) (by omega), nF.2.2.2.2.2.1.1.1, hVn9.1.n, hVn9.2.1]
      rw [r17, v8] at hcl1
      obtain ⟨T0, s1, s2, s3, s4, C9, T', w1, w2, w3, w4, w5⟩ := both (nQ M1 (Int32.ofNat n).toInt64) (by rw [nQ_o (by omega), eM1 77 (by omega) (by omega) (by omega), hi76 77 (by omega)])
      have hCC : C9 = C' := Option.some.inj (w1.symm.trans k1)
      subst hCC
      rcases w5 with ⟨p2, cl2, n2, w2', h2', mt, mt2, mF, -, -⟩ | ⟨f9, fa9, p9, p8, hf, u1, u2⟩
      · have hVn := rwT_vr hr mF.1.1 n2 (by have := mF.2.2.2.1.1; omega) mF.2.2.2.2.1
        have hnn : n2 = n := by
          have a1 := nF.2.2.2.2.2.1.1.1
          have a2 := mF.2.2.2.2.2.1.1.1
          rw [hVn9.1.n, hVn9.2.1] at a1
          rw [hVn.1.n, hVn.2.1, a1] at a2
          have := mF.2.2.2.1.1
          exact ((oN_eq (by omega) (by omega)).mp a2).symm
        subst hnn
        have sF : FSt (q 1) (q 3) r0 cl2 n2 w2' h2' C9 (sI T' 76 3 (-1)) := mF.of (fun _ _ => rfl) (fun a ha => mi_sI_ne (by omega)) (mi_sI_o (by omega))
        obtain ⟨T2, d1, d2, d3, d4, d5, d6, d7⟩ := m_stands (r0 := r0) (by rw [mi_sI_ne (by omega), w4.1.at (by omega), s2.at (by omega), nQ_o (by omega), eM1 196 (by omega) (by omega) (by omega), hi76 196 (by omega), hr0]) sF
        have e802 : mi T2 80 2 = Int32.ofNat n2 := by rw [d3 2 (by omega)]; exact sF.1.2.1.2.2
        have hm9 : f_X10_field (Int32.ofNat L) (sL M1 275 0 (Int32.ofNat n2).toInt64) = some (Int32.ofNat n2, T2) := by
          have e91 : mi (sL M1 275 0 (Int32.ofNat n2).toInt64) 76 1 = mi M 76 1 := by
            rw [mi_sL, eM1 76 (by omega) (by omega) (by omega), hi76 76 (by omega)]
          exact m_field_t (by rw [e91]; exact hx2.1) s1 w2 mt2.1.2.2.2.2.1 d1 e802
        -- the reference's part elsewhere
        have oT : ∀ a, a ≠ 76 → a ≠ 79 → a ≠ 81 → ¬ (84 ≤ a ∧ a ≤ 114) → a ≠ 80 → a ≠ 82 → a ≠ 196 → mi T2 a = mi M1 a := fun a h1 h2 h3 h4 h5 h6 h7 => by rw [d2_at d2 h1 h4 h5 h6 h7, mi_sI_ne h1, w4_at w4 h1 h2 h3 h4, s2.at h1, nQ_o h1]
        have eC : ∀ a, a < 76 → a ≠ 0 → a ≠ 8 → a ≠ q 4 → mi T2 a = mi C9 a := fun a h1 h2 h3 h4 => by rw [oT a (by omega) (by omega) (by omega) (by omega) (by omega) (by omega) (by omega), eM1 a h2 h3 h4]
        have eH : ∀ a, 76 < a → a ≠ 79 → a ≠ 81 → ¬ (84 ≤ a ∧ a ≤ 114) → a ≠ 80 → a ≠ 82 → a ≠ 196 → mi T2 a = mi M a := fun a h1 h2 h3 h4 h5 h6 h7 => by rw [oT a (by omega) h2 h3 h4 h5 h6 h7, eM1 a (by omega) (by omega) (by omega), hi76 a (by omega)]
        have e76 : ∀ j, (j = 0 ∨ j = 1 ∨ j = 3 ∨ (30 ≤ j ∧ j ≤ 33)) → mi T2 76 j = if 30 ≤ j then 0 else if j = 3 then -1 else if j = 1 then 0 else mi (nQ M1 (Int32.ofNat n2).toInt64) 76 j := fun j hj => by
          rw [d7]
          rcases hj with rfl | rfl | rfl | hj
          · rw [if_neg (by omega), if_neg (by omega), if_neg (by omega), if_neg (by omega), if_neg (by omega), if_neg (by omega), if_neg (by omega), mi_sI_o (by omega), w4.2 0 (by omega), s3 0 (by omega)]
          · rw [if_neg (by omega), if_neg (by omega), if_neg (by omega), if_neg (by omega), if_neg (by omega), if_neg (by omega), if_pos rfl, mi_sI_o (by omega), w4.2 1 (by omega)]
            exact s4
          · rw [if_neg (by omega), if_neg (by omega), if_neg (by omega), if_neg (by omega), if_neg (by omega), if_pos rfl, mi_sI_k]
          · rw [if_pos (show 30 ≤ j by omega)]
            have h9 : j = 30 ∨ j = 31 ∨ j = 32 ∨ j = 33 := by omega
            rcases h9 with rfl | rfl | rfl | rfl <;> rfl
        have hr2 : mr T2 = mr M1 := by
          rw [d2.2.2.2.2.1, sI_r, w4.1.2.2.2.2.1, s2.2.2.2.2.1, nQ_r]
        have hz2 : T2.1 = M.1 := by
          rw [d2.1, sI_1, w4.1.1, s2.1, nQ_1, x1]
        have et : tw T2 = w2' ∧ th T2 = h2' := by
          have hw := mF.1.1
          unfold tw th
          rw [d3 0 (by omega), d3 1 (by omega), sF.1.2.1.1, sF.1.2.1.2.1]
          exact ⟨oN_nat (by omega), oN_nat (by omega)⟩
        have eLw : ∀ t, (t = q 8 ∨ t = q 8 + 1 ∨ t = q 9 ∨ t = q 9 + 1) → mi T2 t = mi C9 t := fun t ht => by
          have := fld_lw (nl t ht) hq4
          exact eC t this.1 this.2.1 this.2.2.1 this.2.2.2
        refine Or.inr ⟨Int32.ofNat n2, M1, T2, hcl1, hm9, ?_, ?_, ⟨qF q, ?_⟩, ?_⟩
        · rw [e76 0 (by omega), if_neg (by omega), if_neg (by omega), if_neg (by omega)]; exact nQ_t
        · rw [d2.2.2.2.1, sI_l, w4.1.2.2.2.1, s2.2.2.2.1]; exact nQ_out
        · have hid := ids_field (C := T2) h.1 (fun a j => by rw [hr2, rM1]; exact rX a j)
          refine ⟨hid, ⟨⟨0, by omega, ?_, ?_⟩, fun t ht => ?_, ?_⟩, ?_, ?_, ?_, ?_, ⟨⟨0, by omega, ?_, ?_, fun i hi => by omega⟩, ⟨0, by omega, ?_, ?_, fun i hi => by omega⟩⟩, ⟨0, by omega, ?_, ?_, fun i hi => by omega⟩, ?_⟩
          · rw [eC 1 (by omega) (by omega) (by omega) (by omega)]; exact c11
          · rw [e76 1 (by omega), if_neg (by omega), if_neg (by omega), if_pos rfl]; rfl
          · rw [eC 2 (by omega) (by omega) (by omega) (by omega), eH 77 (by omega) (by omega) (by omega) (by omega) (by omega) (by omega) (by omega), oC2 2 (by omega) (by omega) (by omega) (by omega) (by unfold lw10; omega)]
            exact h.2.1.2.1 t ht
          · rw [eC 1 (by omega) (by omega) (by omega) (by omega), mt.1.2.2.2.2.2, e76 3 (by omega), if_neg (by omega), if_pos rfl]
          · -- the ground
            show RGd T2 T2 (q 1)
            obtain ⟨a1, a2, a3, -⟩ := sF
            have g0 : ∀ j, mi T2 (q 1) j = mi C9 (q 1) j := fun j => by rw [eC _ (by omega) (by omega) (by omega) (by omega)]
            have p3 := a2 0 (by omega)
            have p4 := a2 1 (by omega)
            have p5 := a2 2 (by omega)
            have p6 := a2 3 (by omega)
            have p7 := a2 4 (by omega)
            have p8 := a2 5 (by omega)
            have p9 := a2 6 (by omega)
            refine ⟨⟨?_, ?_, ?_, ?_, ?_, ?_, ?_, ?_, ?_⟩, ⟨?_, ?_, ?_, ?_, ?_, ?_, ?_, ?_, ?_⟩, fun c hc => ?_⟩
            · rw [et.1, d3 0 (by omega)]; exact ⟨a1.1.1.1, a1.1.1.2, a1.2.1.1⟩
            · rw [et.2, d3 1 (by omega)]; exact ⟨a1.1.2.1, a1.1.2.2, a1.2.1.2.1⟩
            · rw [d3 3 (by omega)]; exact p3.2
            · rw [d3 4 (by omega)]; exact p4.2
            · rw [d3 5 (by omega)]; exact p5.2
            · rw [d3 6 (by omega)]; exact p6.2
            · rw [d3 7 (by omega)]; exact p7.2
            · rw [d3 8 (by omega)]; exact p8.2
            · rw [d3 9 (by omega)]; exact p9.2
            · rw [g0, d3 0 (by omega), a1.2.1.1]; exact a1.2.2.1
            · rw [g0, d3 1 (by omega), a1.2.1.2.1]; exact a1.2.2.2
            · rw [g0, d3 3 (by omega)]; exact p3.1
            · rw [g0, d3 4 (by omega)]; exact p4.1
            · rw [g0, d3 5 (by omega)]; exact p5.1
            · rw [g0, d3 6 (by omega)]; exact p6.1
            · rw [g0, d3 7 (by omega)]; exact p7.1
            · rw [g0, d3 8 (by omega)]; exact p8.1
            · rw [g0, d3 9 (by omega)]; exact p9.1
            · rw [eC _ (by omega) (by omega) (by omega) (by omega), d4 c hc]
              exact a3 c hc
          · show RLaw T2 T2 (q 8) 0
            refine Or.inl ⟨d6.1, Or.inl ⟨rfl, ?_, ?_, ?_, ?_⟩⟩
            · rw [eLw _ (by omega)]; exact nl1.1
            · rw [eLw _ (by omega)]; exact nl1.2.1
            · rw [eLw _ (by omega)]; exact nl1.2.2.1
            · rw [eLw _ (by omega)]; exact nl1.2.2.2
          · show RLaw T2 T2 (q 9) 1
            refine Or.inl ⟨d6.2, Or.inr ⟨rfl, ?_, ?_⟩⟩
            · rw [eLw _ (by omega)]; exact nl2.1
            · rw [eLw _ (by omega)]; exact nl2.2
          · show RWd T2 T2 (q 3)
            unfold RWd
            rw [et.1, et.2, d5]
            have hVs := rwT_vr hr sF.1.1 n2 (by omega) sF.2.2.2.2.1
            exact ⟨hVs.1, sF.2.2.2.2.2.frame (fun j hj => eC _ (by omega) (by omega) (by omega) (by omega))⟩
          · rw [oT 8 (by omega) (by omega) (by omega) (by omega) (by omega) (by omega) (by omega), ← hM1, mi_sI_ne (by omega), mi_sI_o (by omega), mi_sI_k]; rfl
          · rw [e76 31 (by omega), if_pos (by omega)]; rfl
          · rw [oT 8 (by omega) (by omega) (by omega) (by omega) (by omega) (by omega) (by omega), ← hM1, mi_sI_ne (by omega), mi_sI_k]; rfl
          · rw [e76 33 (by omega), if_pos (by omega)]; rfl
          · show mi T2 (q 4) 3 = _
            rw [oT _ (by omega) (by omega) (by omega) (by omega) (by omega) (by omega) (by omega), ← hM1, mi_sI_ne (by omega), mi_sI_ne (by omega), mi_sI_ne (by omega), mi_sI_k]; rfl
          · rw [e76 30 (by omega), if_pos (by omega)]; rfl
          · obtain ⟨c1, c2, c3', c4⟩ := h.2.2.2.2.2.2.2.2
            have e0 : ∀ j, mi T2 0 j = if j = 12 then 0 else mi M 0 j := fun j => by
              rw [oT 0 (by omega) (by omega) (by omega) (by omega) (by omega) (by omega) (by omega), ← hM1, mi_sI, u1_at, mi_sI_ne (by omega), mi_sI_ne (by omega), mi_sI_ne (by omega), mX, oC2 0 (by omega) (by omega) (by omega) (by omega) (by unfold lw10; omega)]
            unfold Rc
            rw [e0, e0, e0, e0, eH 78 (by omega) (by omega) (by omega) (by omega) (by omega) (by omega) (by omega), e76 32 (by omega), if_pos (by omega)]
            exact ⟨rfl, c2, c3', c4⟩
        · unfold RM zX zS zN at r ⊢
          rw [hz2]
          refine ⟨r.1, Nat.le_succ_of_le r.2.1, r.2.2.1, fun a j hj => ?_⟩
          by_cases ha : a = 196
          · subst ha
            have : j = 363 := by unfold yj at hj; omega
            subst this
            rw [d5, (rwT_vr hr sF.1.1 n2 (by omega) sF.2.2.2.2.1).2.2 363 (by omega), hr 363 (by omega)]
            exact ⟨0, by omega, by omega, rfl⟩
          · have h9 : yr9 a := by
              unfold yj at hj
              unfold yr9
              omega
            have h8 : 199 ≤ a := by unfold yr9 at h9; omega
            rw [eH a (by omega) (by omega) (by omega) (by omega) (by omega) (by omega) ha]
            exact r.2.2.2.up a j hj
      · exact absurd (u1.1.2.2.2.2.1.symm.trans nt.1.2.2.2.2.1) hf
    · -- a fault
      rw [k_fine u1, bsome, if_neg hf, if_pos z00, u1.1.2.2.2.2.1] at hcl1
      obtain ⟨T0, s1, s2, s3, s4, C9, T', w1, w2, w3, w4, w5⟩ := both (nQ C' (-10 + f9).toInt64) (by rw [nQ_o (by omega), hi76 77 (by omega)])
      have hCC : C9 = C' := Option.some.inj (w1.symm.trans k1)
      subst hCC
      rcases w5 with ⟨p2, cl2, n2, w2', h2', mt, -⟩ | ⟨f8, fa8, p7, p6, hf8, v1, v2⟩
      · exact absurd (u1.1.2.2.2.2.1.symm.trans mt.1.2.2.2.2.1) hf
      · have ef : f8 = f9 := v1.1.2.2.2.2.1.symm.trans u1.1.2.2.2.2.1
        subst ef
        have hm9 : f_X10_field (Int32.ofNat L) (sL C9 275 0 (-10 + f8).toInt64) = some (-10 + f8, sI T' 76 3 (mi T' 76 6)) := by
          have e91 : mi (sL C9 275 0 (-10 + f8).toInt64) 76 1 = mi M 76 1 := by
            rw [mi_sL, hi76 76 (by omega)]
          have := m_field_b (by rw [e91]; exact hx2.1) s1 w2 (by rw [v2.1.2.2.2.2.1]; exact hf8)
          rw [v2.1.2.2.2.2.1] at this
          exact this
        refine gd_bad (Sc := fun a => a = 1 ∨ (a = q 1 ∨ a = q 1 + 1 ∨ (q 3 ≤ a ∧ a ≤ q 3 + 7)) ∨ ((a = q 8 ∨ a = q 8 + 1) ∨ (a = q 9 ∨ a = q 9 + 1))) (St := fun a => a = 76 ∨ a = 79 ∨ a = 81 ∨ (84 ≤ a ∧ a ≤ 113)) (v := -10 + f8) h r oC (fun a ha => spC_fld ha) c11 (om_si ((s2.mono (fun a ha => Or.inl ha)).trans w4.1) (Or.inl rfl)) (fun a ha => spT_fld ha) (Or.inl rfl) ?_ ?_ ?_ (fun j hj => ?_) hcl1 hm9
        · rw [mi_sI_o (by omega), w4.2 0 (by omega), s3 0 (by omega)]; exact nQ_t
        · rw [mi_sI_o (by omega), w4.2 1 (by omega)]; exact s4
        · rw [mi_sI_k, v2.1.2.2.2.2.2, v1.1.2.2.2.2.2]
        · rw [mi_sI_o (by omega), w4.2 j (by omega), s3 j (by omega), nQ_76 (by omega)]
  · have hcl : f_X9_field x M = some (.inl 2, eRef M 2) := by
      unfold f_X9_field
      rw [show (600 : Int32) = Int32.ofNat 600 from rfl, k_open_n hx, bsome]
    refine gd_r2 (b := 0) hI (by decide) hcl ?_
    have e76 : mi (sI (eRef M 2) 76 0 0) 76 1 = mi M 76 1 := by
      rw [mi_sI_o (by omega)]
      unfold eRef
      rw [mi_sX, mi_sI_ne (by omega)]
    have hx2 : ¬ (0 ≤ x ∧ x ≤ mi M 76 1) := fun z => hx ((m_opOk h).mpr ⟨z, by
      obtain ⟨n, n1, -, n3⟩ := h.2.1.1
      rw [n3] at z
      exact Int32.le_trans z.2 ((oN_le (by omega) (by omega)).mpr n1)⟩)
    unfold f_X10_field
    rw [m_in, bsome, e76, if_neg hx2, if_pos rfl, m_r2 1 (by decide), bsome]
    dsimp only
    rw [if_neg z10]
end FJ
