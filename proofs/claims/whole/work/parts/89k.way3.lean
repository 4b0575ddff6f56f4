/-! level 3: the way: the pair -/
section WC
variable {k : Nat} {M : Mm} {q : Nat → Nat}
theorem G_way (hI : INV k M) : ∀ x1 : Int32, GdJ k (f_X9_way x1 M) (f_X10_way x1) 0 0 1 := by
  obtain ⟨⟨q, h⟩, r⟩ := id hI
  intro x
  have harg : f_X9_way x M = if (0 : Int32) ≤ x ∧ x ≤ 1 then f_X9_way_j15 x 1 M else f_X9_way_j15 x 0 M := by
    unfold f_X9_way f_X9_way_j10
    by_cases h0 : x = 0
    · rw [if_pos h0, if_pos (in01.mpr (Or.inl h0))]
    · rw [if_neg h0]
      by_cases h1 : x = 1
      · rw [if_pos h1, if_pos (in01.mpr (Or.inr h1))]
      · rw [if_neg h1, if_neg (fun p => (in01.mp p).elim h0 h1)]
  rw [harg]
  by_cases hc : (0 : Int32) ≤ x ∧ x ≤ 1
  · rw [if_pos hc]
    obtain ⟨z, -, z2, rfl⟩ := (in_nat (lo := 0) (hi := 1) (by omega) (by omega)).mp hc
    have t1 := h.gd.1.1
    have t2 := h.gd.1.2.1
    have hm := rwM_lt h.wd.1 (rN (mi M 196)) (Nat.le_refl _)
    have h64 := rwM_64 h.wd.1 (i := rN (mi M 196)) (Nat.le_refl _)
    generalize hmm : rwM (mi M 196) (rN (mi M 196)) = m at hm h64
    obtain ⟨c1, c2, -⟩ := wyS_cl (w := tw M) h64 6 (by omega)
    obtain ⟨s1, s2, -, -⟩ := wp_sum m h64 6 (by omega)
    have e0 := hi_6 m h64
    rw [e0, wy_z.1] at s1
    rw [e0, wy_z.2] at s2
    have hK : (wyS (tw M) m 6).1 + (wyS (tw M) m 6).2.2.1 = LBw (tw M) m 0 0 := by
      unfold LBw
      rw [c1, c2, show popW (m % 2 ^ 6) = popW m by omega, show topW (m % 2 ^ 6) = topW m by omega]
      omega
    generalize hC1 : sL (sL (sL M 13 0 (mi M 80 7 * Int32.ofNat (LBw (tw M) m 0 0)).toInt64) 13 1 (wyS (tw M) m 6).2.1) 13 2 0 = C'
    have hcl : f_X0_planWay (q 0) (q 2) M = some C' := by
      unfold f_X0_planWay
      rw [k_rowsAsked h.wd.1 h.wd.2.1, hmm, bsome, h.gd.2.1.1, t1.2.2, oN_pred (by omega) (by omega), k_wayL h64 rfl ⟨t1.1, t1.2.1⟩ rfl, bsome]
      dsimp only
      rw [oN_A, hK, h.gd.2.1.2.2.2.2.2.2.1, k_settle, bsome, hC1]
    have p2 : Oml (fun a => a = 13) M C' := by rw [← hC1]; exact setO rfl
    have s13 : ∀ a, a = 13 → frC q a ∧ frT a := fun a ha => frC_of h.1 (by omega)
    have h' : RR C' C' q := h.oml p2 p2 (fun a ha => (s13 a ha).1) (fun a ha => (s13 a ha).2)
    have hq0 : TQ M C' := p2.tq (fun a ha => (s13 a ha).2)
    have hn : ∀ v : Int64, ∃ M2, f_X10_way (Int32.ofNat z) (sL C' 275 0 v) = some (if z = 0 then (mi M 80 7 * Int32.ofNat (LBw (tw M) m 0 0)).toInt64 else (wyS (tw M) m 6).2.1, M2) ∧ WF (nQ C' v) M2 := fun v => by
      have hqv : TQ M (nQ C' v) := hq0.trans TQ.nQ
      have e1 : mi (nQ C' v) 196 = mi M 196 := (nQ_o (by omega)).trans (p2.at (by omega))
      have hV1 := vr_nQ (v := v) h'
      have w0 : WF (nQ C' v) (sI (nQ C' v) 76 38 (-1)) := ⟨oml_si Oml.refl rfl, fun j hj => mi_sI_o hj⟩
      have hE : wEnv (sI (nQ C' v) 76 38 (-1)) (tw M) (th M) := by
        unfold wEnv
        rw [mi_sI_ne (by omega), hqv.1]
        exact ⟨t1, t2⟩
      obtain ⟨M2, g1, g2, g3, g4⟩ := way_B (w := tw M) (h := th M) hm ⟨t1.1, t1.2.1⟩ ⟨t2.1, t2.2.1⟩ 6 0 60 (by omega) (by rw [hi_0 m h64]; have := wy_pt m h64; omega) (sI (nQ C' v) 76 38 (-1)) hE (Or.inl mi_sI_k)
      rw [hi_0 m h64] at g1
      have g1' : R_X10_ways 60 0 (Int32.ofNat m) 0 0 0 0 (sI (nQ C' v) 76 38 (-1)) = some M2 := g1
      have a7 : ai M2 80 10 7 = some (mi M2 80 7) := ai_o (i := 7) (by omega) (by omega)
      have e80 : mi M2 80 = mi M 80 := by rw [(w0.trans g2).e80, hqv.1]
      refine ⟨M2, ?_, w0.trans g2⟩
      unfold f_X10_way f_X10_ways
      rw [m_in, bsome, if_pos hc, if_neg z10, m_fine, bsome]
      dsimp only
      rw [if_pos z00, nQ_def, m_rows hV1, e1, hmm, bsome, g1', bsome]
      by_cases h0 : z = 0
      · rw [if_pos (show Int32.ofNat z = 0 by rw [h0]; rfl), a7, bsome, g3, if_pos h0, e80]
      · rw [if_neg (show ¬ Int32.ofNat z = 0 from fun e => h0 ((oN_eq (i := z) (j := 0) (by omega) (by omega)).mp e)), g4, if_neg h0]
    generalize hv : (if z = 0 then (mi M 80 7 * Int32.ofNat (LBw (tw M) m 0 0)).toInt64 else (wyS (tw M) m 6).2.1) = v at hn
    obtain ⟨M2, n1, n2⟩ := hn v
    refine gd_76J (S := fun a => a = 13) (v := v) h r p2 (n2.1.mono (fun a ha => by unfold mrG; omega)) (fun j hj => n2.2 j (by omega)) s13 ?_ n1
    unfold f_X9_way_j15
    rw [needA1, bsome]
    dsimp only
    rw [h.g, h.w, hcl, bsome]
    have ans : ml C' 13 z = v := by
      rw [← hv, ← hC1]
      have z3 : z = 0 ∨ z = 1 := by omega
      rcases z3 with rfl | rfl
      · rw [set0, if_pos rfl]
      · rw [set1, if_neg (by decide)]
    rw [show f_X0_answerTo (Int32.ofNat z) C' = some (ml C' 13 z) from k_answer (i := z) (by omega), bsome, ans]
  · rw [if_neg hc]
    unfold f_X9_way_j15
    rw [needA0, bsome]
    refine gd_r2J (b := 0) hI (by decide) rfl ?_
    unfold f_X10_way
    rw [m_in, bsome, if_neg hc, if_pos z00, m_r2 1 (by decide), bsome]
    rfl
end WC
