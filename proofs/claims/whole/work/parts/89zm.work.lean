/-! level 3: work: the pair -/
section SM9
variable {k : Nat} {M M2 : Mm} {q : Nat → Nat} {b : Nat → Int32} {C C' T T' N : Mm} {L p n cc ct : Nat} {f fa : Int32}
theorem w_run {C1 T1 : Mm} (h : RR M M q) (hy : YB k M) (hk : k ≤ 600) (hn8 : mi M 8 3 = Int32.ofNat n) (hn20 : n < 20) (oC : Om (fun a => a = 1 ∨ (3 ≤ a ∧ a ≤ 6)) M C1) (oT : ∀ a, (a = 80 ∨ a = 82 ∨ a = 114 ∨ a = 118 ∨ a = 119 ∨ a = 196) → mi T1 a = mi M a) (e31 : mi T1 76 31 = Int32.ofNat n) (ef : mi T1 76 5 = 0) (ecc : mi C1 3 4 = Int32.ofNat cc) (ect : mi T1 76 25 = Int32.ofNat ct) (hcc : 2 * cc ≤ 200 ∧ 4 * ct ≤ 200) (hB : BlkM (tw M) (th M) C1 T1 ct 0 cc 0 ct) :
    ∃ C3 C5 T5, (f_X5_keepWork (q 2) C1 = some C3 ∧ mr C3 = mr C1 ∧ f_X6_carryOut (q 0) (q 2) C3 = some C5) ∧ f_X10_work_j101 T1 = some (mi T5 76 36, T5) ∧ (Om (fun a => (3 ≤ a ∧ a ≤ 9) ∨ Sc9 q a) C1 C5 ∧ Om (fun a => a = 76 ∨ a = 199 + n ∨ St9 a) T1 T5) ∧ (∀ j, mi C5 8 j = if j = 3 then Int32.ofNat (n + 1) else mi M 8 j) ∧ (RB (fun t => mi C5 9 (393 * n + t)) (mi M 196) ∧ ∀ i, i < 393 * n → mi C5 9 i = mi M 9 i) ∧ ((∀ j, j < 415 → mi T5 (199 + n) j = mi M 196 j) ∧ mi T5 76 31 = Int32.ofNat (n + 1) ∧ mi T5 76 3 = -1 ∧ ∀ j, j ≠ 3 → j ≠ 31 → j ≠ 32 → j ≠ 35 → j ≠ 36 → mi T5 76 j = mi T1 76 j) ∧ XCr q C5 T5 ∧ (mi C5 3 5 = mi T5 76 36 ∧ mi C5 3 6 = mi T5 76 32) ∧ rg (mi T5 196 363) 0 (300 * (k + 1)) := by
  have hn := ids_n h.1
  have e8 : mi C1 8 = mi M 8 := oC.at (by omega)
  have l9 : LN 9 = 7860 := by decide
  have hfull : f_X5_isFull C1 = some 0 := by
    unfold f_X5_isFull g_X5_isFull
    rw [e8, hn8, if_pos (show Int32.ofNat n < 20 from (oN_lt (j := 20) (by omega) (by omega)).mpr hn20)]
    rfl
  obtain ⟨C2, p1, o2, p3, p4⟩ := k_writeTo (C := C1) (a := q 2) (b := 9) (o := n * 393) (by omega) (by rw [l9]; omega) (by rw [l9]; omega)
  have hkeep : f_X5_keepWork (q 2) C1 = some (sI C2 8 3 (Int32.ofNat (n + 1))) := by
    unfold f_X5_keepWork
    rw [hfull, bsome, if_pos rfl, e8, hn8, show Int32.ofNat n * 393 = Int32.ofNat (n * 393) from (Int32.ofNat_mul n 393).symm, p1, bsome, o2.at (by omega), e8, hn8, oN_S]
  generalize hC3 : sI C2 8 3 (Int32.ofNat (n + 1)) = C3 at hkeep
  have o3 : Om (fun a => a = 8 ∨ a = 9) C1 C3 := by rw [← hC3]; exact om_si (o2.mono (fun a ha => Or.inr ha)) (Or.inl rfl)
  generalize hC4 : sI (sI C3 3 5 0) 3 6 0 = C4
  have o4 : Om (fun a => a = 3 ∨ a = 8 ∨ a = 9) C1 C4 := by rw [← hC4]; exact om_si (om_si (o3.mono (fun a ha => Or.inr ha)) (Or.inl rfl)) (Or.inl rfl)
  have c34 : mi C4 3 4 = Int32.ofNat cc := by rw [← hC4, mi_sI_o (by omega), mi_sI_o (by omega), o3.at (by omega)]; exact ecc
  have lq : LN (199 + n) = 415 := (by decide : ∀ i, i < 20 → LN (199 + i) = 415) n hn20
  generalize hT3 : sA (sI T1 76 3 (-1)) (199 + n) (upto 415 (mi (sI T1 76 3 (-1)) 196) (mi (sI T1 76 3 (-1)) (199 + n))) = T3
  have hcop : f_X10_copies 196 (199 + n) (sI T1 76 3 (-1)) = some T3 := by rw [m_copies LN196 lq (by omega), hT3]
  generalize hT4 : sI (sI (sI (sI T3 76 31 (Int32.ofNat (n + 1))) 76 35 0) 76 36 0) 76 32 0 = T4
  have ot4 : Om (fun a => a = 76 ∨ a = 199 + n) T1 T4 := by
    rw [← hT4, ← hT3]
    exact om_si (om_si (om_si (om_si ((Om.sI (Or.inl rfl)).trans (Om.sA (Or.inr rfl))) (Or.inl rfl)) (Or.inl rfl)) (Or.inl rfl)) (Or.inl rfl)
  have g76 : ∀ j, mi T4 76 j = if j = 32 then 0 else if j = 36 then 0 else if j = 35 then 0 else if j = 31 then Int32.ofNat (n + 1) else if j = 3 then -1 else mi T1 76 j := fun j => by
    rw [← hT4, mi_sI, u1_at, mi_sI, u1_at, mi_sI, u1_at, mi_sI, u1_at, ← hT3, mi_sA_ne (by omega), mi_sI, u1_at]
  have g199 : ∀ j, j < 415 → mi T4 (199 + n) j = mi M 196 j := fun j hj => by
    rw [← hT4, mi_sI_ne (by omega), mi_sI_ne (by omega), mi_sI_ne (by omega), mi_sI_ne (by omega), ← hT3, mi_sA, upto_lt hj, mi_sI_ne (by omega), oT 196 (by omega)]
  have eT : ∀ a, (a = 80 ∨ a = 82 ∨ a = 114 ∨ a = 118 ∨ a = 119 ∨ a = 196) → mi T4 a = mi M a := fun a ha => by rw [ot4.at (by omega), oT a ha]
  have oM : Om (fun a => a = 1 ∨ (3 ≤ a ∧ a ≤ 9)) M C4 := (oC.mono (fun a ha => by omega)).trans (o4.mono (fun a ha => by omega))
  have etw := tw_eq (eT 80 (by omega))
  have hX : XCr q C4 T4 := by
    refine ⟨?_, ⟨rgd_eq h.gd (oM.at (by omega)) (oM.at (by omega)) (eT _ (by omega)) (eT _ (by omega)), rlaw_eq h.lh (by rw [oM.at (by omega)]) (oM.at (by omega)) (eT _ (by omega)) (eT _ (by omega)), rlaw_eq h.lr (by rw [oM.at (by omega)]) (oM.at (by omega)) (eT _ (by omega)) (eT _ (by omega))⟩, ?_, ?_⟩
    · have := h.1
      unfold IDS at this ⊢
      rw [oM.2.2.2.2.1]
      exact this
    · rw [etw.1, etw.2, eT 196 (by omega)]
      exact h.wd.1
    · rw [eT 196 (by omega)]
      exact h.wd.2.frame (fun j hj => oM.at (by omega))
  obtain ⟨y, y1, y2, y3⟩ := hy 196 363 (Or.inl ⟨Or.inl rfl, rfl⟩)
  have hE : ER q C4 T4 (300 * k) 0 C4 T4 := by
    refine ⟨⟨Om.refl, Om.refl⟩, ⟨rfl, fun _ _ _ _ => rfl⟩, hX, ⟨?_, ?_⟩, ?_, ⟨y, y1, by omega, ?_⟩⟩
    · rw [g76, if_neg (by omega), if_pos rfl, ← hC4, mi_sI_o (by omega), mi_sI_k]
    · rw [g76, if_pos rfl, ← hC4, mi_sI_k]
    · rw [g76, if_neg (by omega), if_neg (by omega), if_pos rfl]
      rfl
    · rw [eT 196 (by omega)]
      exact y3
  have hB4 : BlkM (tw T4) (th T4) C4 T4 ct 0 cc 0 ct := by
    rw [etw.1, etw.2]
    refine blk_congr _ _ _ _ _ (fun t _ _ => ?_) (fun t _ ht => ?_) hB
    · rw [o4.at (by omega), o4.at (by omega), o4.at (by omega)]
      exact ⟨rfl, rfl, rfl⟩
    · exact ot4.at (by omega)
  obtain ⟨C5, T5, b', r1, r2, r3, r4⟩ := ex_all (q := q) (by omega) c34 (by omega) (by omega) hB4 hE
  obtain ⟨⟨x1, x2⟩, ⟨x3, x4⟩, x5, x6, -, ⟨y', z1, z2, z3⟩⟩ := r3
  have n8 : ¬ ((8 : Nat) = 3 ∨ (8 : Nat) = 7 ∨ Sc9 q 8) := by unfold Sc9; omega
  have n9 : ¬ ((9 : Nat) = 3 ∨ (9 : Nat) = 7 ∨ Sc9 q 9) := by unfold Sc9; omega
  have e59 : mi C5 9 = mi C2 9 := by rw [x1.at n9, ← hC4, mi_sI_ne (by omega), mi_sI_ne (by omega), ← hC3, mi_sI_ne (by omega)]
  have s199 : ¬ (199 + n = 76 ∨ St9 (199 + n)) := by unfold St9; omega
  refine ⟨C3, C5, T5, ⟨hkeep, o3.2.2.2.2.1, ?_⟩, ?_, ⟨?_, ?_⟩, fun j => ?_, ⟨⟨C1, q 2, ?_, ?_⟩, fun i hi => ?_⟩, ⟨fun j hj => ?_, ?_, ?_, fun j h1 h2 h3 h4 h5 => ?_⟩, x5, x6, ⟨y', z1, by omega, z3⟩⟩
  · unfold f_X6_carryOut
    rw [hC4]
    exact r1
  · unfold f_X10_work_j101
    have t31 : mi (sI T1 76 3 (-1)) 76 31 = Int32.ofNat n := by rw [mi_sI_o (by omega)]; exact e31
    have t331 : mi T3 76 31 = Int32.ofNat n := by rw [← hT3, mi_sA_ne (by omega)]; exact t31
    rw [ef, if_pos rfl, t31, show ar 198 20 (Int32.ofNat n) = some (199 + n) from ar_o (a := 198) (by omega) (by omega), bsome, hcop, bsome, t331, oN_S, hT4, g76, if_neg (by omega), if_neg (by omega), if_neg (by omega), if_neg (by omega), if_neg (by omega), ect, r2, bsome]
  · exact (o4.mono (fun a ha => Or.inl (by omega))).trans (x1.mono (fun a ha => by
      rcases ha with z | z | z
      · exact Or.inl (by omega)
      · exact Or.inl (by omega)
      · exact Or.inr z))
  · exact (ot4.mono (fun a ha => by omega)).trans (x2.mono (fun a ha => by
      rcases ha with z | z
      · exact Or.inl z
      · exact Or.inr (Or.inr z)))
  · rw [x1.at n8, ← hC4, mi_sI_ne (by omega), mi_sI_ne (by omega), ← hC3, mi_sI, u1_at, o2.at (by omega), e8]
  · exact h.wd.2.frame (fun j hj => oC.at (by omega))
  · exact pk_sam p3 (fun t ht => by rw [e59, show n * 393 + t = 393 * n + t by omega])
  · rw [e59, p4 i (by omega), oC.at (by omega)]
  · rw [x2.at s199]
    exact g199 j hj
  · rw [x4 31 (by omega) (by omega) (by omega), g76, if_neg (by omega), if_neg (by omega), if_neg (by omega), if_pos rfl]
  · rw [x4 3 (by omega) (by omega) (by omega), g76, if_neg (by omega), if_neg (by omega), if_neg (by omega), if_neg (by omega), if_pos rfl]
  · rw [x4 j h3 h4 h5, g76, if_neg h3, if_neg h5, if_neg h4, if_neg h2, if_neg h1]
theorem w_full {v : Int32} {MO : Mm} {fc : Option ((Nat ⊕ Int32) × Mm)} {fm : Mm → Option (Int32 × Mm)} (h : RR M M q) (r : RM k M) (oO : Om (fun a => a = 1) M MO) (c11 : mi MO 1 1 = 0) (c16 : mi MO 1 6 = -1) (hcl : fc = some (.inr v, MO)) (hm0 : ∀ N : Mm, mi N 76 1 = mi M 76 1 → mi N 76 31 = mi M 76 31 → fm N = some (v, sI (sI (sI N 76 0 0) 76 1 0) 76 3 (-1))) : GdI k fc fm 0 0 1 := by
  have hm : fm (sL MO 275 0 v.toInt64) = some (v, sI (sI (nQ MO v.toInt64) 76 1 0) 76 3 (-1)) := by
    rw [hm0 _ (by show mi MO 76 1 = _; rw [oO.at (by omega)]) (by show mi MO 76 31 = _; rw [oO.at (by omega)]), nQ_def]
  refine gd_bad (Sc := fun a => a = 1) (St := fun a => a = 76) (v := v) h r oO (fun a ha => Or.inl ha) c11 (om_si (om_si Om.refl rfl) rfl) (fun a ha => Or.inl ha) rfl ?_ ?_ ?_ (fun j hj => ?_) hcl hm
  · rw [mi_sI_o (by omega), mi_sI_o (by omega)]; exact nQ_t
  · rw [mi_sI_o (by omega), mi_sI_k]
  · rw [mi_sI_k]
    exact c16.symm
  · rw [mi_sI_o (by omega), mi_sI_o (by omega), nQ_76 (by omega)]
theorem G_work (hI : INV k M) (hk : k ≤ 600) : ∀ x1 : Int32, GdI k (f_X9_work x1 M) (f_X10_work x1) 0 0 1 := by
  obtain ⟨⟨q, h⟩, r⟩ := id hI
  intro x
  have hn := ids_n h.1
  obtain ⟨hg, hw9, hbk, hll, -⟩ := ids_all h.1
  have t1 := h.gd.1.1
  have t2 := h.gd.1.2.1
  obtain ⟨⟨n, n1, n2, n3, n4⟩, hm⟩ := id h.2.2.2.2.2.2.1
  by_cases hx : opOk M x (Int32.ofNat 200)
  · obtain ⟨L, hL, rfl, hop⟩ := k_open (M := M) (lm := 200) (by omega) hx
    have hx2 := (m_opOk h).mp hx
    have oO : Om (fun a => a = 1) M (opM M L) := op_O.1
    have c11 : mi (opM M L) 1 1 = 0 := op_O.2.1
    have tc0 : TC (txt M) (opM M L) L 0 0 (-1) := op_TC (by omega)
    generalize opM M L = MO at hop oO c11 tc0
    have hopE : ∀ G : ((Nat ⊕ Unit) × Mm) → Option ((Nat ⊕ Int32) × Mm), (f_X9_openText (Int32.ofNat L) 200 M).bind G = G (.inr (), MO) := fun G => by
      rw [show (200 : Int32) = Int32.ofNat 200 from rfl, hop, bsome]
    have e83 : mi (MO) 8 3 = Int32.ofNat n := by rw [oO.at (by omega)]; exact n2
    have hml : ∀ N : Mm, mi N 76 1 = mi M 76 1 → f_X10_work (Int32.ofNat L) N = (if mi (sI N 76 0 0) 76 31 = (20 : Int32) then some ((-20 : Int32), sI (sI (sI N 76 0 0) 76 1 0) 76 3 (-1)) else (f_X10_starts (Int32.ofNat L) (sI N 76 0 0)).bind fun M6 => (whl fu f_X10_work_b72 (sI M6 76 25 0)).bind fun M11 => f_X10_work_j101 M11) := fun N e76 => by
      unfold f_X10_work
      rw [m_in, bsome, mi_sI_o (by omega), e76, if_pos hx2.1, if_neg z10, if_pos (show Int32.ofNat L ≤ 200 from hx2.2)]
      unfold f_X10_work_j30
      rw [m_fine, bsome]
      dsimp only
      rw [if_pos z00]
    by_cases h20 : n = 20
    · -- no room for a work
      subst h20
      have hfull : f_X5_isFull (MO) = some 1 := by
        unfold f_X5_isFull g_X5_isFull
        rw [e83, if_neg (show ¬ Int32.ofNat 20 < 20 by decide)]
        rfl
      have hcl : f_X9_work (Int32.ofNat L) M = some (.inr (-20), MO) := by
        unfold f_X9_work
        rw [hopE]
        dsimp only
        rw [hfull, bsome, if_neg z10]
      have hm9 : ∀ N : Mm, mi N 76 1 = mi M 76 1 → mi N 76 31 = mi M 76 31 → f_X10_work (Int32.ofNat L) N = some (-20, sI (sI (sI N 76 0 0) 76 1 0) 76 3 (-1)) := fun N e1 e31 => by
        rw [hml N e1, mi_sI_o (by omega), e31, n3, if_pos (show Int32.ofNat 20 = 20 from rfl)]
      exact w_full h r oO c11 tc0.1.2.2.2.2.2 hcl hm9
    · have hfull : f_X5_isFull (MO) = some 0 := by
        unfold f_X5_isFull g_X5_isFull
        rw [e83, if_pos (show Int32.ofNat n < 20 from (oN_lt (j := 20) (by omega) (by omega)).mpr (by omega))]
        rfl
      have r05 : ∀ X : Mm, mr X = mr M → rd X 0 5 = q 0 := fun X hX => (rd_o hX).trans h.g
      have r07 : ∀ X : Mm, mr X = mr M → rd X 0 7 = q 2 := fun X hX => (rd_o hX).trans h.w
      -- both sides read, for any memory of the reference
      have both : ∀ N : Mm, mi N 77 = mi M 77 → mi N 80 = mi M 80 → ∃ T0, f_X10_starts (Int32.ofNat L) N = some T0 ∧ Om (fun a => a = 76) N T0 ∧ (∀ j, (j = 0 ∨ j = 3 ∨ 8 < j) → mi T0 76 j = mi N 76 j) ∧ mi T0 76 1 = 0 ∧ ∃ C1 T1, f_X6_readWork (q 0) (MO) = some C1 ∧ whl fu f_X10_work_b72 (sI T0 76 25 0) = some T1 ∧ Pf (MO) C1 ∧ Pt T0 T1 ∧ ((∃ p cc ct, SY (txt M) C1 T1 L p ∧ (mi C1 3 4 = Int32.ofNat cc ∧ mi T1 76 25 = Int32.ofNat ct) ∧ (2 * cc ≤ 200 ∧ 4 * ct ≤ 200) ∧ BlkM (tw M) (th M) C1 T1 ct 0 cc 0 ct) ∨ FL (txt M) C1 T1 L) := fun N e77 e80 => by
        obtain ⟨T0, s1, s2, s3, s4, s5, -, s7⟩ := m_starts (b := txt M) (N := N) (L := L) txt_b (by omega) (fun i hi => by rw [e77]; exact (h.2.1.2.1 i hi).symm)
        refine ⟨T0, s1, s3, s4, s5, y_work txt_b hL tc0 s2 s7 ⟨⟨by omega, ⟨t1.1, t1.2.1⟩, t2.1, t2.2.1⟩, ⟨?_, ?_⟩, ?_, ?_⟩⟩
        · rw [oO.at (by omega), h.gd.2.1.1]; exact t1.2.2
        · rw [oO.at (by omega), h.gd.2.1.2.1]; exact t2.2.2
        · rw [s3.at (by omega), e80]; exact t1.2.2
        · rw [s3.at (by omega), e80]; exact t2.2.2
      obtain ⟨Td, d1, d2, d3, d4, C1, Te, k1, k2, k3, k4, k5⟩ := both M rfl rfl
      have oC1 : Om (fun a => a = 1 ∨ (3 ≤ a ∧ a ≤ 6)) M C1 := (oO.mono (fun a ha => Or.inl ha)).trans k3.1
      have rC1 : mr C1 = mr M := oC1.2.2.2.2.1
      have c111 : mi C1 1 1 = 0 := by rw [k3.2 1 (by omega)]; exact c11
      have hcl0 : f_X9_work (Int32.ofNat L) M = (f_X7_isFine C1).bind fun v10 => (if v10 = 0 then some (.inr ((-10 : Int32) + (mi C1 1 5)), C1) else (f_X5_keepWork (rd C1 0 7) C1).bind fun M14 => (f_X6_carryOut (rd M14 0 5) (rd M14 0 7) M14).bind fun M18 => some (.inr (mi (sI M18 0 12 (mi M18 3 6)) 3 5), (sI M18 0 12 (mi M18 3 6)))) := by
        unfold f_X9_work
        rw [hopE]
        dsimp only
        rw [hfull, bsome, if_pos z00, r05 _ oO.2.2.2.2.1, k1, bsome]
      have hml2 : ∀ N : Mm, mi N 76 1 = mi M 76 1 → mi N 76 31 = Int32.ofNat n → f_X10_work (Int32.ofNat L) N = (f_X10_starts (Int32.ofNat L) (sI N 76 0 0)).bind fun M6 => (whl fu f_X10_work_b72 (sI M6 76 25 0)).bind fun M11 => f_X10_work_j101 M11 := fun N e1 e31 => by
        rw [hml N e1, mi_sI_o (by omega), e31, if_neg (show ¬ Int32.ofNat n = 20 from fun z => h20 ((oN_eq (j := 20) (by omega) (by omega)).mp z))]
      rcases k5 with ⟨p, cc, ct, u1, ⟨u2, u3⟩, u4, u5⟩ | ⟨f9, fa9, p9, p8, hf, u1, u2⟩
      · -- carried out
        rw [k_fine u1.1, bsome, if_pos rfl, if_neg z10, r07 _ rC1] at hcl0
        have tm : ∀ a, (a = 80 ∨ a = 82 ∨ a = 114 ∨ a = 118 ∨ a = 119 ∨ a = 196) → mi Te a = mi M a := fun a ha => by rw [k4.at (by omega), d2.at (by omega)]
        obtain ⟨C3, C5, T5d, ⟨v1, v2, v3⟩, -, ⟨v4, -⟩, -, -, -, -, -, -⟩ := w_run h r.2.2.2 hk n2 (by omega) oC1 tm (by rw [k4.2 31 (by omega), d3 31 (by omega)]; exact n3) u1.2.1.2.2.2.2.1 u2 u3 u4 u5
        have rC3 : mr C3 = mr M := by rw [v2, rC1]
        generalize hM1 : sI C5 0 12 (mi C5 3 6) = M1
        have hcl : f_X9_work (Int32.ofNat L) M = some (.inr (mi C5 3 5), M1) := by
          rw [hcl0, v1, bsome, r05 _ rC3, r07 _ rC3, v3, bsome, mi_sI_ne (by omega), hM1]
        have n0 : ¬ ((3 ≤ 0 ∧ 0 ≤ 9) ∨ Sc9 q 0) := by unfold Sc9; omega
        have m1 : ∀ a, a ≠ 0 → mi M1 a = mi C5 a := fun a ha => by rw [← hM1, mi_sI_ne ha]
        have m0 : ∀ j, mi M1 0 j = if j = 12 then mi C5 3 6 else mi M 0 j := fun j => by rw [← hM1, mi_sI, u1_at, v4.at n0, oC1.at (by omega)]
        have far : ∀ a, 10 ≤ a → ¬ Sc9 q a → mi M1 a = mi M a := fun a h1 h2 => by rw [m1 a (by omega), v4.at (fun z => z.elim (fun z => by omega) h2), oC1.at (by omega)]
        have hi9 : ∀ a, 76 ≤ a → ¬ Sc9 q a := fun a ha z => by unfold Sc9 at z; omega
        have rM1 : mr M1 = mr M := by rw [← hM1, sI_r, v4.2.2.2.2.1, rC1]
        have xM1 : M1.1 = M.1 := by rw [← hM1, sI_1, v4.1, oC1.1]
        -- the reference over the class's memory
        have nq : ∀ a, 76 < a → mi (nQ M1 (mi C5 3 5).toInt64) a = mi M a := fun a ha => by rw [nQ_o (by omega), far a (by omega) (hi9 a (by omega))]
        have nq76 : ∀ j, j ≠ 0 → mi (nQ M1 (mi C5 3 5).toInt64) 76 j = mi M 76 j := fun j hj => by rw [nQ_76 hj, far 76 (by omega) (hi9 76 (by omega))]
        obtain ⟨T0, s1, s2, s3, s4, C9, T1, w1, w2, w3, w4, w5⟩ := both (nQ M1 (mi C5 3 5).toInt64) (nq 77 (by omega)) (nq 80 (by omega))
        have hCC : C9 = C1 := Option.some.inj (w1.symm.trans k1)
        subst hCC
        rcases w5 with ⟨p', cc', ct', g1, ⟨g2, g3⟩, g4, g5⟩ | ⟨f9, fa9, p9, p8, hf, g1, g2⟩
        · have tm1 : ∀ a, (a = 80 ∨ a = 82 ∨ a = 114 ∨ a = 118 ∨ a = 119 ∨ a = 196) → mi T1 a = mi M a := fun a ha => by rw [w4.at (by omega), s2.at (by omega), nq a (by omega)]
          have t131 : mi T1 76 31 = Int32.ofNat n := by rw [w4.2 31 (by omega), s3 31 (by omega), nq76 31 (by omega)]; exact n3
          obtain ⟨C3', C5', T5, ⟨v1', v2', v3'⟩, j1, ⟨j2, j3⟩, j4, ⟨j5, j6⟩, ⟨j7, j8, j9, j10⟩, j11, ⟨j12, j13⟩, ⟨yy, yy1, yy2, yy3⟩⟩ := w_run h r.2.2.2 hk n2 (by omega) oC1 tm1 t131 g1.2.1.2.2.2.2.1 g2 g3 g4 g5
          have e3 : C3' = C3 := Option.some.inj (v1'.symm.trans v1)
          subst e3
          have e5 : C5' = C5 := Option.some.inj (v3'.symm.trans v3)
          subst e5
          have oT1 : Om (fun a => a = 76 ∨ (136 ≤ a ∧ a ≤ 195)) (nQ M1 (mi C5' 3 5).toInt64) T1 := (s2.mono (fun a ha => Or.inl ha)).trans w4.1
          have aT : ∀ a, a ≠ 76 → ¬ (136 ≤ a ∧ a ≤ 195) → a ≠ 199 + n → ¬ St9 a → mi T5 a = mi M1 a := fun a h1 h2 h3 h4 => by
            rw [j3.at (fun z => z.elim h1 (fun z => z.elim h3 h4)), oT1.at (fun z => z.elim h1 h2), nQ_o h1]
          have lo : ∀ a, a < 76 → mi T5 a = mi M1 a := fun a ha => aT a (by omega) (by omega) (by omega) (by unfold St9; omega)
          have hiT : ∀ a, (77 ≤ a ∧ a ≤ 114) ∨ (117 ≤ a ∧ a ≤ 135) ∨ (a = 197 ∨ a = 198) ∨ (199 ≤ a ∧ a ≤ 222 ∧ a ≠ 199 + n) → mi T5 a = mi M a := fun a ha => by
            rw [aT a (by omega) (by omega) (by omega) (by unfold St9; omega), far a (by omega) (hi9 a (by omega))]
          have t76 : ∀ j, j ≠ 3 → j ≠ 31 → j ≠ 32 → j ≠ 35 → j ≠ 36 → (j = 0 ∨ j = 1 ∨ 8 < j ∧ j ≠ 25) → mi T5 76 j = if j = 1 then 0 else mi (nQ M1 (mi C5' 3 5).toInt64) 76 j := fun j a1 a2 a3 a4 a5 a6 => by
            rw [j10 j a1 a2 a3 a4 a5, w4.2 j (by omega)]
            by_cases e : j = 1
            · rw [if_pos e, e]; exact s4
            · rw [if_neg e, s3 j (by omega)]
          have hm9 : f_X10_work (Int32.ofNat L) (sL M1 275 0 (mi C5' 3 5).toInt64) = some (mi C5' 3 5, T5) := by
            rw [hml2 _ (by show mi M1 76 1 = _; rw [far 76 (by omega) (hi9 76 (by omega))]) (by show mi M1 76 31 = _; rw [far 76 (by omega) (hi9 76 (by omega))]; exact n3), nQ_def, s1, bsome, w2, bsome, j1, ← j12]
          have rT5 : mr T5 = mr M := by rw [j3.2.2.2.2.1, oT1.2.2.2.2.1, nQ_r, rM1]
          have xT5 : T5.1 = M.1 := by rw [j3.1, oT1.1, nQ_1, xM1]
          have e80 : mi T5 80 = mi M 80 := hiT 80 (by omega)
          have etw := tw_eq e80
          have fq : ∀ a, 10 ≤ a → a < 76 → ¬ Sc9 q a → mi T5 a = mi M a := fun a h1 h2 h3 => by rw [lo a h2, far a h1 h3]
          have saw : ∀ a, (a = q 0 ∨ a = q 0 + 1 ∨ a = q 6 ∨ a = q 6 + 1 ∨ a = q 7 ∨ a = q 7 + 1) → ¬ Sc9 q a := fun a ha z => by have := sc_aw h.1 z; omega
          refine Or.inr ⟨mi C5' 3 5, M1, T5, hcl, hm9, ?_, ?_, ⟨q, ?_⟩, ?_⟩
          · rw [t76 0 (by omega) (by omega) (by omega) (by omega) (by omega) (by omega), if_neg (by omega)]; exact nQ_t
          · rw [j3.2.2.2.1, oT1.2.2.2.1]; exact nQ_out
          · refine ⟨?_, ⟨⟨0, by omega, ?_, ?_⟩, fun i hi => ?_, ?_⟩, ?_, ?_, ?_, ?_, ?_, ?_, ?_⟩
            · have := h.1
              unfold IDS at this ⊢
              rw [rT5]
              exact this
            · rw [lo 1 (by omega), m1 1 (by omega), v4.at (by unfold Sc9; omega)]; exact c111
            · rw [t76 1 (by omega) (by omega) (by omega) (by omega) (by omega) (by omega), if_pos rfl]; rfl
            · rw [lo 2 (by omega), m1 2 (by omega), v4.at (by unfold Sc9; omega), oC1.at (by omega), hiT 77 (by omega)]
              exact h.2.1.2.1 i hi
            · rw [lo 1 (by omega), m1 1 (by omega), v4.at (by unfold Sc9; omega), u1.1.1.2.2.2.2.2, j9]
            · exact rgd_eq h.gd (fq _ (by omega) (by omega) (saw _ (by omega))) (fq _ (by omega) (by omega) (saw _ (by omega))) e80 (hiT 82 (by omega))
            · exact rlaw_eq h.lh (by rw [fq (q 6) (by omega) (by omega) (saw _ (by omega))]) (fq _ (by omega) (by omega) (saw _ (by omega))) (hiT 114 (by omega)) (hiT 118 (by omega))
            · exact rlaw_eq h.lr (by rw [fq (q 7) (by omega) (by omega) (saw _ (by omega))]) (fq _ (by omega) (by omega) (saw _ (by omega))) (hiT 114 (by omega)) (hiT 119 (by omega))
            · exact ⟨j11.2.2.1, j11.2.2.2.frame (fun j hj => by rw [lo _ (by omega), m1 _ (by omega)])⟩
            · refine ⟨⟨n + 1, by omega, ?_, j8, fun i hi => ?_⟩, ?_⟩
              · rw [lo 8 (by omega), m1 8 (by omega), j4, if_pos rfl]
              · rw [etw.1, etw.2, lo 9 (by omega), m1 9 (by omega)]
                by_cases e : i = n
                · subst e
                  exact ⟨vr_eq h.wd.1 j7, rb_eq h.wd.1 j5 (fun _ _ => rfl) j7⟩
                · rw [hiT (199 + i) (by omega)]
                  obtain ⟨o1, o2⟩ := n4 i (by omega)
                  exact ⟨o1, rb_eq o1 o2 (fun t ht => j6 _ (by omega)) (fun _ _ => rfl)⟩
              · obtain ⟨m, m1', m2', m3', m4'⟩ := hm
                refine ⟨m, m1', ?_, ?_, fun j hj => ?_⟩
                · rw [lo 8 (by omega), m1 8 (by omega), j4, if_neg (by omega)]; exact m2'
                · rw [t76 33 (by omega) (by omega) (by omega) (by omega) (by omega) (by omega), if_neg (by omega), nq76 33 (by omega)]; exact m3'
                · rw [etw.1, etw.2, hiT (220 + j) (by omega), fq 10 (by omega) (by omega) (by unfold Sc9; omega), fq 11 (by omega) (by omega) (by unfold Sc9; omega)]
                  exact m4' j hj
            · exact rbk_eq h.2.2.2.2.2.2.2.1 (fq _ (by omega) (by omega) (by unfold Sc9; omega)) (fq _ (by omega) (by omega) (by unfold Sc9; omega)) (fq _ (by omega) (by omega) (by unfold Sc9; omega)) e80 (by rw [t76 30 (by omega) (by omega) (by omega) (by omega) (by omega) (by omega), if_neg (by omega), nq76 30 (by omega)]) (fun a h1 h2 => hiT a (by omega))
            · obtain ⟨c1, c2, c3, c4⟩ := h.cnt
              unfold Rc
              rw [lo 0 (by omega), m0, m0, m0, m0, if_pos rfl, if_neg (by omega), if_neg (by omega), if_neg (by omega), hiT 78 (by omega)]
              exact ⟨j13, c2, c3, c4⟩
          · unfold RM zX zS zN at r ⊢
            rw [xT5]
            refine ⟨r.1, Nat.le_succ_of_le r.2.1, r.2.2.1, fun a j hj => ?_⟩
            by_cases ha : a = 196
            · subst ha
              have : j = 363 := by unfold yj at hj; omega
              subst this
              exact ⟨yy, yy1, yy2, yy3⟩
            · by_cases hb : a = 199 + n
              · subst hb
                have : j = 363 := by unfold yj at hj; omega
                subst this
                rw [j7 363 (by omega)]
                exact r.2.2.2.up _ _ (Or.inl ⟨Or.inl rfl, rfl⟩)
              · rw [hiT a (by unfold yj at hj; omega)]
                exact r.2.2.2.up a j hj
        · exact absurd (g1.1.2.2.2.2.1.symm.trans u1.1.1.2.2.2.2.1) hf
      · -- a fault
        rw [k_fine u1, bsome, if_neg hf, if_pos z00, u1.1.2.2.2.2.1] at hcl0
        obtain ⟨T0, s1, s2, s3, s4, C9, T1, w1, w2, w3, w4, w5⟩ := both (nQ C1 (-10 + f9).toInt64) (by rw [nQ_o (by omega), oC1.at (by omega)]) (by rw [nQ_o (by omega), oC1.at (by omega)])
        have hCC : C9 = C1 := Option.some.inj (w1.symm.trans k1)
        subst hCC
        rcases w5 with ⟨p', cc', ct', g1, -, -, -⟩ | ⟨f8, fa8, p7, p6, hf8, v1, v2⟩
        · exact absurd (u1.1.2.2.2.2.1.symm.trans g1.1.1.2.2.2.2.1) hf
        · have ef : f8 = f9 := v1.1.2.2.2.2.1.symm.trans u1.1.2.2.2.2.1
          subst ef
          have hm9 : f_X10_work (Int32.ofNat L) (sL C9 275 0 (-10 + f8).toInt64) = some (-10 + f8, sI T1 76 3 (mi T1 76 6)) := by
            rw [hml2 _ (by show mi C9 76 1 = _; rw [oC1.at (by omega)]) (by show mi C9 76 31 = _; rw [oC1.at (by omega)]; exact n3), nQ_def, s1, bsome, w2, bsome]
            unfold f_X10_work_j101 f_X10_ends
            rw [v2.1.2.2.2.2.1, if_neg hf8, bsome, mi_sI_o (by omega), v2.1.2.2.2.2.1, Int32.sub_eq_add_neg, Int32.add_comm]
          refine gd_bad (Sc := fun a => a = 1 ∨ (3 ≤ a ∧ a ≤ 6)) (St := fun a => a = 76 ∨ (136 ≤ a ∧ a ≤ 195)) (v := -10 + f8) h r oC1 (fun a ha => by unfold spC; omega) c111 (om_si ((s2.mono (fun a ha => Or.inl ha)).trans w4.1) (Or.inl rfl)) (fun a ha => by unfold spT; omega) (Or.inl rfl) ?_ ?_ ?_ (fun j hj => ?_) hcl0 hm9
          · rw [mi_sI_o (by omega), w4.2 0 (by omega), s3 0 (by omega)]; exact nQ_t
          · rw [mi_sI_o (by omega), w4.2 1 (by omega)]; exact s4
          · rw [mi_sI_k, v2.1.2.2.2.2.2, v1.1.2.2.2.2.2]
          · rw [mi_sI_o (by omega), w4.2 j (by omega), s3 j (by omega), nQ_76 (by omega)]
  · have hcl : f_X9_work x M = some (.inl 2, eRef M 2) := by
      unfold f_X9_work
      rw [show (200 : Int32) = Int32.ofNat 200 from rfl, k_open_n hx, bsome]
    refine gd_r2 (b := 0) hI (by decide) hcl ?_
    have hx2 : ¬ ((0 ≤ x ∧ x ≤ mi M 76 1) ∧ x ≤ Int32.ofNat 200) := fun z => hx ((m_opOk h).mpr z)
    have no : f_X10_work_j25 x (sI (eRef M 2) 76 0 0) = some (0, eRefM (eRef M 2) 2 1) := by
      unfold f_X10_work_j25 f_X10_work_j30
      rw [m_r2 1 (by decide), bsome]
      rfl
    have e76 : mi (sI (eRef M 2) 76 0 0) 76 1 = mi M 76 1 := by
      rw [mi_sI_o (by omega)]
      unfold eRef
      rw [mi_sX, mi_sI_ne (by omega)]
    unfold f_X10_work
    rw [m_in, bsome, e76]
    by_cases h1 : 0 ≤ x ∧ x ≤ mi M 76 1
    · rw [if_pos h1, if_neg z10, if_neg (show ¬ x ≤ 200 from fun z => hx2 ⟨h1, z⟩), no]
    · rw [if_neg h1, if_pos z00, no]
end SM9
