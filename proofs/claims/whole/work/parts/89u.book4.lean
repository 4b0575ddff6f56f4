/-! level 3: the book: told -/
section BR
variable {k : Nat} {M M2 : Mm} {q : Nat → Nat} {b : Nat → Int32} {C C' T T' N : Mm} {L p p' : Nat} {f fa : Int32}
theorem mr_sR {a i a9 i9 : Nat} {v : Option Nat} : mr (sR M a i v) a9 i9 = if a9 = a ∧ i9 = i then v else mr M a9 i9 := by
  show u1 (mr M) a (u1 (mr M a) i v) a9 i9 = _
  unfold u1
  by_cases h1 : a9 = a
  · rw [if_pos h1]
    by_cases h2 : i9 = i
    · rw [if_pos h2, if_pos ⟨h1, h2⟩]
    · rw [if_neg h2, if_neg (fun z => h2 z.2), h1]
  · rw [if_neg h1, if_neg (fun z => h1 z.1)]
theorem rd_o (h : mr C = mr M) {a i : Nat} : rd C a i = rd M a i := by unfold rd; rw [h]
theorem m_opOk (h : RR M M q) {x : Int32} {lm : Nat} : opOk M x (Int32.ofNat lm) ↔ ((0 ≤ x ∧ x ≤ mi M 76 1) ∧ x ≤ Int32.ofNat lm) := by
  obtain ⟨⟨n, hn, e1, e2⟩, -, -⟩ := h.2.1
  unfold opOk
  rw [e1, e2]
  exact ⟨fun z => ⟨⟨z.1.1, z.2⟩, z.1.2⟩, fun z => ⟨⟨z.1.1, z.2⟩, z.1.2⟩⟩
theorem G_book (hI : INV k M) : ∀ x1 : Int32, GdI k (f_X9_book x1 M) (f_X10_book x1) 0 0 1 := by
  obtain ⟨⟨q, h⟩, r⟩ := id hI
  intro x
  have hn := ids_n h.1
  obtain ⟨hg, hw9, hbk, hll, -⟩ := ids_all h.1
  have t1 := h.gd.1.1
  have t2 := h.gd.1.2.1
  by_cases hx : opOk M x (Int32.ofNat 100)
  · obtain ⟨L, hL, rfl, hop⟩ := k_open (M := M) (lm := 100) (by omega) hx
    have hx2 := (m_opOk h).mp hx
    have e5 : rd (opM M L) 0 10 = q 5 := (rd_o op_O.1.2.2.2.2.1).trans (rd_of h.1.1.2.2.2.2.2.1)
    have e0 : rd (opM M L) 0 5 = q 0 := (rd_o op_O.1.2.2.2.2.1).trans h.g
    generalize hC0 : sI (opM M L) (q 5) 3 0 = C0
    have tc0 : TC (txt M) C0 L 0 0 (-1) := by
      rw [← hC0]
      exact (op_TC (by omega)).of (fun i _ _ => by rw [mi_sI_ne (by omega)]) (mi_sI_ne (by omega))
    have o0 : Om (fun a => a = 1 ∨ (q 5 ≤ a ∧ a ≤ q 5 + 2)) M C0 := by
      rw [← hC0]
      exact om_si (op_O.1.mono (fun a ha => Or.inl ha)) (Or.inr (by omega))
    have c11 : mi C0 1 1 = 0 := by rw [← hC0, mi_sI_ne (by omega)]; exact op_O.2.1
    have gC : mi C0 (q 0) 3 = Int32.ofNat (tw M) ∧ mi C0 (q 0) 4 = Int32.ofNat (th M) := by
      rw [o0.at (by omega), h.gd.2.1.1, h.gd.2.1.2.1]
      exact ⟨t1.2.2, t2.2.2⟩
    have c3 : mi C0 (q 5) 3 = Int32.ofNat 0 := by rw [← hC0]; exact mi_sI_k
    -- both sides, for any memory of the reference
    have both : ∀ N : Mm, mi N 77 = mi M 77 → mi N 80 = mi M 80 → ∃ T0, f_X10_starts (Int32.ofNat L) N = some T0 ∧ Om (fun a => a = 76) N T0 ∧ (∀ j, (j = 0 ∨ j = 3 ∨ 8 < j) → mi T0 76 j = mi N 76 j) ∧ mi T0 76 1 = 0 ∧ ∃ C' T' x2, whl fu (f_X1_readBook_b7 (q 5) (q 0)) (Int32.ofNat 0, C0) = some C' ∧ whl fu f_X10_book_b46 (Int32.ofNat 0, T0) = some (x2, T') ∧ Bf (q 5) C0 C' ∧ Bt T0 T' ∧ ((∃ n p1 p2, n ≤ 6 ∧ x2 = Int32.ofNat n ∧ mi C' (q 5) 3 = Int32.ofNat n ∧ (∀ i, i < n → BL (tw M) (th M) (q 5) C' T' i) ∧ TC (txt M) C' L p1 0 (-1) ∧ TT (txt M) T' L p2 0 (-1)) ∨ FL (txt M) C' T' L) := fun N e77 e80 => by
      obtain ⟨T0, s1, s2, s3, s4, s5, -, -⟩ := m_starts (b := txt M) (N := N) (L := L) txt_b (by omega) (fun i hi => by rw [e77]; exact (h.2.1.2.1 i hi).symm)
      exact ⟨T0, s1, s3, s4, s5, y_lines txt_b (by omega) (by omega) (by omega) ⟨⟨t1.1, t1.2.1⟩, t2.1, t2.2.1⟩ 6 0 0 fu fu C0 T0 (by omega) (by decide) (by decide) gC (by rw [s3.at (by omega), e80]; exact ⟨t1.2.2, t2.2.2⟩) tc0 s2 c3 (fun i hi => by omega)⟩
    obtain ⟨-, -, -, -, -, C', Td, xd, k1, -, k3, -, k5⟩ := both M rfl rfl
    have oC : Om (fun a => a = 1 ∨ (q 5 ≤ a ∧ a ≤ q 5 + 2)) M C' := o0.trans k3.1
    have rC' : mr C' = mr M := oC.2.2.2.2.1
    have hcl : f_X9_book (Int32.ofNat L) M = (f_X7_isFine C').bind fun v7 => (if v7 = 0 then some (.inr ((-10 : Int32) + (mi C' 1 5)), C') else some (.inr (mi (sR (sR C' 0 9 (some (rd C' 0 10))) 0 10 (some (rd C' 0 9))) (rd (sR (sR C' 0 9 (some (rd C' 0 10))) 0 10 (some (rd C' 0 9))) 0 9) 3), (sR (sR C' 0 9 (some (rd C' 0 10))) 0 10 (some (rd C' 0 9))))) := by
      unfold f_X9_book f_X1_readBook
      rw [show (100 : Int32) = Int32.ofNat 100 from rfl, hop, bsome]
      dsimp only
      rw [e5, e0, hC0, show whl fu (f_X1_readBook_b7 (q 5) (q 0)) (0, C0) = some C' from k1, bsome, bsome]
    have hml : ∀ N : Mm, mi N 76 1 = mi M 76 1 → f_X10_book (Int32.ofNat L) N = (f_X10_starts (Int32.ofNat L) (sI N 76 0 0)).bind fun M5 => (whl fu (f_X10_book_b46 ) ((0 : Int32), M5)).bind fun (z2_44, M44) => f_X10_book_j245 z2_44 M44 := fun N e76 => by
      unfold f_X10_book
      rw [m_in, bsome, mi_sI_o (by omega), e76, if_pos hx2.1, if_neg z10, if_pos (show Int32.ofNat L ≤ 100 from hx2.2)]
      unfold f_X10_book_j29
      rw [m_fine, bsome]
      dsimp only
      rw [if_pos z00]
    rcases k5 with ⟨n, p1, p2, n6, rfl, n3, nl, nt, -⟩ | ⟨f9, fa9, p9, p8, hf, u1, u2⟩
    · -- told
      have r10 : rd C' 0 10 = q 5 := (rd_o rC').trans (rd_of h.1.1.2.2.2.2.2.1)
      have r9 : rd C' 0 9 = q 4 := (rd_o rC').trans h.b
      rw [r10, r9] at hcl
      generalize hM1 : sR (sR C' 0 9 (some (q 5))) 0 10 (some (q 4)) = M1 at hcl
      have mM1 : mi M1 = mi C' := by rw [← hM1]; rfl
      have rM1 : ∀ a i, mr M1 a i = if a = 0 ∧ i = 10 then some (q 4) else if a = 0 ∧ i = 9 then some (q 5) else mr M a i := fun a i => by rw [← hM1, mr_sR, mr_sR, rC']
      have x1 : M1.1 = M.1 := by rw [← hM1]; exact oC.1
      have r19 : rd M1 0 9 = q 5 := by unfold rd; rw [rM1]; rfl
      rw [k_fine nt, bsome, if_pos rfl, if_neg z10, r19, mM1, n3] at hcl
      obtain ⟨T0, s1, s2, s3, s4, C9, T', x2, w1, w2, w3, w4, w5⟩ := both (nQ M1 (Int32.ofNat n).toInt64) (by rw [nQ_o (by omega), mM1, oC.at (by omega)]) (by rw [nQ_o (by omega), mM1, oC.at (by omega)])
      have hCC : C9 = C' := Option.some.inj (w1.symm.trans k1)
      subst hCC
      rcases w5 with ⟨n', p1', p2', m6, rfl, m3, ml9, mt, mt2⟩ | ⟨f9, fa9, p9, p8, hf, u1, u2⟩
      · have hnn : n' = n := by
          rw [n3] at m3
          exact ((oN_eq (by omega) (by omega)).mp m3).symm
        subst hnn
        obtain ⟨T2, d1, d2, d3⟩ := m_bcopy (N := sI (sI T' 76 3 (-1)) 76 30 (Int32.ofNat n')) m6
        have oT : ∀ a, a ≠ 76 → ¬ (121 ≤ a ∧ a ≤ 133) → mi T2 a = mi M1 a := fun a h1 h2 => by rw [d2.at (by omega), mi_sI_ne h1, mi_sI_ne h1, w4.1.at (by omega), s2.at h1, nQ_o h1]
        have e76 : ∀ j, (j = 0 ∨ 8 < j ∨ j = 3) → mi T2 76 j = if j = 30 then Int32.ofNat n' else if j = 3 then -1 else mi (nQ M1 (Int32.ofNat n').toInt64) 76 j := fun j hj => by rw [d2.at (by omega), mi_sI, u1_at, mi_sI, u1_at, w4.2 j (by omega), s3 j (by omega)]
        have hm9 : f_X10_book (Int32.ofNat L) (sL M1 275 0 (Int32.ofNat n').toInt64) = some (Int32.ofNat n', T2) := by
          rw [hml _ (by show mi M1 76 1 = _; rw [mM1, oC.at (by omega)]), nQ_def, s1, bsome, show whl fu f_X10_book_b46 (0, T0) = some (Int32.ofNat n', T') from w2, bsome]
          dsimp only
          unfold f_X10_book_j245
          rw [mt2.1.2.2.2.2.1, if_pos rfl, d1, bsome]
        have eM : ∀ a, a ≠ 1 → ¬ (q 5 ≤ a ∧ a ≤ q 5 + 2) → a ≠ 76 → ¬ (121 ≤ a ∧ a ≤ 133) → mi T2 a = mi M a := fun a h1 h2 h3 h4 => by rw [oT a h3 h4, mM1, oC.at (by omega)]
        have eC : ∀ a, a ≠ 76 → ¬ (121 ≤ a ∧ a ≤ 133) → mi T2 a = mi C9 a := fun a h3 h4 => by rw [oT a h3 h4, mM1]
        have hr2 : mr T2 = mr M1 := d2.2.2.2.2.1.trans ((w4.1.2.2.2.2.1).trans s2.2.2.2.2.1)
        have hz2 : T2.1 = M.1 := (d2.1.trans ((w4.1.1).trans s2.1)).trans x1
        have q30 : ∀ j, (j = 31 ∨ j = 32 ∨ j = 33) → mi T2 76 j = mi M 76 j := fun j hj => by rw [e76 j (by omega), if_neg (by omega), if_neg (by omega), nQ_76 (by omega), mM1, oC.at (by omega)]
        have lw : ∀ i, 6 ≤ i → i ≤ 10 → lw10 (q i) ∧ lw10 (q i + 1) := fun i h1 h2 => ⟨lw_of (hll i h1 h2) (Or.inl rfl), lw_of (hll i h1 h2) (Or.inr rfl)⟩
        have eL : ∀ a, lw10 a → mi T2 a = mi M a := fun a ha => by
          unfold lw10 at ha
          exact eM a (by omega) (by omega) (by omega) (by omega)
        have bytes : ∀ i, i < 600 → mi C9 2 i &&& 255 = mi M 77 i := fun i hi => by rw [oC.at (by omega)]; exact h.2.1.2.1 i hi
        refine Or.inr ⟨Int32.ofNat n', M1, T2, hcl, hm9, ?_, ?_, ⟨fun i => if i = 4 then q 5 else if i = 5 then q 4 else q i, ?_⟩, ?_⟩
        · rw [e76 0 (by omega), if_neg (by omega), if_neg (by omega)]; exact nQ_t
        · rw [d2.2.2.2.1, show ml (sI (sI T' 76 3 (-1)) 76 30 (Int32.ofNat n')) = ml T' from rfl, w4.1.2.2.2.1, s2.2.2.2.1]; exact nQ_out
        · obtain ⟨h1, h2, h3, h4, h5, h6, h7, h8, h9⟩ := h
          refine ⟨?_, ⟨⟨0, by omega, ?_, ?_⟩, ?_, ?_⟩, ?_, ?_, ?_, ?_, ?_, ?_, ?_⟩
          · obtain ⟨⟨i1, i2, i3, i4, i5, i6, i7⟩, ⟨j1, j2, j3, j4⟩, g1, g2, g3, g4, g5⟩ := h1
            refine ⟨⟨?_, ?_, ?_, ?_, ?_, ?_, ?_⟩, ⟨?_, ?_, ?_, ?_⟩, g1, g2, ?_, fun i u1 u2 => ?_, fun i j u1 u2 u3 => ?_⟩
            · rw [hr2, rM1, if_neg (by omega), if_neg (by omega)]; exact i1
            · rw [hr2, rM1, if_neg (by omega), if_neg (by omega)]; exact i2
            · rw [hr2, rM1, if_neg (by omega), if_neg (by omega)]; exact i3
            · rw [hr2, rM1, if_neg (by omega), if_neg (by omega)]; exact i4
            · rw [hr2, rM1, if_neg (by omega), if_pos ⟨rfl, rfl⟩]; rfl
            · rw [hr2, rM1, if_pos ⟨rfl, rfl⟩]; rfl
            · rw [hr2, rM1, if_neg (by omega), if_neg (by omega)]; exact i7
            · show mr T2 (q 0) 1 = some (q 6)
              rw [hr2, rM1, if_neg (by omega), if_neg (by omega)]; exact j1
            · show mr T2 (q 0) 2 = some (q 7)
              rw [hr2, rM1, if_neg (by omega), if_neg (by omega)]; exact j2
            · show mr T2 (q 1) 1 = some (q 8)
              rw [hr2, rM1, if_neg (by omega), if_neg (by omega)]; exact j3
            · show mr T2 (q 1) 2 = some (q 9)
              rw [hr2, rM1, if_neg (by omega), if_neg (by omega)]; exact j4
            · show (q 5 = 64 ∧ q 4 = 68) ∨ (q 5 = 68 ∧ q 4 = 64)
              omega
            · dsimp only
              rw [if_neg (by omega), if_neg (by omega)]; exact g4 i u1 u2
            · dsimp only
              rw [if_neg (by omega), if_neg (by omega), if_neg (by omega), if_neg (by omega)]; exact g5 i j u1 u2 u3
          · rw [eC 1 (by omega) (by omega), w3.2 1 (by omega)]; exact c11
          · rw [d2.at (by omega), mi_sI_o (by omega), mi_sI_o (by omega), w4.2 1 (by omega)]; exact s4
          · intro i hi
            rw [eC 2 (by omega) (by omega), eM 77 (by omega) (by omega) (by omega) (by omega)]
            exact bytes i hi
          · rw [eC 1 (by omega) (by omega), mt.1.2.2.2.2.2, e76 3 (by omega), if_neg (by omega), if_pos rfl]
          · exact rgd_eq h3 (eM _ (by show q 0 ≠ 1; omega) (by show ¬ (q 5 ≤ q 0 ∧ q 0 ≤ q 5 + 2); omega) (by show q 0 ≠ 76; omega) (by show ¬ (121 ≤ q 0 ∧ q 0 ≤ 133); omega)) (eM _ (by show q 0 + 1 ≠ 1; omega) (by show ¬ (q 5 ≤ q 0 + 1 ∧ q 0 + 1 ≤ q 5 + 2); omega) (by show q 0 + 1 ≠ 76; omega) (by show ¬ (121 ≤ q 0 + 1 ∧ q 0 + 1 ≤ 133); omega)) (eM 80 (by omega) (by omega) (by omega) (by omega)) (eM 82 (by omega) (by omega) (by omega) (by omega))
          · exact rlaw_eq h4 (congrFun (eL _ (lw 6 (by omega) (by omega)).1) 3) (eL _ (lw 6 (by omega) (by omega)).2) (eM 114 (by omega) (by omega) (by omega) (by omega)) (eM 118 (by omega) (by omega) (by omega) (by omega))
          · exact rlaw_eq h5 (congrFun (eL _ (lw 7 (by omega) (by omega)).1) 3) (eL _ (lw 7 (by omega) (by omega)).2) (eM 114 (by omega) (by omega) (by omega) (by omega)) (eM 119 (by omega) (by omega) (by omega) (by omega))
          · exact rwd_eq h6 (fun i hi => eM _ (by show q 2 + i ≠ 1; omega) (by show ¬ (q 5 ≤ q 2 + i ∧ q 2 + i ≤ q 5 + 2); omega) (by show q 2 + i ≠ 76; omega) (by show ¬ (121 ≤ q 2 + i ∧ q 2 + i ≤ 133); omega)) (eM 80 (by omega) (by omega) (by omega) (by omega)) (eM 196 (by omega) (by omega) (by omega) (by omega))
          · exact rp_eq h7 (eM 8 (by omega) (by omega) (by omega) (by omega)) (eM 9 (by omega) (by omega) (by omega) (by omega)) (eM 10 (by omega) (by omega) (by omega) (by omega)) (eM 11 (by omega) (by omega) (by omega) (by omega)) (eM 80 (by omega) (by omega) (by omega) (by omega)) (q30 31 (by omega)) (q30 33 (by omega)) (fun a ha => eM a (by omega) (by omega) (by omega) (by omega))
          · have etw := tw_eq (eM 80 (by omega) (by omega) (by omega) (by omega))
            refine ⟨n', m6, ?_, ?_, fun i hi => ?_⟩
            · show mi T2 (q 5) 3 = _
              rw [eC _ (by omega) (by omega)]; exact n3
            · rw [e76 30 (by omega), if_pos rfl]
            · obtain ⟨x, y, v, z1, z2, z3, z4, z5, z6, z7, z8⟩ := ml9 i hi
              have cc : ∀ c, c < 3 → mi T2 (121 + i) c = mi T' (128 + i) c := fun c hc => by rw [d3 i hi c hc, mi_sI_ne (by omega), mi_sI_ne (by omega)]
              refine ⟨x, y, v, by rw [etw.1]; exact z1, by rw [etw.2]; exact z2, z3, ?_, ?_, ?_, ?_, ?_⟩
              · show mi T2 (q 5 + 1) i = _
                rw [eC _ (by omega) (by omega)]; exact z4
              · show mi T2 (q 5 + 2) i = _
                rw [eC _ (by omega) (by omega)]; exact z5
              · rw [cc 0 (by omega)]; exact z6
              · rw [cc 1 (by omega)]; exact z7
              · rw [cc 2 (by omega)]; exact z8
          · obtain ⟨c1, c2, c3', c4⟩ := h9
            unfold Rc
            rw [eM 0 (by omega) (by omega) (by omega) (by omega), eM 78 (by omega) (by omega) (by omega) (by omega), q30 32 (by omega)]
            exact ⟨c1, c2, c3', c4⟩
        · unfold RM zX zS zN at r ⊢
          rw [hz2]
          exact ⟨r.1, Nat.le_succ_of_le r.2.1, r.2.2.1, r.2.2.2.up.of (fun a ha => by unfold yr9 at ha; exact eM a (by omega) (by omega) (by omega) (by omega))⟩
      · exact absurd (u1.1.2.2.2.2.1.symm.trans nt.1.2.2.2.2.1) hf
    · -- a fault
      rw [k_fine u1, bsome, if_neg hf, if_pos z00, u1.1.2.2.2.2.1] at hcl
      obtain ⟨T0, s1, s2, s3, s4, C9, T', x2, w1, w2, w3, w4, w5⟩ := both (nQ C' (-10 + f9).toInt64) (by rw [nQ_o (by omega), oC.at (by omega)]) (by rw [nQ_o (by omega), oC.at (by omega)])
      have hCC : C9 = C' := Option.some.inj (w1.symm.trans k1)
      subst hCC
      rcases w5 with ⟨n', p1', p2', m6, rfl, m3, ml9, mt, mt2⟩ | ⟨f8, fa8, p7, p6, hf8, v1, v2⟩
      · exact absurd (u1.1.2.2.2.2.1.symm.trans mt.1.2.2.2.2.1) hf
      · have ef : f8 = f9 := v1.1.2.2.2.2.1.symm.trans u1.1.2.2.2.2.1
        subst ef
        have hm9 : f_X10_book (Int32.ofNat L) (sL C9 275 0 (-10 + f8).toInt64) = some (-10 + f8, sI T' 76 3 (mi T' 76 6)) := by
          rw [hml _ (by show mi C9 76 1 = _; rw [oC.at (by omega)]), nQ_def, s1, bsome, show whl fu f_X10_book_b46 (0, T0) = some (x2, T') from w2, bsome]
          dsimp only
          unfold f_X10_book_j245 f_X10_ends
          rw [v2.1.2.2.2.2.1, if_neg hf8, bsome, mi_sI_o (by omega), v2.1.2.2.2.2.1, Int32.sub_eq_add_neg, Int32.add_comm]
        refine gd_bad (Sc := fun a => a = 1 ∨ (q 5 ≤ a ∧ a ≤ q 5 + 2)) (St := fun a => a = 76 ∨ (128 ≤ a ∧ a ≤ 133)) (v := -10 + f8) h r oC (fun a ha => by unfold spC; omega) (by rw [w3.2 1 (by omega)]; exact c11) (om_si ((s2.mono (fun a ha => Or.inl ha)).trans w4.1) (Or.inl rfl)) (fun a ha => by unfold spT; omega) (Or.inl rfl) ?_ ?_ ?_ (fun j hj => ?_) hcl hm9
        · rw [mi_sI_o (by omega), w4.2 0 (by omega), s3 0 (by omega)]; exact nQ_t
        · rw [mi_sI_o (by omega), w4.2 1 (by omega)]; exact s4
        · rw [mi_sI_k, v2.1.2.2.2.2.2, v1.1.2.2.2.2.2]
        · rw [mi_sI_o (by omega), w4.2 j (by omega), s3 j (by omega), nQ_76 (by omega)]
  · have hcl : f_X9_book x M = some (.inl 2, eRef M 2) := by
      unfold f_X9_book
      rw [show (100 : Int32) = Int32.ofNat 100 from rfl, k_open_n hx, bsome]
    refine gd_r2 (b := 0) hI (by decide) hcl ?_
    have hx2 : ¬ ((0 ≤ x ∧ x ≤ mi M 76 1) ∧ x ≤ Int32.ofNat 100) := fun z => hx ((m_opOk h).mpr z)
    have no : f_X10_book_j24 x (sI (eRef M 2) 76 0 0) = some (0, eRefM (eRef M 2) 2 1) := by
      unfold f_X10_book_j24 f_X10_book_j29
      rw [m_r2 1 (by decide), bsome]
      rfl
    have e76 : mi (sI (eRef M 2) 76 0 0) 76 1 = mi M 76 1 := by
      rw [mi_sI_o (by omega)]
      unfold eRef
      rw [mi_sX, mi_sI_ne (by omega)]
    unfold f_X10_book
    rw [m_in, bsome, e76]
    by_cases h1 : 0 ≤ x ∧ x ≤ mi M 76 1
    · rw [if_pos h1, if_neg z10, if_neg (show ¬ x ≤ 100 from fun z => hx2 ⟨h1, z⟩), no]
    · rw [if_neg h1, if_pos z00, no]
end BR
