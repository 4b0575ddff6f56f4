/-! level 3: a law: the pair -/
section LH9
variable {k : Nat} {M M2 : Mm} {q : Nat → Nat} {b : Nat → Int32} {C C' T T' N : Mm} {L p p' cnt D dep a0 s n m r i : Nat} {f fa : Int32}
theorem law_x1 {x : Int32} : (0 ≤ x ∧ x ≤ 1) ↔ ∃ i : Nat, i < 2 ∧ x = Int32.ofNat i := by
  rw [show (0 : Int32) = Int32.ofNat 0 from rfl, show (1 : Int32) = Int32.ofNat 1 from rfl, in_nat (by omega) (by omega)]
  exact ⟨fun ⟨n, _, h2, h3⟩ => ⟨n, by omega, h3⟩, fun ⟨n, h2, h3⟩ => ⟨n, by omega, by omega, h3⟩⟩
theorem law_01 {x : Int32} : (0 ≤ x ∧ x ≤ 1) ↔ (x = 0 ∨ x = 1) := by
  rw [law_x1]
  constructor
  · rintro ⟨i, hi, rfl⟩
    have : i = 0 ∨ i = 1 := by omega
    rcases this with rfl | rfl
    · exact Or.inl rfl
    · exact Or.inr rfl
  · rintro (rfl | rfl)
    · exact ⟨0, by omega, rfl⟩
    · exact ⟨1, by omega, rfl⟩
theorem k_law_sw (hi : i < 2) (h5 : rd M 0 5 = q 0) (h11 : rd M 0 11 = q 10) (hl : rd M (q 0) (1 + i) = q (6 + i)) : (if Int32.ofNat i = 0 then (f_X3_swapHarm (rd M 0 5) (rd M 0 11) M).bind fun (v16, M16) => some ((Sum.inr (1 : Int32) : Nat ⊕ Int32), (sR M16 0 11 (some v16))) else (f_X3_swapRise (rd M 0 5) (rd M 0 11) M).bind fun (v13, M13) => some (.inr (1 : Int32), (sR M13 0 11 (some v13)))) = some (.inr 1, sR (sR M (q 0) (1 + i) (some (q 10))) 0 11 (some (q (6 + i)))) := by
  rw [h5, h11]
  have : i = 0 ∨ i = 1 := by omega
  rcases this with rfl | rfl
  · rw [if_pos (show Int32.ofNat 0 = 0 from rfl)]
    unfold f_X3_swapHarm
    rw [bsome]
    dsimp only
    rw [show rd M (q 0) 1 = q 6 from hl]
  · rw [if_neg (show ¬ Int32.ofNat 1 = 0 by decide)]
    unfold f_X3_swapRise
    rw [bsome]
    dsimp only
    rw [show rd M (q 0) 2 = q 7 from hl]
theorem G_law (hI : INV k M) : ∀ x1 x2 : Int32, GdI k (f_X9_law x1 x2 M) (f_X10_law x1 x2) 0 0 1 := by
  obtain ⟨⟨q, h⟩, r⟩ := id hI
  intro x1 x
  have hn := ids_n h.1
  obtain ⟨hg, hw9, hbk, hll, hdist⟩ := ids_all h.1
  by_cases hx1 : 0 ≤ x1 ∧ x1 ≤ 1
  · obtain ⟨i, hi, rfl⟩ := law_x1.mp hx1
    have hi2 : i = 0 ∨ i = 1 := by omega
    have hcl0 : f_X9_law (Int32.ofNat i) x M = (f_X9_openText x (150 : Int32) M).bind fun q3 => match q3 with | (.inl e3, M3) => some (.inl e3, M3) | (.inr v3, M3) => (f_X4_readLaw (rd M3 0 11) M3).bind fun M6 => (f_X7_isFine M6).bind fun v8 => (if v8 = 0 then some (.inr ((-10 : Int32) + (mi M6 1 5)), M6) else (if Int32.ofNat i = 0 then (f_X3_swapHarm (rd M6 0 5) (rd M6 0 11) M6).bind fun (v16, M16) => some (.inr (1 : Int32), (sR M16 0 11 (some v16))) else (f_X3_swapRise (rd M6 0 5) (rd M6 0 11) M6).bind fun (v13, M13) => some (.inr (1 : Int32), (sR M13 0 11 (some v13))))) := by
      unfold f_X9_law f_X9_law_j10 f_X9_law_j15
      rcases hi2 with rfl | rfl
      · rw [if_pos (show Int32.ofNat 0 = 0 from rfl), needA1, bsome]
        rfl
      · rw [if_neg (show ¬ Int32.ofNat 1 = 0 by decide), if_pos (show Int32.ofNat 1 = 1 from rfl), needA1, bsome]
        rfl
    by_cases hx : opOk M x (Int32.ofNat 150)
    · obtain ⟨L, hL, rfl, hop⟩ := k_open (M := M) (lm := 150) (by omega) hx
      have hx2 := (m_opOk h).mp hx
      have e11 : rd (opM M L) 0 11 = q 10 := (rd_o op_O.1.2.2.2.2.1).trans (rd_of h.1.1.2.2.2.2.2.2)
      have a10 : isL (q 10) := hll 10 (by omega) (by omega)
      have ha : 28 ≤ q 10 ∧ q 10 < 74 := by unfold isL at a10; omega
      have both : ∀ N : Mm, mi N 77 = mi M 77 → ∃ T0, f_X10_starts (Int32.ofNat L) N = some T0 ∧ Om (fun a => a = 76) N T0 ∧ (∀ j, (j = 0 ∨ j = 3 ∨ 8 < j) → mi T0 76 j = mi N 76 j) ∧ mi T0 76 1 = 0 ∧ ∃ C' T', f_X4_readLaw (q 10) (opM M L) = some C' ∧ ((f_X10_sum (sI T0 76 23 0)).bind fun M6 => mEnd M6) = some T' ∧ Lf (q 10) (opM M L) C' ∧ Lt9 T0 T' ∧ ((∃ n, 0 < n ∧ n ≤ L ∧ TC (txt M) C' L L 0 (-1) ∧ TT (txt M) T' L L 0 (-1) ∧ LwS (q 10) C' T' L n 1 0) ∨ FL (txt M) C' T' L) := fun N e77 => by
        obtain ⟨T0, s1, s2, s3, s4, s5, -, s8⟩ := m_starts (b := txt M) (N := N) (L := L) txt_b (by omega) (fun i hi => by rw [e77]; exact (h.2.1.2.1 i hi).symm)
        exact ⟨T0, s1, s3, s4, s5, y_law txt_b hL ha.1 (op_TC (by omega)) s2 s8⟩
      obtain ⟨-, -, -, -, -, C', Td, k1, -, k3, -, k5⟩ := both M rfl
      have oC : Om (fun a => a = 1 ∨ (a = q 10 ∨ a = q 10 + 1)) M C' := (op_O.1.mono (fun a ha => Or.inl ha)).trans k3.1
      have rC' : mr C' = mr M := oC.2.2.2.2.1
      have c11 : mi C' 1 1 = 0 := (k3.2 1 (by omega)).trans op_O.2.1
      have hcl1 : f_X9_law (Int32.ofNat i) (Int32.ofNat L) M = (f_X7_isFine C').bind fun v8 => (if v8 = 0 then some (.inr ((-10 : Int32) + (mi C' 1 5)), C') else some (.inr 1, sR (sR C' (q 0) (1 + i) (some (q 10))) 0 11 (some (q (6 + i))))) := by
        rw [hcl0, show (150 : Int32) = Int32.ofNat 150 from rfl, hop, bsome]
        dsimp only
        rw [e11, k1, bsome]
        refine congrArg _ (funext fun v8 => ?_)
        rw [k_law_sw hi ((rd_o rC').trans h.g) ((rd_o rC').trans (rd_of h.1.1.2.2.2.2.2.2)) ((rd_o rC').trans (by
          rcases hi2 with rfl | rfl
          · exact rd_of h.1.2.1.1
          · exact rd_of h.1.2.1.2.1))]
      have hml : ∀ N : Mm, mi N 76 1 = mi M 76 1 → f_X10_law (Int32.ofNat i) (Int32.ofNat L) N = (f_X10_starts (Int32.ofNat L) (sI N 76 0 0)).bind fun M5 => ((f_X10_sum (sI M5 76 23 0)).bind fun M6 => mEnd M6).bind fun M7 => f_X10_law_j94 (Int32.ofNat i) M7 := fun N e76 => by
        unfold f_X10_law
        rw [m_in, bsome, if_pos hx1, if_neg z10, m_in, bsome, mi_sI_o (by omega), e76, if_pos hx2.1, if_neg z10, if_pos (show Int32.ofNat L ≤ 150 from hx2.2)]
        unfold f_X10_law_j39 mEnd
        rw [m_fine, bsome]
        dsimp only
        rw [if_pos z00]
        refine congrArg _ (funext fun M5 => ?_)
        cases f_X10_sum (sI M5 76 23 0) with
        | none => rfl
        | some M6 =>
          rw [bsome, bsome]
          cases f_X10_blanks M6 with
          | none => rfl
          | some M7 =>
            rw [bsome, bsome]
            by_cases z1 : mi M7 76 5 = 0
            · rw [if_pos z1, if_pos z1]
              by_cases z2 : mi M7 76 2 ≤ mi M7 76 4
              · rw [if_pos z2, if_pos z2, bsome]
              · rw [if_neg z2, if_neg z2]
            · rw [if_neg z1, if_neg z1, bsome]
      rcases k5 with ⟨n, n0, nL, nt, -, nw⟩ | ⟨f9, fa9, p9, p8, hf, u1, u2⟩
      · -- told
        rw [k_fine nt, bsome, if_pos rfl, if_neg z10] at hcl1
        generalize hM1 : sR (sR C' (q 0) (1 + i) (some (q 10))) 0 11 (some (q (6 + i))) = M1 at hcl1
        have mM1 : mi M1 = mi C' := by rw [← hM1]; rfl
        have rM1 : ∀ a j, mr M1 a j = if a = 0 ∧ j = 11 then some (q (6 + i)) else if a = q 0 ∧ j = 1 + i then some (q 10) else mr M a j := fun a j => by rw [← hM1, mr_sR, mr_sR, rC']
        have x1 : M1.1 = M.1 := by rw [← hM1]; exact oC.1
        obtain ⟨T0, s1, s2, s3, s4, C9, T', w1, w2, w3, w4, w5⟩ := both (nQ M1 (1 : Int32).toInt64) (by rw [nQ_o (by omega), mM1, oC.at (by omega)])
        have hCC : C9 = C' := Option.some.inj (w1.symm.trans k1)
        subst hCC
        rcases w5 with ⟨n', n0', nL', mt, mt2, mw⟩ | ⟨f9, fa9, p9, p8, hf, u1, u2⟩
        · have oT0 : Om (fun a => a = 76 ∨ a = 134) (nQ M1 (1 : Int32).toInt64) T' := (s2.mono (fun a ha => Or.inl ha)).trans w4.1
          have e23 : mi (sI (sI T' 76 3 (-1)) 114 i (Int32.ofNat n')) 76 23 = Int32.ofNat n' := by rw [mi_sI_ne (by omega), mi_sI_o (by omega)]; exact mw.2.1
          obtain ⟨T2, d1, d2, d3⟩ := m_lcopy (N := sI (sI T' 76 3 (-1)) 114 i (Int32.ofNat n')) hi (show n' ≤ 150 by omega) e23
          have hm9 : f_X10_law (Int32.ofNat i) (Int32.ofNat L) (sL M1 275 0 (1 : Int32).toInt64) = some (1, T2) := by
            rw [hml _ (by show mi M1 76 1 = _; rw [mM1, oC.at (by omega)]), nQ_def, s1, bsome, w2, bsome]
            unfold f_X10_law_j94
            rw [mt2.1.2.2.2.2.1, if_pos rfl, mi_sI_o (by omega), mw.2.1, wi_o hi (by omega), bsome, d1, bsome]
          have oT : ∀ a, a ≠ 76 → a ≠ 134 → a ≠ 114 → a ≠ 118 + i → mi T2 a = mi M1 a := fun a h1 h2 h3 h4 => by rw [d2.at (by omega), mi_sI_ne h3, mi_sI_ne h1, oT0.at (by omega), nQ_o h1]
          have e76 : ∀ j, (j = 0 ∨ 29 < j ∨ j = 3 ∨ j = 1) → mi T2 76 j = if j = 3 then -1 else if j = 1 then 0 else mi (nQ M1 (1 : Int32).toInt64) 76 j := fun j hj => by
            rw [d2.at (by omega), mi_sI_ne (by omega), mi_sI, u1_at]
            by_cases e : j = 3
            · rw [if_pos e, if_pos e]
            · rw [if_neg e, if_neg e, w4.2 j (by omega)]
              by_cases e1 : j = 1
              · rw [if_pos e1, e1]; exact s4
              · rw [if_neg e1]; exact s3 j (by omega)
          have eM : ∀ a, a ≠ 1 → a ≠ q 10 → a ≠ q 10 + 1 → a ≠ 76 → a ≠ 134 → a ≠ 114 → a ≠ 118 + i → mi T2 a = mi M a := fun a h1 h2 h3 h4 h5 h6 h7 => by rw [oT a h4 h5 h6 h7, mM1, oC.at (by omega)]
          have eC : ∀ a, a < 76 → mi T2 a = mi C9 a := fun a h3 => by rw [oT a (by omega) (by omega) (by omega) (by omega), mM1]
          have eH : ∀ a, 76 < a → a ≠ 134 → a ≠ 114 → a ≠ 118 + i → mi T2 a = mi M a := fun a h1 h2 h3 h4 => eM a (by omega) (by omega) (by omega) (by omega) h2 h3 h4
          have hr2 : mr T2 = mr M1 := d2.2.2.2.2.1.trans (oT0.2.2.2.2.1)
          have hz2 : T2.1 = M.1 := (d2.1.trans oT0.1).trans x1
          have q30 : ∀ j, (j = 30 ∨ j = 31 ∨ j = 32 ∨ j = 33) → mi T2 76 j = mi M 76 j := fun j hj => by rw [e76 j (by omega), if_neg (by omega), if_neg (by omega), nQ_76 (by omega), mM1, oC.at (by omega)]
          -- class's things apart from the spare law
          have eLo : ∀ a, a < 76 → a ≠ 1 → ¬ lw10 a → mi T2 a = mi M a := fun a h1 h2 h3 => eM a h2 (fun z => h3 (lw_of a10 (Or.inl z))) (fun z => h3 (lw_of a10 (Or.inr z))) (by omega) (by omega) (by omega) (by omega)
          have e114 : ∀ j, mi T2 114 j = if j = i then Int32.ofNat n' else mi M 114 j := fun j => by
            rw [d2.at (by omega), mi_sI, u1_at, mi_sI_ne (by omega), oT0.at (by omega), nQ_o (by omega), mM1, oC.at (by omega)]
          have newL : RLaw T2 T2 (q 10) i := by
            refine Or.inr ⟨n', n0', by omega, ?_, ?_, ?_, ?_⟩
            · rw [eC _ (by omega)]; exact mw.1
            · rw [e114, if_pos rfl]
            · rw [eC _ (by unfold isL at a10; omega)]
              refine lwE_congr mw.2.2.2.2.1 (fun j hj => ?_)
              rw [d3 j hj, mi_sI_ne (by omega), mi_sI_ne (by omega)]
            · rw [dp_congr (g := mi T' 134) n' (fun j hj => by rw [d3 (2 * j) (by omega), mi_sI_ne (by omega), mi_sI_ne (by omega)])]
              exact mw.2.2.2.2.2
          have oldL : ∀ l t, t ≠ i → (t = 0 ∨ t = 1) → isL l → l ≠ q 10 → RLaw M M l t → RLaw T2 T2 l t := fun l t h1 h2 h3 h4 h5 => by
            have e1 : ∀ c, (c = l ∨ c = l + 1) → mi T2 c = mi M c := fun c hc => by
              have hc9 := lw_of h3 hc
              refine eM c ?_ (fun z => lw_ne h3 a10 h4 hc (Or.inl z)) (fun z => lw_ne h3 a10 h4 hc (Or.inr z)) ?_ ?_ ?_ ?_
              · unfold lw10 at hc9; omega
              · unfold lw10 at hc9; omega
              · unfold lw10 at hc9; omega
              · unfold lw10 at hc9; omega
              · unfold lw10 at hc9; omega
            exact rlaw_eq2 h5 (by rw [e1 l (Or.inl rfl)]) (e1 (l + 1) (Or.inr rfl)) (by rw [e114, if_neg h1]) (eH _ (by omega) (by omega) (by omega) (by omega))
          have ql : ∀ t, t < 6 → qL q i t = q t := fun t ht => by
            unfold qL
            rw [if_neg (by omega), if_neg (by omega)]
          have n82 := lw10
          refine Or.inr ⟨1, M1, T2, hcl1, hm9, ?_, ?_, ⟨qL q i, ?_⟩, ?_⟩
          · rw [e76 0 (by omega), if_neg (by omega), if_neg (by omega)]; exact nQ_t
          · rw [d2.2.2.2.1, show ml (sI (sI T' 76 3 (-1)) 114 i (Int32.ofNat n')) = ml T' from rfl, oT0.2.2.2.1]; exact nQ_out
          · obtain ⟨h1, h2, h3, h4, h5, h6, h7, h8, h9⟩ := h
            have hid := ids_law (C := T2) h1 hi2 (fun a j => by rw [hr2]; exact rM1 a j)
            have nlw : ∀ a, ¬ lw10 a ↔ ¬ (a = 30 ∨ a = 31 ∨ a = 34 ∨ a = 35 ∨ a = 40 ∨ a = 41 ∨ a = 44 ∨ a = 45 ∨ a = 72 ∨ a = 73) := fun a => Iff.rfl
            refine ⟨hid, ⟨⟨0, by omega, ?_, ?_⟩, ?_, ?_⟩, ?_, ?_, ?_, ?_, ?_, ?_, ?_⟩
            · rw [eC 1 (by omega)]; exact c11
            · rw [e76 1 (by omega), if_neg (by omega), if_pos rfl]; rfl
            · intro t ht
              rw [eC 2 (by omega), eH 77 (by omega) (by omega) (by omega) (by omega), oC.at (by omega)]
              exact h2.2.1 t ht
            · rw [eC 1 (by omega), mt.1.2.2.2.2.2, e76 3 (by omega), if_pos rfl]
            · rw [ql 0 (by omega)]
              exact rgd_eq h3 (eLo _ (by omega) (by omega) ((nlw _).mpr (by omega))) (eLo _ (by omega) (by omega) ((nlw _).mpr (by omega))) (eH 80 (by omega) (by omega) (by omega) (by omega)) (eH 82 (by omega) (by omega) (by omega) (by omega))
            · unfold qL
              by_cases e : i = 0
              · subst e
                rw [if_pos rfl]
                exact newL
              · rw [if_neg (by omega), if_neg (by omega)]
                exact oldL (q 6) 0 (by omega) (Or.inl rfl) (hll 6 (by omega) (by omega)) (hdist 6 10 (by omega) (by omega) (by omega)) h4
            · unfold qL
              by_cases e : i = 1
              · subst e
                rw [if_pos rfl]
                exact newL
              · rw [if_neg (by omega), if_neg (by omega)]
                exact oldL (q 7) 1 (by omega) (Or.inr rfl) (hll 7 (by omega) (by omega)) (hdist 7 10 (by omega) (by omega) (by omega)) h5
            · rw [ql 2 (by omega)]
              exact rwd_eq h6 (fun t ht => eLo _ (by omega) (by omega) ((nlw _).mpr (by omega))) (eH 80 (by omega) (by omega) (by omega) (by omega)) (eH 196 (by omega) (by omega) (by omega) (by omega))
            · exact rp_eq h7 (eLo 8 (by omega) (by omega) ((nlw _).mpr (by omega))) (eLo 9 (by omega) (by omega) ((nlw _).mpr (by omega))) (eLo 10 (by omega) (by omega) ((nlw _).mpr (by omega))) (eLo 11 (by omega) (by omega) ((nlw _).mpr (by omega))) (eH 80 (by omega) (by omega) (by omega) (by omega)) (q30 31 (by omega)) (q30 33 (by omega)) (fun a ha => eH a (by omega) (by omega) (by omega) (by omega))
            · rw [ql 4 (by omega)]
              exact rbk_eq h8 (eLo _ (by omega) (by omega) ((nlw _).mpr (by omega))) (eLo _ (by omega) (by omega) ((nlw _).mpr (by omega))) (eLo _ (by omega) (by omega) ((nlw _).mpr (by omega))) (eH 80 (by omega) (by omega) (by omega) (by omega)) (q30 30 (by omega)) (fun a h1 h2 => eH a (by omega) (by omega) (by omega) (by omega))
            · obtain ⟨c1, c2, c3', c4⟩ := h9
              unfold Rc
              rw [eLo 0 (by omega) (by omega) ((nlw _).mpr (by omega)), eH 78 (by omega) (by omega) (by omega) (by omega), q30 32 (by omega)]
              exact ⟨c1, c2, c3', c4⟩
          · unfold RM zX zS zN at r ⊢
            rw [hz2]
            exact ⟨r.1, Nat.le_succ_of_le r.2.1, r.2.2.1, r.2.2.2.up.of (fun a ha => by unfold yr9 at ha; exact eH a (by omega) (by omega) (by omega) (by omega))⟩
        · exact absurd (u1.1.2.2.2.2.1.symm.trans nt.1.2.2.2.2.1) hf
      · -- a fault
        rw [k_fine u1, bsome, if_neg hf, if_pos z00, u1.1.2.2.2.2.1] at hcl1
        obtain ⟨T0, s1, s2, s3, s4, C9, T', w1, w2, w3, w4, w5⟩ := both (nQ C' (-10 + f9).toInt64) (by rw [nQ_o (by omega), oC.at (by omega)])
        have hCC : C9 = C' := Option.some.inj (w1.symm.trans k1)
        subst hCC
        rcases w5 with ⟨n', n0', nL', mt, mt2, mw⟩ | ⟨f8, fa8, p7, p6, hf8, v1, v2⟩
        · exact absurd (u1.1.2.2.2.2.1.symm.trans mt.1.2.2.2.2.1) hf
        · have ef : f8 = f9 := v1.1.2.2.2.2.1.symm.trans u1.1.2.2.2.2.1
          subst ef
          have hm9 : f_X10_law (Int32.ofNat i) (Int32.ofNat L) (sL C9 275 0 (-10 + f8).toInt64) = some (-10 + f8, sI T' 76 3 (mi T' 76 6)) := by
            rw [hml _ (by show mi C9 76 1 = _; rw [oC.at (by omega)]), nQ_def, s1, bsome, w2, bsome]
            unfold f_X10_law_j94 f_X10_ends
            rw [v2.1.2.2.2.2.1, if_neg hf8, bsome, mi_sI_o (by omega), v2.1.2.2.2.2.1, Int32.sub_eq_add_neg, Int32.add_comm]
          refine gd_bad (Sc := fun a => a = 1 ∨ (a = q 10 ∨ a = q 10 + 1)) (St := fun a => a = 76 ∨ a = 134) (v := -10 + f8) h r oC (fun a ha => by unfold spC; omega) c11 (om_si ((s2.mono (fun a ha => Or.inl ha)).trans w4.1) (Or.inl rfl)) (fun a ha => by unfold spT; omega) (Or.inl rfl) ?_ ?_ ?_ (fun j hj => ?_) hcl1 hm9
          · rw [mi_sI_o (by omega), w4.2 0 (by omega), s3 0 (by omega)]; exact nQ_t
          · rw [mi_sI_o (by omega), w4.2 1 (by omega)]; exact s4
          · rw [mi_sI_k, v2.1.2.2.2.2.2, v1.1.2.2.2.2.2]
          · rw [mi_sI_o (by omega), w4.2 j (by omega), s3 j (by omega), nQ_76 (by omega)]
    · have hcl : f_X9_law (Int32.ofNat i) x M = some (.inl 2, eRef M 2) := by
        rw [hcl0, show (150 : Int32) = Int32.ofNat 150 from rfl, k_open_n hx, bsome]
      refine gd_r2 (b := 0) hI (by decide) hcl ?_
      have hx2 : ¬ ((0 ≤ x ∧ x ≤ mi M 76 1) ∧ x ≤ Int32.ofNat 150) := fun z => hx ((m_opOk h).mpr z)
      have no : f_X10_law_j34 (Int32.ofNat i) x (sI (eRef M 2) 76 0 0) = some (0, eRefM (eRef M 2) 2 1) := by
        unfold f_X10_law_j34 f_X10_law_j39
        rw [m_r2 1 (by decide), bsome]
        rfl
      have e76 : mi (sI (eRef M 2) 76 0 0) 76 1 = mi M 76 1 := by
        rw [mi_sI_o (by omega)]
        unfold eRef
        rw [mi_sX, mi_sI_ne (by omega)]
      unfold f_X10_law
      rw [m_in, bsome, if_pos hx1, if_neg z10, m_in, bsome, e76]
      by_cases h1 : 0 ≤ x ∧ x ≤ mi M 76 1
      · rw [if_pos h1, if_neg z10, if_neg (show ¬ x ≤ 150 from fun z => hx2 ⟨h1, z⟩), no]
      · rw [if_neg h1, if_pos z00, no]
  · have h01 : ¬ (x1 = 0 ∨ x1 = 1) := fun z => hx1 (law_01.mpr z)
    have hcl : f_X9_law x1 x M = some (.inl 2, eRef M 2) := by
      unfold f_X9_law f_X9_law_j15
      rw [if_neg (fun z => h01 (Or.inl z)), if_neg (fun z => h01 (Or.inr z)), needA0, bsome]
    refine gd_r2 (b := 0) hI (by decide) hcl ?_
    unfold f_X10_law f_X10_law_j34 f_X10_law_j39
    rw [m_in, bsome, if_neg hx1, if_pos z00, m_r2 1 (by decide), bsome]
    rfl
end LH9
