/-! level 3: the book: the pair -/
section BQ
variable {k : Nat} {M M2 : Mm} {q : Nat → Nat} {b : Nat → Int32} {C C' T T' N : Mm} {L p p' : Nat} {f fa lo hi : Int32} {a0 g w h j : Nat}
theorem bL_1 (hb : TxB b) : bL b L p = -1 ↔ ¬ p < L := by
  unfold bL
  by_cases h1 : p < L
  · rw [if_pos h1]
    exact ⟨fun z => absurd z (b_ne hb), fun z => absurd h1 z⟩
  · rw [if_neg h1]
    exact ⟨fun _ => h1, fun _ => rfl⟩
/-- all lines -/
theorem y_lines (hb : TxB b) (ha : 60 ≤ a0 ∧ a0 ≤ 70) (hg : 2 < g ∧ g < 60) (hga : ¬ (a0 ≤ g ∧ g ≤ a0 + 2)) (hw : (1 ≤ w ∧ w ≤ 8) ∧ 1 ≤ h ∧ h ≤ 6) : ∀ d j p kc kt C T, j + d = 6 → d + 2 ≤ kc → d + 2 ≤ kt → (mi C g 3 = Int32.ofNat w ∧ mi C g 4 = Int32.ofNat h) → (mi T 80 0 = Int32.ofNat w ∧ mi T 80 1 = Int32.ofNat h) → TC b C L p 0 (-1) → TT b T L (nb b L p) 0 (-1) → mi C a0 3 = Int32.ofNat j → (∀ i, i < j → BL w h a0 C T i) → ∃ C' T' x2, whl kc (f_X1_readBook_b7 a0 g) (Int32.ofNat j, C) = some C' ∧ whl kt f_X10_book_b46 (Int32.ofNat j, T) = some (x2, T') ∧ Bf a0 C C' ∧ Bt T T' ∧ ((∃ n p1 p2, n ≤ 6 ∧ x2 = Int32.ofNat n ∧ mi C' a0 3 = Int32.ofNat n ∧ (∀ i, i < n → BL w h a0 C' T' i) ∧ TC b C' L p1 0 (-1) ∧ TT b T' L p2 0 (-1)) ∨ FL b C' T' L) := by
  intro d
  induction d with
  | zero =>
    intro j p kc kt C T hd hkc hkt gC gT h1 h2 h3 hl
    have : j = 6 := by omega
    subst this
    obtain ⟨kc, rfl⟩ : ∃ k', kc = k' + 2 := ⟨kc - 2, by omega⟩
    obtain ⟨kt, rfl⟩ : ∃ k', kt = k' + 2 := ⟨kt - 2, by omega⟩
    obtain ⟨C1, e1, t1, c1, -⟩ := k_next h1
    by_cases hp : nb b L p < L
    · have gC1 : mi C1 g 3 = Int32.ofNat w ∧ mi C1 g 4 = Int32.ofNat h := by rw [c1.1.at (by omega)]; exact gC
      have h31 : mi C1 a0 3 = Int32.ofNat 6 := by rw [c1.1.at (by omega)]; exact h3
      obtain ⟨C2, T2, x2, s1, s2, s3, s4, s5⟩ := y_line hb ha hg hw (by omega) gC1 gT hp (nb_id h1.1.2.1) t1 h2 h31 (fun i hi => by
        obtain ⟨x', y', v', z1, z2, z3, z4, z5, z6⟩ := hl i hi
        exact ⟨x', y', v', z1, z2, z3, by rw [c1.1.at (by omega)]; exact z4, by rw [c1.1.at (by omega)]; exact z5, z6⟩)
      rcases s5 with ⟨z, -⟩ | ⟨rfl, f9, fa9, p9, p8, hf, u1, u2⟩
      · omega
      · refine ⟨C2, T2, Int32.ofNat 6, ?_, ?_, c1.bf.trans s3, s4, Or.inr ⟨f9, fa9, p9, p8, hf, u1, u2⟩⟩
        · rw [whl_s (s' := (Int32.ofNat (6 + 1), C2)) (by
            unfold f_X1_readBook_b7
            dsimp only
            rw [if_neg (show ¬ (6 : Int32) < Int32.ofNat 6 by decide), k_fine h1, bsome, if_pos rfl, if_neg z10, e1, bsome]
            dsimp only
            rw [if_neg (fun z => (bL_1 hb).mp z hp), s1, bsome, oN_S])]
          exact whl_e (by
            unfold f_X1_readBook_b7
            dsimp only
            rw [if_pos (show (6 : Int32) < Int32.ofNat (6 + 1) by decide)])
        · rw [whl_s s2]
          exact whl_e (by
            unfold f_X10_book_b46
            dsimp only
            rw [u2.1.2.2.2.2.1, if_neg hf])
    · refine ⟨C1, T, Int32.ofNat 6, ?_, ?_, c1.bf, Bt.refl, Or.inl ⟨6, _, _, by omega, rfl, by rw [c1.1.at (by omega)]; exact h3, fun i hi => ?_, t1, h2⟩⟩
      · refine whl_e ?_
        unfold f_X1_readBook_b7
        dsimp only
        rw [if_neg (show ¬ (6 : Int32) < Int32.ofNat 6 by decide), k_fine h1, bsome, if_pos rfl, if_neg z10, e1, bsome]
        dsimp only
        rw [if_pos ((bL_1 hb).mpr hp)]
      · refine whl_e ?_
        have hL := h2.1.1
        unfold f_X10_book_b46
        dsimp only
        rw [h2.1.2.2.2.2.1, if_pos rfl, h2.1.2.2.1, h2.1.2.2.2.1, if_pos ((oN_le (by omega) (by have := h2.1.2.1; omega)).mpr (by omega))]
      · obtain ⟨x', y', v', z1, z2, z3, z4, z5, z6⟩ := hl i hi
        exact ⟨x', y', v', z1, z2, z3, by rw [c1.1.at (by omega)]; exact z4, by rw [c1.1.at (by omega)]; exact z5, z6⟩
  | succ d ih =>
    intro j p kc kt C T hd hkc hkt gC gT h1 h2 h3 hl
    obtain ⟨kc, rfl⟩ : ∃ k', kc = k' + 1 := ⟨kc - 1, by omega⟩
    obtain ⟨kt, rfl⟩ : ∃ k', kt = k' + 1 := ⟨kt - 1, by omega⟩
    obtain ⟨C1, e1, t1, c1, -⟩ := k_next h1
    have h6 : ¬ (6 : Int32) < Int32.ofNat j := fun z => lnle z ((oN_le (i := j) (j := 6) (by omega) (by omega)).mpr (by omega))
    by_cases hp : nb b L p < L
    · have gC1 : mi C1 g 3 = Int32.ofNat w ∧ mi C1 g 4 = Int32.ofNat h := by rw [c1.1.at (by omega)]; exact gC
      have h31 : mi C1 a0 3 = Int32.ofNat j := by rw [c1.1.at (by omega)]; exact h3
      obtain ⟨C2, T2, x2, s1, s2, s3, s4, s5⟩ := y_line hb ha hg hw (by omega) gC1 gT hp (nb_id h1.1.2.1) t1 h2 h31 (fun i hi => by
        obtain ⟨x', y', v', z1, z2, z3, z4, z5, z6⟩ := hl i hi
        exact ⟨x', y', v', z1, z2, z3, by rw [c1.1.at (by omega)]; exact z4, by rw [c1.1.at (by omega)]; exact z5, z6⟩)
      have stepC : whl (kc + 1) (f_X1_readBook_b7 a0 g) (Int32.ofNat j, C) = whl kc (f_X1_readBook_b7 a0 g) (Int32.ofNat (j + 1), C2) := whl_s (by
        unfold f_X1_readBook_b7
        dsimp only
        rw [if_neg h6, k_fine h1, bsome, if_pos rfl, if_neg z10, e1, bsome]
        dsimp only
        rw [if_neg (fun z => (bL_1 hb).mp z hp), s1, bsome, oN_S])
      have stepT : whl (kt + 1) f_X10_book_b46 (Int32.ofNat j, T) = whl kt f_X10_book_b46 (x2, T2) := whl_s s2
      rcases s5 with ⟨z1, rfl, z3, z4, p2, z5, z6, z7⟩ | ⟨rfl, f9, fa9, p9, p8, hf, u1, u2⟩
      · have gC2 : mi C2 g 3 = Int32.ofNat w ∧ mi C2 g 4 = Int32.ofNat h := by rw [s3.1.at (by omega)]; exact gC1
        have gT2 : mi T2 80 0 = Int32.ofNat w ∧ mi T2 80 1 = Int32.ofNat h := by rw [s4.1.at (by omega)]; exact gT
        obtain ⟨C3, T3, x3, w1, w2, w3, w4, w5⟩ := ih (j + 1) p2 kc kt C2 T2 (by omega) (by omega) (by omega) gC2 gT2 z6 z7 z3 z4
        exact ⟨C3, T3, x3, stepC.trans w1, stepT.trans w2, (c1.bf.trans s3).trans w3, s4.trans w4, w5⟩
      · obtain ⟨kc, rfl⟩ : ∃ k', kc = k' + 1 := ⟨kc - 1, by omega⟩
        obtain ⟨kt, rfl⟩ : ∃ k', kt = k' + 1 := ⟨kt - 1, by omega⟩
        refine ⟨C2, T2, Int32.ofNat j, stepC.trans (whl_e ?_), stepT.trans (whl_e ?_), c1.bf.trans s3, s4, Or.inr ⟨f9, fa9, p9, p8, hf, u1, u2⟩⟩
        · unfold f_X1_readBook_b7
          dsimp only
          by_cases h9 : (6 : Int32) < Int32.ofNat (j + 1)
          · rw [if_pos h9]
          · rw [if_neg h9, k_fine u1, bsome, if_neg hf, if_pos z00]
        · unfold f_X10_book_b46
          dsimp only
          rw [u2.1.2.2.2.2.1, if_neg hf]
    · refine ⟨C1, T, Int32.ofNat j, ?_, ?_, c1.bf, Bt.refl, Or.inl ⟨j, _, _, by omega, rfl, by rw [c1.1.at (by omega)]; exact h3, fun i hi => ?_, t1, h2⟩⟩
      · refine whl_e ?_
        unfold f_X1_readBook_b7
        dsimp only
        rw [if_neg h6, k_fine h1, bsome, if_pos rfl, if_neg z10, e1, bsome]
        dsimp only
        rw [if_pos ((bL_1 hb).mpr hp)]
      · refine whl_e ?_
        have hL := h2.1.1
        unfold f_X10_book_b46
        dsimp only
        rw [h2.1.2.2.2.2.1, if_pos rfl, h2.1.2.2.1, h2.1.2.2.2.1, if_pos ((oN_le (by omega) (by have := h2.1.2.1; omega)).mpr (by omega))]
      · obtain ⟨x', y', v', z1, z2, z3, z4, z5, z6⟩ := hl i hi
        exact ⟨x', y', v', z1, z2, z3, by rw [c1.1.at (by omega)]; exact z4, by rw [c1.1.at (by omega)]; exact z5, z6⟩
/-- the lines copied -/
theorem m_bcopy {n : Nat} (hn : n ≤ 6) : ∃ N', whl fu (f_X10_book_b269 (Int32.ofNat n)) (0, N) = some N' ∧ Om (fun a => 121 ≤ a ∧ a ≤ 126) N N' ∧ ∀ i, i < n → ∀ c, c < 3 → mi N' (121 + i) c = mi N (128 + i) c := by
  exact whl_ex (f := f_X10_book_b269 (Int32.ofNat n)) (fun i st => ∃ N1, st = (Int32.ofNat i, N1) ∧ Om (fun a => 121 ≤ a ∧ a ≤ 126) N N1 ∧ ∀ t, t < i → ∀ c, c < 3 → mi N1 (121 + t) c = mi N (128 + t) c) (fun N1 => Om (fun a => 121 ≤ a ∧ a ≤ 126) N N1 ∧ ∀ t, t < n → ∀ c, c < 3 → mi N1 (121 + t) c = mi N (128 + t) c) n fu (0, N) (by show n < 1000000; omega) ⟨N, rfl, Om.refl, fun t ht => by omega⟩ (by
    rintro i st hi ⟨N1, rfl, hO, hq⟩
    obtain ⟨N2, p1, p2, p3⟩ := whl_ex (f := f_X10_book_b277 (Int32.ofNat n) (Int32.ofNat i)) (fun c st => ∃ N2, st = (Int32.ofNat c, N2) ∧ Om (fun a => a = 121 + i) N1 N2 ∧ ∀ t, t < c → mi N2 (121 + i) t = mi N (128 + i) t) (fun N2 => Om (fun a => a = 121 + i) N1 N2 ∧ ∀ t, t < 3 → mi N2 (121 + i) t = mi N (128 + i) t) 3 fu (0, N1) (by decide) ⟨N1, rfl, Om.refl, fun t ht => by omega⟩ (by
      rintro c st hc ⟨N2, rfl, hO2, hq2⟩
      unfold f_X10_book_b277
      dsimp only
      rw [if_neg (show ¬ (3 : Int32) ≤ Int32.ofNat c from nle (n := 3) hc (by omega)), ar_120 (by omega), bsome, ar_127 (by omega), bsome, ai_o hc (by omega), bsome, wi_o hc (by omega), bsome, oN_S]
      refine Or.inl ⟨_, rfl, _, rfl, om_si hO2 rfl, fun t ht => ?_⟩
      rw [mi_sI, u1_at]
      by_cases e : t = c
      · rw [if_pos e, e, hO2.at (by omega), hO.at (by omega)]
      · rw [if_neg e]
        exact hq2 t (by omega)) (by
      rintro st ⟨N2, rfl, hO2, hq2⟩
      refine ⟨N2, ?_, hO2, hq2⟩
      unfold f_X10_book_b277
      dsimp only
      rw [if_pos (show (3 : Int32) ≤ Int32.ofNat 3 from le_rf _)])
    unfold f_X10_book_b269
    dsimp only
    rw [if_neg (nle hi (by omega)), show whl fu (f_X10_book_b277 (Int32.ofNat n) (Int32.ofNat i)) (0, N1) = some N2 from p1, bsome, oN_S]
    refine Or.inl ⟨_, rfl, N2, rfl, hO.trans (p2.mono (fun a ha => by omega)), fun t ht c hc => ?_⟩
    by_cases e : t = i
    · rw [e]
      exact p3 c hc
    · rw [p2.at (by omega)]
      exact hq t (by omega) c hc) (by
    rintro st ⟨N1, rfl, hO, hq⟩
    refine ⟨N1, ?_, hO, hq⟩
    unfold f_X10_book_b269
    dsimp only
    rw [if_pos (le_rf _)])
theorem rwd_eq {a : Nat} (h9 : RWd C T a) (hw : ∀ i, i ≤ 7 → mi C' (a + i) = mi C (a + i)) (t1 : mi T' 80 = mi T 80) (t2 : mi T' 196 = mi T 196) : RWd C' T' a := by
  have e := tw_eq t1
  unfold RWd at h9 ⊢
  rw [e.1, e.2, t2]
  exact ⟨h9.1, h9.2.frame hw⟩
theorem rp_eq (h9 : RP C T) (h8 : mi C' 8 = mi C 8) (h99 : mi C' 9 = mi C 9) (h10 : mi C' 10 = mi C 10) (h11 : mi C' 11 = mi C 11) (t1 : mi T' 80 = mi T 80) (t31 : mi T' 76 31 = mi T 76 31) (t33 : mi T' 76 33 = mi T 76 33) (t2 : ∀ a, ((199 ≤ a ∧ a ≤ 218) ∨ (220 ≤ a ∧ a ≤ 222)) → mi T' a = mi T a) : RP C' T' := by
  have e := tw_eq t1
  obtain ⟨⟨n, a1, a2, a3, a4⟩, ⟨m, b1, b2, b3, b4⟩⟩ := h9
  refine ⟨⟨n, a1, by rw [h8]; exact a2, by rw [t31]; exact a3, fun i hi => ?_⟩, ⟨m, b1, by rw [h8]; exact b2, by rw [t33]; exact b3, fun i hi => ?_⟩⟩
  · rw [e.1, e.2, t2 (199 + i) (by omega), h99]
    exact a4 i hi
  · rw [e.1, e.2, t2 (220 + i) (by omega), h10, h11]
    exact b4 i hi
/-- a text with a fault, on both sides -/
theorem gd_bad {v : Int32} {Sc St : Nat → Prop} {M1 : Mm} {fc : Option ((Nat ⊕ Int32) × Mm)} {fm : Mm → Option (Int32 × Mm)} {c0 c1 c2 : Int32} (h9 : RR M M q) (r : RM k M) (hO : Om Sc M M1) (hS : ∀ a, Sc a → spC q a) (h11 : mi M1 1 1 = 0) (hO2 : Om St (nQ M1 v.toInt64) M2) (hS2 : ∀ a, St a → spT a) (h76S : St 76) (j0 : mi M2 76 0 = 0) (j1 : mi M2 76 1 = 0) (j3 : mi M2 76 3 = mi M1 1 6) (h76 : ∀ j, (j = 30 ∨ j = 31 ∨ j = 32 ∨ j = 33) → mi M2 76 j = mi M1 76 j) (h1 : fc = some (.inr v, M1)) (h2 : fm (sL M1 275 0 v.toInt64) = some (v, M2)) : GdI k fc fm c0 c1 c2 := by
  have n1 : ¬ St 1 := fun hs => by
    have := hS2 1 hs
    unfold spT at this
    omega
  have n76 : ¬ Sc 76 := fun hs => by
    have := spC_lt h9.1 (hS 76 hs)
    omega
  have e1 : mi M2 1 = mi M1 1 := by rw [hO2.at n1, nQ_o (by omega)]
  have hx : M2.1 = M.1 := hO2.1.trans hO.1
  refine Or.inr ⟨v, M1, M2, h1, h2, j0, by rw [hO2.2.2.2.1]; exact nQ_out, ⟨q, rr_bad (S := fun a => Sc a ∨ St a) h9 (hO2.2.2.2.2.1.trans hO.2.2.2.2.1) (fun a ha => ?_) (fun a ha => ha.elim (fun z => Or.inl (hS a z)) (fun z => Or.inr (Or.inl (hS2 a z)))) (by rw [e1]; exact h11) j1 (by rw [e1]; exact j3.symm) (fun j hj => by rw [h76 j hj, hO.at n76])⟩, ?_⟩
  · by_cases h9' : a = 76
    · subst h9'
      exact absurd (Or.inr h76S) ha
    · rw [hO2.at (fun z => ha (Or.inr z)), nQ_o h9', hO.at (fun z => ha (Or.inl z))]
  · unfold RM zX zS zN at r ⊢
    rw [hx]
    refine ⟨r.1, Nat.le_succ_of_le r.2.1, r.2.2.1, r.2.2.2.up.of (fun a ha => ?_)⟩
    have h76' : a ≠ 76 := by unfold yr9 at ha; omega
    rw [hO2.at (fun z => sp_yr h9.1 ha (Or.inr (Or.inl (hS2 a z)))), nQ_o h76', hO.at (fun z => sp_yr h9.1 ha (Or.inl (hS a z)))]
end BQ
