/-! level 3: a law read: parts, and all of it -/
section LE9
variable {b : Nat → Int32} {C C' T T' : Mm} {L p cnt D dep a0 p0 s n m r : Nat} {f fa x2 : Int32}
theorem y_part (hb : TxB b) (hL : L ≤ 150) (ha : 28 ≤ a0) (hd : dep ≤ 6) (hn : 5 ≤ n) (hm : 3 ≤ m) (hG1 : dep < 6 → HG b a0 L (cR n 0 a0) (R_X10_sum m 0) (dep + 1)) (hG2 : dep < 6 → HG b a0 L (cR (n + 1) 0 a0) (R_X10_sum m 0) (dep + 1)) : HG b a0 L (cR (n + 3) 2 a0) (R_X10_sum (m + 1) 2) dep := by
  intro C T p p' s cnt D hS hS2 he hs hr
  have hp := hS.1.2.1
  have hcn := hr.2.2.1
  have hge : p ≤ nb b L p := nb_ge hp
  have hle : nb b L p ≤ L := nb_le hp
  have hid : nb b L (nb b L p) = nb b L p := nb_id hp
  obtain ⟨C1, e1, t1, c1, -⟩ := k_next hS
  obtain ⟨T1, g1, u1, d1⟩ := m_blanks hb hS2
  rw [he] at u1
  obtain ⟨T2, w, g2, d2, u2, hw⟩ := m_ask (lw := [9, 6]) (x1 := 9) (x2 := 6) (x3 := 0) (x4 := 0) (x5 := 0) (x6 := 0) hb u1 hid (by decide) (by decide) (fun M => by rfl)
  have hC : cR (n + 3) 2 a0 dep C = (if (if isDg (bL b L (nb b L p)) then (1 : Int32) else 0) = 0 then (f_X7_isNext 40 C1).bind fun (v4, M4) => (if v4 = 0 then (R_X4_readSum (n + 2) 4 a0 (Int32.ofNat dep) M4).bind fun M6 => some M6 else (R_X4_readSum (n + 2) 3 a0 (Int32.ofNat dep) M4).bind fun M7 => some M7) else (f_X7_readNumber 0 999 C1).bind fun (v8, M8) => (f_X4_put a0 v8 M8).bind fun M9 => some M9) := by
    show fb_X4_readPart (R_X4_readSum (n + 2)) a0 (Int32.ofNat dep) C = _
    unfold fb_X4_readPart
    rw [e1, bsome]
    dsimp only
    rw [k_isDigit, bsome]
  have hT : R_X10_sum (m + 1) 2 T = (if w = 0 then (f_X10_byteAt (mi T2 76 4) T2).bind fun v5 => (if v5 = (40 : Int32) then (f_X10_opens T2).bind fun (v12, M12) => (if v12 = 0 then some M12 else (R_X10_sum m 0 (sI M12 76 4 ((mi M12 76 4) + (1 : Int32)))).bind fun M14 => (f_X10_sign (41 : Int32) M14).bind fun M15 => some (sI M15 76 8 ((mi M15 76 8) - (1 : Int32)))) else (f_X10_knownHere T2).bind fun (v7, M7) => (if v7 = (-1 : Int32) then (f_X10_number (0 : Int32) (999 : Int32) M7).bind fun (v9, M9) => (f_X10_notes (0 : Int32) v9 M9).bind fun M10 => some M10 else (f_X10_notes (1 : Int32) v7 M7).bind fun M11 => some M11)) else (f_X10_opens T2).bind fun (v16, M16) => (if v16 = 0 then some M16 else (f_X10_skipWord M16).bind fun M18 => (f_X10_sign (91 : Int32) M18).bind fun M19 => (R_X10_sum m 0 M19).bind fun M20 => (f_X10_sign (44 : Int32) M20).bind fun M21 => (R_X10_sum m 0 M21).bind fun M22 => (f_X10_sign (44 : Int32) M22).bind fun M23 => (R_X10_sum m 0 M23).bind fun M24 => (f_X10_sign (93 : Int32) M24).bind fun M25 => (f_X10_notes (7 : Int32) (0 : Int32) M25).bind fun M26 => some (sI M26 76 8 ((mi M26 76 8) - (1 : Int32))))) := by
    show fb_X10_one (R_X10_sum m) T = _
    unfold fb_X10_one
    rw [hS2.1.2.2.2.2.1, if_pos rfl, g1, bsome, g2, bsome]
  have dd := d1.trans d2
  have lwT : ∀ {C' T' : Mm} {p' : Nat}, CFr C1 C' → TFr T2 T' → p ≤ p' → LwS a0 C' T' (p' - s) cnt D dep := fun h1 h2 h3 => hr.of ha (by omega) (c1.trans h1) (dd.trans h2)
  have kb1 : ∀ {C' : Mm}, CFr C1 C' → KB a0 C' := fun h1 => KB.of (hr.kb (by omega)) ha (c1.trans h1)
  have hpos : mi T2 76 4 = Int32.ofNat (nb b L p) := u2.1.2.2.2.1
  have hbyte : f_X10_byteAt (mi T2 76 4) T2 = some (bL b L (nb b L p)) := by
    rw [hpos]
    exact m_byte u2 (by omega)
  have h8 : mi T2 76 8 = Int32.ofNat dep := (dd.2 8 (by omega)).trans hr.2.2.2.1
  rw [hC, hT]
  by_cases hdg : isDg (bL b L (nb b L p))
  · -- a number
    have hsm : ¬ isSm (bL b L (nb b L p)) := fun z => lnle (show (57 : Int32) < 97 by decide) (Int32.le_trans z.1 hdg.2)
    rcases hw with ⟨-, hy⟩ | ⟨rfl, hno⟩
    · exact absurd hy (isW_no hsm (by decide))
    have h40 : ¬ bL b L (nb b L p) = 40 := fun z => by rw [z] at hdg; exact absurd hdg.1 (by decide)
    obtain ⟨T3, v, g3, d3, hv, hk⟩ := m_known hb u2 hid
    have hv1 := fst_none _ _ _ (wsK_no hsm) hv
    subst hv1
    have u3 : TT b T3 L (nb b L p) 0 (-1) := by
      rcases hk with ⟨-, h⟩ | ⟨j, h1, h2, -⟩
      · exact h
      · exact absurd h2 (fun z => oN_nn (i := j) (by omega) (by rw [← z]; decide))
    obtain ⟨v, C4, v', T4, a1, a2, a3, a4, a5⟩ := y_num2 (lo := 0) (hi := 999) hb t1 u3 rfl
    rw [if_pos hdg, if_neg z10, a1, bsome, if_pos z00, hbyte, bsome, if_neg h40, g3, bsome]
    dsimp only
    rw [if_pos rfl, a2, bsome]
    dsimp only
    rcases a5 with ⟨rfl, l1, l2, -, p2, q1, q2⟩ | ⟨rfl, f, fa, p2, p3, hf, y1, y2⟩
    · obtain ⟨C5, T5, b1, b2, b3, b4, b5, b6⟩ := y_put2 (r' := p2 - s) (c := v') (how := 0) (v := v') ha hL q2 (lwT (p' := nb b L p) a3 (d3.trans a4) (by omega)) (by omega) (by omega) (Or.inl ⟨rfl, rfl, (in_nat (lo := 0) (hi := 999) (by omega) (by omega)).mp ⟨l1, l2⟩⟩) (Or.inl (Or.inl rfl))
      rw [b1, bsome, b2, bsome]
      exact ⟨C5, T5, rfl, rfl, (c1.trans a3).lf.trans b3, (dd.trans (d3.trans a4)).lt.trans b4, Or.inl ⟨p2, cnt + 1, by omega, b5, by omega, b6⟩⟩
    · obtain ⟨C5, b1, b2, b3, p5, b4⟩ := kf_put (x := v) ha (kf_0 (kb1 a3) y1)
      rw [b1, bsome, mf_notes hf y2, bsome]
      exact ⟨C5, T4, rfl, rfl, (c1.trans a3).lf.trans b2, (dd.trans (d3.trans a4)).lt, Or.inr ⟨⟨f, fa, p5, p3, hf, b4, y2⟩, b3⟩⟩
  · rw [if_neg hdg, if_pos z00]
    obtain ⟨C3, a1, a2, a3⟩ := k_isNext (x := 40) t1 rfl
    rw [hid] at a1 a3
    by_cases h40 : bL b L (nb b L p) = 40
    · -- a bracket
      have hsm : ¬ isSm (bL b L (nb b L p)) := fun z => by rw [h40] at z; exact absurd z.1 (by decide)
      rcases hw with ⟨-, hy⟩ | ⟨rfl, hno⟩
      · exact absurd hy (isW_no hsm (by decide))
      have hlt : nb b L p < L := by
        by_cases hlt : nb b L p < L
        · exact hlt
        · unfold bL at h40
          rw [if_neg hlt] at h40
          exact absurd h40 (by decide)
      rw [if_pos h40] at a1
      rw [a1, bsome]
      dsimp only
      rw [if_neg z10, if_pos z00, hbyte, bsome, if_pos h40]
      show ∃ C' T', ((fb_X4_readBracket (R_X4_readSum (n + 1)) a0 (Int32.ofNat dep) C3).bind fun M7 => some M7) = some C' ∧ _
      unfold fb_X4_readBracket
      rcases m_opens u2 h8 hd with ⟨h6, o1⟩ | ⟨h6, T3, o1, o2, o3⟩
      · have x1 := (hG2 h6).sy (sI C3 1 3 (Int32.ofNat (nb b L p + 1))) (sI (sI T2 76 8 (Int32.ofNat (dep + 1))) 76 4 (Int32.ofNat (nb b L p + 1))) (nb b L p + 1) (s + 1) cnt D ⟨a3.pos (by omega), u2.d8.pos (by omega)⟩ (by omega) ((hr.of (p' := nb b L p + 1 - (s + 1)) ha (by omega) ((c1.trans a2).trans (CFr.s (by omega))) dd).d8.of ha (Nat.le_refl _) CFr.refl (TFr.s (by omega)))
        obtain ⟨C4, T4, r1, r2, r3, r4, r5⟩ := x1
        obtain ⟨C5, T5, r6, r7, r8, r9, r10⟩ := x_sgn (x := 41) hb hL ha (by decide) (r5.lt (p0 := p) (by omega))
        rw [if_pos (show Int32.ofNat dep < 6 from (oN_lt (j := 6) (by omega) (by omega)).mpr h6), k_skipSign a3 hlt, bsome, oN_S, show R_X4_readSum (n + 1) 0 a0 (Int32.ofNat (dep + 1)) (sI C3 1 3 (Int32.ofNat (nb b L p + 1))) = some C4 from r1, bsome, r6, bsome, bsome, o1, bsome]
        dsimp only
        rw [if_neg z10, mi_sI_o (by omega), hpos, oN_S, r2, bsome, r7, bsome]
        refine ⟨C5, _, rfl, rfl, (((c1.trans a2).trans (CFr.s (by omega))).lf.trans r3).trans r8, (((dd.lt.trans (Lt9.s (by omega))).trans (TFr.s (by omega)).lt).trans r4).trans (r9.trans (Lt9.s (by omega))), ?_⟩
        have r11 := LX.d8 (by omega) r10
        rcases r11 with ⟨p4, c4, y1, y2, y3, y4⟩ | r11
        · exact Or.inl ⟨p4, c4, y1, y2, by omega, by
            obtain ⟨k1, k2, k3, k4, k5, k6⟩ := y4
            exact ⟨k1, k2, by omega, k4, k5, k6⟩⟩
        · exact Or.inr r11
      · obtain ⟨C4, r1, r2, r3, -⟩ := k_fail (x1 := 3) (x2 := mi C3 1 3) a3
        rw [if_pos rfl, if_pos rfl, a3.1.2.2.2.1] at r2
        rw [if_neg (show ¬ Int32.ofNat dep < 6 from fun z => by have := (oN_lt (j := 6) (by omega) (by omega)).mp z; omega), r1, bsome, bsome, o1, bsome]
        dsimp only
        rw [if_pos z00]
        exact ⟨C4, T3, rfl, rfl, ((c1.trans a2).trans r3).lf, (dd.trans o3).lt, Or.inr ⟨⟨3, _, _, _, by decide, r2, o2⟩, kb1 (a2.trans r3)⟩⟩
    · -- a name
      rw [if_neg h40] at a1
      rw [a1, bsome]
      dsimp only
      rw [if_pos z00]
      obtain ⟨ws1, ws2, ws3⟩ := wsN_ok
      obtain ⟨v, C4, k1, k2, k3, k4, k5⟩ := k_word (t := 1) (ws := wsN) ws1 ws2 ws3 a3
      rw [hid] at k3 k4 k5
      obtain ⟨if1, if2⟩ := fst_if k4
      show ∃ C' T', ((fb_X4_readName (R_X4_readSum (n + 1)) a0 (Int32.ofNat dep) C3).bind fun M7 => some M7) = some C' ∧ _
      unfold fb_X4_readName
      rw [k1, bsome]
      dsimp only
      rcases hw with ⟨rfl, hy⟩ | ⟨rfl, hno⟩
      · -- if
        have hv := if1 hy
        subst hv
        have t4 : TC b C4 L (we b L (nb b L p)) 0 (-1) := by
          rcases k5 with ⟨j, -, -, h⟩ | ⟨h, -⟩
          · exact h
          · exact absurd h (by decide)
        have hwe : we b L (nb b L p) = nb b L p + 2 := by
          have := hy.1
          have h9 : nb b L p ≤ we b L (nb b L p) := skp_ge hle
          have h2 : [9, 6].length = 2 := rfl
          omega
        rw [if_pos rfl, if_neg z10]
        rcases m_opens u2 h8 hd with ⟨h6, o1⟩ | ⟨h6, T3, o1, o2, o3⟩
        · obtain ⟨T4, s1, s2, s3⟩ := m_skipWord (u2.d8 (x := Int32.ofNat (dep + 1)))
          have hle2 := s2.1.2.1
          obtain ⟨C5, T5, r1, r2, r3, r4, r5⟩ := y_choice (s := s) (p0 := p) (rT := R_X10_sum m 0) hb hL ha h6 (hG1 h6) (hf_sum ha hn hm) ⟨t4, s2⟩ (by omega) ((hr.of (p' := we b L (nb b L p) - (s + 1)) ha (by omega) ((c1.trans a2).trans k2) dd).d8.of ha (Nat.le_refl _) CFr.refl s3) (by omega)
          rw [if_pos (show Int32.ofNat dep < 6 from (oN_lt (j := 6) (by omega) (by omega)).mpr h6), oN_S, r1, bsome, o1, bsome]
          dsimp only
          rw [if_neg z10, s1, bsome, r2]
          exact ⟨C5, T5, rfl, rfl, ((c1.trans a2).trans k2).lf.trans r3, ((dd.lt.trans (Lt9.s (by omega))).trans s3.lt).trans r4, r5⟩
        · obtain ⟨C5, r1, r2, r3, -⟩ := k_fail (x1 := 3) (x2 := mi C4 1 4) t4
          rw [if_pos rfl, if_pos rfl, k3] at r2
          rw [if_neg (show ¬ Int32.ofNat dep < 6 from fun z => by have := (oN_lt (j := 6) (by omega) (by omega)).mp z; omega), r1, bsome, bsome, o1, bsome]
          dsimp only
          rw [if_pos z00]
          exact ⟨C5, T3, rfl, rfl, (((c1.trans a2).trans k2).trans r3).lf, (dd.trans o3).lt, Or.inr ⟨⟨3, _, _, _, by decide, r2, o2⟩, kb1 ((a2.trans k2).trans r3)⟩⟩
      · obtain ⟨T3, v', g3, d3, hv, hk⟩ := m_known hb u2 hid
        have hvv := fst_un _ _ _ _ (if2 hno) hv
        subst hvv
        rw [if_pos z00, hbyte, bsome, if_neg h40, g3, bsome]
        dsimp only
        rcases hk with ⟨rfl, u3⟩ | ⟨j, j1, rfl, u3⟩
        · -- no word
          have t4 : TC b C4 L (we b L (nb b L p)) 1 (Int32.ofNat (nb b L p)) := by
            rcases k5 with ⟨j, h1, h2, -⟩ | ⟨-, h⟩
            · exact absurd h2 (fun z => oN_nn (i := j) (by omega) (by rw [← z]; decide))
            · exact h
          obtain ⟨vv, T4, n1, n2, -, n3⟩ := m_num (lo := 0) (hi := 999) hb u3
          have hnd : ¬ dgA b L (nb b L (nb b L p)) := by
            rw [hid]
            exact fun z => hdg (dg_bL.mpr z)
          obtain ⟨rfl, p4, u4⟩ := n3 (fun z => hnd z.1)
          have hne : nEr b L (nb b L p) = 1 := if_neg hnd
          rw [hne, hid] at u4
          obtain ⟨C5, q1, q2, q3, p5, q4⟩ := kf_put (x := 1000 + -1) ha (kf_0 (kb1 (a2.trans k2)) t4)
          rw [if_neg (show ¬ (-1 : Int32) = 7 by decide), q1, bsome, bsome, if_pos rfl, n1, bsome]
          dsimp only
          rw [mf_notes (by decide) u4, bsome]
          exact ⟨C5, T4, rfl, rfl, ((c1.trans a2).trans k2).lf.trans q2, (dd.trans (d3.trans n2)).lt, Or.inr ⟨⟨1, _, p5, p4, by decide, q4, u4⟩, q3⟩⟩
        · have t4 : TC b C4 L (we b L (nb b L p)) 0 (-1) := by
            rcases k5 with ⟨j2, -, -, h⟩ | ⟨h, -⟩
            · exact h
            · exact absurd h (fun z => oN_nn (i := j) (by omega) (by rw [z]; decide))
          have hwe : nb b L p < we b L (nb b L p) := by
            have h9 : nb b L p ≤ we b L (nb b L p) := skp_ge hle
            by_cases h0 : we b L (nb b L p) = nb b L p
            · exfalso
              have hall : ∀ lw, lw ∈ wsK → ¬ isW b L (nb b L p) lw := fun lw hl z => by
                have h1 := z.1
                rw [h0, Nat.sub_self] at h1
                exact absurd h1.symm ((by decide : ∀ lw ∈ wsK, lw.length ≠ 0) lw hl)
              exact oN_nn (i := j) (by omega) (by rw [fst_none _ _ _ hall hv]; decide)
            · omega
          have hle2 := t4.1.2.1
          obtain ⟨C5, T5, b1, b2, b3, b4, b5, b6⟩ := y_put2 (r' := we b L (nb b L p) - s) (c := 1000 + Int32.ofNat j) (how := 1) (v := Int32.ofNat j) ha hL ⟨t4, u3⟩ (lwT (p' := nb b L p) (a2.trans k2) d3 (by omega)) (by omega) (by omega) (Or.inr (Or.inl ⟨rfl, ⟨j, by omega, j1, rfl⟩, rfl⟩)) (Or.inl (Or.inr rfl))
          rw [if_neg (show ¬ Int32.ofNat j = 7 from fun z => by have := (oN_eq (j := 7) (by omega) (by omega)).mp z; omega), b1, bsome, bsome, if_neg (show ¬ Int32.ofNat j = -1 from fun z => oN_nn (i := j) (by omega) (by rw [z]; decide)), b2, bsome]
          exact ⟨C5, T5, rfl, rfl, ((c1.trans a2).trans k2).lf.trans b3, (dd.trans d3).lt.trans b4, Or.inl ⟨_, cnt + 1, by omega, b5, by omega, b6⟩⟩
/-- every depth -/
theorem y_all (hb : TxB b) (hL : L ≤ 150) (ha : 28 ≤ a0) : ∀ d dep n m, dep + d = 6 → 5 * d + 10 ≤ n → 3 * d + 6 ≤ m → HG b a0 L (cR n 0 a0) (R_X10_sum m 0) dep := by
  intro d
  induction d with
  | zero =>
    intro dep n m h1 h2 h3
    obtain ⟨n, rfl⟩ : ∃ k, n = k + 5 := ⟨n - 5, by omega⟩
    obtain ⟨m, rfl⟩ : ∃ k, m = k + 3 := ⟨m - 3, by omega⟩
    exact y_sum hb hL ha (by omega) (by omega) (y_product hb hL ha (by omega) (by omega) (y_part (n := n) (m := m) hb hL ha (by omega) (by omega) (by omega) (fun z => by omega) (fun z => by omega)))
  | succ d ih =>
    intro dep n m h1 h2 h3
    obtain ⟨n, rfl⟩ : ∃ k, n = k + 5 := ⟨n - 5, by omega⟩
    obtain ⟨m, rfl⟩ : ∃ k, m = k + 3 := ⟨m - 3, by omega⟩
    exact y_sum hb hL ha (by omega) (by omega) (y_product hb hL ha (by omega) (by omega) (y_part (n := n) (m := m) hb hL ha (by omega) (by omega) (by omega) (fun z => ih (dep + 1) n m (by omega) (by omega) (by omega)) (fun z => ih (dep + 1) (n + 1) m (by omega) (by omega) (by omega))))
end LE9
