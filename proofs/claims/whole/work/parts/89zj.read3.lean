/-! level 3: work: the text: again; a whole text -/
section SJ9
variable {b : Nat → Int32} {C C' T T' : Mm} {L p p0 cc ct dep w h n m a2 a9 kd : Nat} {f fa v last : Int32} {Q : Prop}
/-- the end of a loop in the class -/
def agT (cc : Nat) (C : Mm) : Option Mm := (f_X7_readSign 93 C).bind fun M6 => (wi M6 6 200 (Int32.ofNat cc) (mi M6 3 4)).bind fun M10 => (f_X6_put 8 (Int32.ofNat cc) M10).bind fun M11 => f_X7_readSign 59 M11
theorem dec8 {x : Nat} : Int32.ofNat (x + 1) - 1 = Int32.ofNat x := by rw [← oN_S]; exact Int32.add_sub_cancel _ _
theorem ag_fault {rec : Nat → Mm → Option Mm} (hb : TxB b) (hcc : cc < 200) (hct : ct < 60) (x : FL b C T L) (kb : KB6 C) : ∃ C' T', agT cc C = some C' ∧ f_X10_readsStep_j155 rec (136 + ct) T = some T' ∧ Pf C C' ∧ Pt T T' ∧ FL b C' T' L ∧ KB6 C' := by
  obtain ⟨C1, T1, p1, q1, c1, t1, g1⟩ := x_sgn3 (x := 93) (Q := False) (p0 := 0) hb (by decide) (Or.inr x)
  have k1 : KB6 C1 := kb.of (c1.1.at (by omega))
  obtain ⟨c, cl, ce⟩ := id k1
  have e6 : wi C1 6 200 (Int32.ofNat cc) (mi C1 3 4) = some (sI C1 6 cc (mi C1 3 4)) := wi_o hcc (by omega)
  obtain ⟨C2, p2, c2, k2, o2⟩ := k_put6b (x := 8) (y := Int32.ofNat cc) (C := sI C1 6 cc (mi C1 3 4)) (k1.of (mi_sI_ne (by omega)))
  have g2 : GX b False C2 (sI (sI T1 76 8 (mi T1 76 8 - 1)) (136 + ct) 2 (mi (sI T1 76 8 (mi T1 76 8 - 1)) 76 25)) L 1 := gx_ts (gx_th (g1.of (fun j _ _ => by rw [o2 1 (by omega), mi_sI_ne (by omega)]) (by rw [o2 2 (by omega), mi_sI_ne (by omega)]) (fun _ _ => rfl) rfl (fun q => q)) (by omega)) (by omega)
  obtain ⟨C3, T3, p3, q3, c3, t3, g3⟩ := x_sgn3 (x := 59) hb (by decide) g2
  refine ⟨C3, T3, ?_, ?_, ((c1.pf.trans (Pf.s (by omega))).trans c2).trans c3.pf, ((t1.pt.trans (pt_h (by omega))).trans (Pt.s (by omega))).trans t3.pt, ?_, k2.of (c3.1.at (by omega))⟩
  · unfold agT
    rw [p1, bsome, e6, bsome, p2, bsome, p3]
  · unfold f_X10_readsStep_j155
    rw [q1, bsome, show ∀ (X : Mm) (y : Int32), wi X (136 + ct) 3 2 y = some (sI X (136 + ct) 2 y) from fun X y => wi3 (i := 2) (by omega), bsome, q3, bsome]
  · rcases g3 with ⟨_, _, _, z⟩ | z
    · exact z.elim
    · exact z
theorem ag_sync {rec : Nat → Mm → Option Mm} {p5 cc5 ct5 : Nat} (hb : TxB b) (hL : L ≤ 200) (hcc : cc < cc5) (hct : ct < ct5) (hS : SY b C T L p5) (hP : PS C T p5 cc5 ct5 (dep + 1)) : ∃ C' T', agT cc C = some C' ∧ f_X10_readsStep_j155 rec (136 + ct) T = some T' ∧ Pf C C' ∧ Pt T T' ∧ (∀ t, mi C' 4 t = if t = cc5 then 8 else mi C 4 t) ∧ (∀ t, mi C' 5 t = if t = cc5 then Int32.ofNat cc else mi C 5 t) ∧ (∀ t, mi C' 6 t = if t = cc then Int32.ofNat cc5 else mi C 6 t) ∧ (∀ t, t ≠ ct → mi T' (136 + t) = mi T (136 + t)) ∧ (∀ i, mi T' (136 + ct) i = if i = 2 then Int32.ofNat ct5 else mi T (136 + ct) i) ∧ mi C' 3 4 = Int32.ofNat (cc5 + 1) ∧ ((∃ p', p5 < p' ∧ SY b C' T' L p' ∧ PS C' T' p' (cc5 + 1) ct5 dep) ∨ FL b C' T' L) := by
  obtain ⟨⟨s1, s2⟩, ⟨s3, s4⟩, s5⟩ := hP
  have hpL := hS.1.1.2.1
  obtain ⟨C1, T1, p1, q1, c1, t1, g1⟩ := x_sgn3 (x := 93) (Q := True) (p0 := p5 - 1) hb (by decide) (if h0 : 0 < p5 then Or.inl ⟨p5, by omega, hS, trivial⟩ else absurd s4 (by omega))
  have n1 : mi C1 3 4 = Int32.ofNat cc5 := by rw [c1.1.at (by omega)]; exact s1
  have e6 : wi C1 6 200 (Int32.ofNat cc) (mi C1 3 4) = some (sI C1 6 cc (Int32.ofNat cc5)) := by rw [n1]; exact wi_o (by omega) (by omega)
  have hpu : f_X6_put 8 (Int32.ofNat cc) (sI C1 6 cc (Int32.ofNat cc5)) = some (pu (sI C1 6 cc (Int32.ofNat cc5)) cc5 8 (Int32.ofNat cc)) := k_put6 (by rw [mi_sI_ne (by omega)]; exact n1) (by omega)
  have e25 : mi (sI T1 76 8 (mi T1 76 8 - 1)) 76 25 = Int32.ofNat ct5 := by rw [mi_sI_o (by omega), t1.2 25 (by omega)]; exact s2
  have e8 : mi T1 76 8 - 1 = Int32.ofNat dep := by rw [t1.2 8 (by omega), s5, dec8]
  have g2 : GX b True (pu (sI C1 6 cc (Int32.ofNat cc5)) cc5 8 (Int32.ofNat cc)) (sI (sI T1 76 8 (mi T1 76 8 - 1)) (136 + ct) 2 (Int32.ofNat ct5)) L (p5 - 1 + 1) := gx_ts (gx_th (gx_pu (g1.of (fun j _ _ => by rw [mi_sI_ne (by omega)]) (mi_sI_ne (by omega)) (fun _ _ => rfl) rfl (fun q => q)) (fun q => q)) (by omega)) (by omega)
  obtain ⟨C3, T3, p3, q3, c3, t3, g3⟩ := x_sgn3 (x := 59) hb (by decide) g2
  have eC : ∀ a, a ≠ 1 → mi C3 a = mi (pu (sI C1 6 cc (Int32.ofNat cc5)) cc5 8 (Int32.ofNat cc)) a := fun a ha => c3.1.at ha
  have eT : ∀ a, a ≠ 76 → mi T3 a = mi (sI (sI T1 76 8 (mi T1 76 8 - 1)) (136 + ct) 2 (Int32.ofNat ct5)) a := fun a ha => t3.1.at ha
  have n3 : mi C3 3 4 = Int32.ofNat (cc5 + 1) := by rw [eC 3 (by omega)]; exact pu_n
  have hct60 : ct < 60 := by omega
  refine ⟨C3, T3, ?_, ?_, ((c1.pf.trans (Pf.s (by omega))).trans pu_f).trans c3.pf, ((t1.pt.trans (pt_h (by omega))).trans (Pt.s (by omega))).trans t3.pt, fun t => ?_, fun t => ?_, fun t => ?_, fun t ht => ?_, fun i => ?_, n3, ?_⟩
  · unfold agT
    rw [p1, bsome, e6, bsome, hpu, bsome, p3]
  · unfold f_X10_readsStep_j155
    rw [q1, bsome, e25, show ∀ (X : Mm) (y : Int32), wi X (136 + ct) 3 2 y = some (sI X (136 + ct) 2 y) from fun X y => wi3 (i := 2) (by omega), bsome, q3, bsome]
  · rw [eC 4 (by omega), pu_4, mi_sI_ne (by omega), c1.1.at (by omega)]
  · rw [eC 5 (by omega), pu_5, mi_sI_ne (by omega), c1.1.at (by omega)]
  · rw [eC 6 (by omega), pu_6, mi_sI, u1_at, c1.1.at (by omega)]
  · rw [eT _ (by omega), mi_sI_ne (by omega), mi_sI_ne (by omega), t1.1.at (by omega)]
  · rw [eT _ (by omega), mi_sI, u1_at, mi_sI_ne (by omega), t1.1.at (by omega)]
  · rcases g3 with ⟨p9, z1, z2, -⟩ | z
    · refine Or.inl ⟨p9, by omega, z2, ⟨n3, ?_⟩, ⟨by omega, by omega⟩, ?_⟩
      · rw [t3.2 25 (by omega), mi_sI_ne (by omega)]; exact e25
      · rw [t3.2 8 (by omega), mi_sI_ne (by omega), mi_sI_k]; exact e8
    · exact Or.inr z
theorem st_again {C1 T1 : Mm} (hb : TxB b) (hL : L ≤ 200) (hd : dep ≤ 6) (hH : dep < 6 → HS b a2 L w h (dep + 1) n m) (hS : PS C T p cc ct dep) (hw : WH a2 w h C T) (hp : p ≤ L) (hW : WdS b L p C T C1 T1 v) (hl : we b L p - p = 5) : ∃ C' T', ((fb_X6_readAgain (R_X6_readSteps (n + 1)) a2 (Int32.ofNat dep) C1).bind fun M => f_X7_readSign 59 M) = some C' ∧ f_X10_readsStep_j19 (R_X10_readsStep m) 7 T1 = some T' ∧ StR b L w h dep cc ct p C T C' T' := by
  obtain ⟨c1, t1, tc, tt, h14, -⟩ := hW
  obtain ⟨⟨s1, s2⟩, ⟨s3, s4⟩, s5⟩ := hS
  have n1 : mi C1 3 4 = Int32.ofNat cc := by rw [c1.1.at (by omega)]; exact s1
  have u8 : mi T1 76 8 = Int32.ofNat dep := (t1.2 8 (by omega)).trans s5
  have u25 : mi T1 76 25 = Int32.ofNat ct := (t1.2 25 (by omega)).trans s2
  unfold fb_X6_readAgain f_X10_readsStep_j19
  rw [if_pos (rfl : (7 : Int32) = 7)]
  rcases m_opens tt u8 hd with ⟨h6, o1⟩ | ⟨h6, T2, o1, o2, o3⟩
  · rw [o1, bsome]
    dsimp only
    rw [if_neg z10, if_pos (show Int32.ofNat dep < 6 from (oN_lt (j := 6) (by omega) (by omega)).mpr h6)]
    obtain ⟨T3, e2, c2, t2, g25⟩ := m_j33 (rec := R_X10_readsStep m) (x := 7) (T := sI T1 76 8 (Int32.ofNat (dep + 1))) (ct := ct) tt.d8 (by rw [mi_sI_o (by omega)]; exact u25) (by omega)
    rw [e2, if_neg (by decide), if_neg (by decide)]
    obtain ⟨r1, r2, r3, r4, r5⟩ := rsB_e (T := T3) (ct := ct) (x := 7)
    have hf0 : Pt T (rsB T3 ct 7) := ((t1.pt.trans (pt_h (by omega))).trans c2.pt).trans (rsB_f (by omega))
    have g0 : GX b True C1 (rsB T3 ct 7) L (p + 4) := rsB_g (Or.inl ⟨we b L p, by omega, ⟨tc, t2⟩, trivial⟩)
    have r8 : mi (rsB T3 ct 7) 76 8 = Int32.ofNat (dep + 1) := by rw [r2, c2.2 8 (by omega), mi_sI_k]
    have rT : ∀ t, t ≠ ct → mi (rsB T3 ct 7) (136 + t) = mi T (136 + t) := fun t ht => by rw [r3 t ht, c2.1.at (by omega), mi_sI_ne (by omega), t1.1.at (by omega)]
    generalize rsB T3 ct 7 = T4 at hf0 g0 r1 r4 r8 rT
    obtain ⟨v1, C2, v1', T5, a1, b1, c3, t3, g1⟩ := x_num3 (lo := 0) (hi := 20) hb g0
    have n2 : mi C2 3 4 = Int32.ofNat cc := by rw [c3.1.at (by omega)]; exact n1
    have hpu : f_X6_put 7 v1 C2 = some (pu C2 cc 7 v1) := k_put6 n2 (by omega)
    have g2 := gx_ts (a := 136 + ct) (i := 1) (x := v1') (gx_pu (cc := cc) (x := 7) (y := v1) g1 (fun q => q)) (by omega)
    obtain ⟨C4, T8, a4, b4, c4, t4, g4⟩ := x_sgn3 (x := 91) hb (by decide) g2
    have f4 : Pf C C4 := ((c1.pf.trans c3.pf).trans pu_f).trans c4.pf
    have h4 : Pt T T8 := ((hf0.trans t3.pt).trans (Pt.s (by omega))).trans t4.pt
    have eC4 : ∀ a, a ≠ 1 → mi C4 a = mi (pu C2 cc 7 v1) a := fun a ha => c4.1.at ha
    have eT8 : ∀ a, a ≠ 76 → mi T8 a = mi (sI T5 (136 + ct) 1 v1') a := fun a ha => t4.1.at ha
    obtain ⟨C5, T10, a5, b5, c5, t5, g5⟩ := st_body (a9 := 136 + ct) (cc := cc + 1) (ct := ct + 1) hb hL (hH h6) (by omega) g4 (by rw [eC4 3 (by omega)]; exact pu_n) (by rw [t4.2 25 (by omega), mi_sI_ne (by omega), t3.2 25 (by omega)]; exact r1) (by rw [t4.2 8 (by omega), mi_sI_ne (by omega), t3.2 8 (by omega)]; exact r8) (by omega) (by omega) (by omega) (hw.of f4 h4)
    have hcl : ∀ G : Mm → Option Mm, ((((f_X7_readNumber (0 : Int32) (20 : Int32) C1).bind fun (v2, M2) => (f_X6_put (7 : Int32) v2 M2).bind fun M3 => (f_X7_readSign (91 : Int32) M3).bind fun M4 => (R_X6_readSteps (n + 1) 0 a2 (Int32.ofNat dep + (1 : Int32)) M4).bind fun M5 => (f_X7_readSign (93 : Int32) M5).bind fun M6 => (if (200 : Int32) ≤ (mi C1 3 4) then (f_X6_put (8 : Int32) (mi C1 3 4) M6).bind fun M8 => some M8 else (wi M6 6 200 (mi C1 3 4) (mi M6 3 4)).bind fun M10 => (f_X6_put (8 : Int32) (mi C1 3 4) M10).bind fun M11 => some M11)).bind G) = ((f_X7_readSign 93 C5).bind fun M6 => (wi M6 6 200 (Int32.ofNat cc) (mi M6 3 4)).bind fun M10 => (f_X6_put 8 (Int32.ofNat cc) M10).bind fun M11 => G M11)) := fun G => by
      rw [a1, bsome]
      dsimp only
      rw [hpu, bsome, a4, bsome, oN_S, a5, bsome, n1]
      cases f_X7_readSign 93 C5 with
      | none => rfl
      | some M6 =>
        rw [bsome, bsome, if_neg (show ¬ (200 : Int32) ≤ Int32.ofNat cc from nle (n := 200) (by omega) (by omega))]
        cases wi M6 6 200 (Int32.ofNat cc) (mi M6 3 4) with
        | none => rfl
        | some M10 =>
          rw [bsome, bsome]
          cases f_X6_put 8 (Int32.ofNat cc) M10 <;> rfl
    have hml : f_X10_readsStep_j98 (R_X10_readsStep m) 7 (136 + ct) T4 = f_X10_readsStep_j155 (R_X10_readsStep m) (136 + ct) T10 := by
      unfold f_X10_readsStep_j98
      rw [if_pos (rfl : (7 : Int32) = 7), b1, bsome]
      dsimp only
      rw [show wi T5 (136 + ct) 3 1 v1' = some (sI T5 (136 + ct) 1 v1') from wi3 (i := 1) (by omega), bsome, b4, bsome]
      exact obind b5
    rw [hcl, hml]
    rcases g5 with ⟨p5, cc5, ct5, ⟨-, zv, zl, zh⟩, z1, z2, z3, ⟨z4, z5⟩, z6, z7⟩ | ⟨x, kb⟩
    · obtain ⟨N, -, nl, ne⟩ := (in_nat (lo := 0) (hi := 20) (by omega) (by omega)).mp ⟨zl, zh⟩
      obtain ⟨C9, T9, y1, y2, y3, y4, y5, y6, y7, y8, y9, yn, yx⟩ := ag_sync (cc := cc) (ct := ct) (rec := R_X10_readsStep m) hb hL (by omega) (by omega) z2 z3
      refine ⟨C9, T9, y1, y2, (f4.trans c5).trans y3, (h4.trans t5).trans y4, ?_⟩
      rcases yx with ⟨p9, v1p, v2, v3⟩ | yx
      · obtain ⟨q1, q2, q3⟩ := z7.1 cc (by omega)
        have q4 := z7.2 ct (by omega)
        have kk : KP cc ct C C9 T T9 := by
          refine ⟨fun t ht => ?_, fun t ht => ?_⟩
          · obtain ⟨d1, d2, d3⟩ := z7.1 t (by omega)
            refine ⟨?_, ?_, ?_⟩
            · rw [y5, if_neg (by omega), d1, eC4 4 (by omega), pu_4, if_neg (by omega), c3.1.at (by omega), c1.1.at (by omega)]
            · rw [y6, if_neg (by omega), d2, eC4 5 (by omega), pu_5, if_neg (by omega), c3.1.at (by omega), c1.1.at (by omega)]
            · rw [y7, if_neg (by omega), d3, eC4 6 (by omega), pu_6, c3.1.at (by omega), c1.1.at (by omega)]
          · rw [y8 t (by omega), z7.2 t (by omega), eT8 _ (by omega), mi_sI_ne (by omega), t3.1.at (by omega)]
            exact rT t (by omega)
        have v3p := v3.2.1
        have z3p := z3.2.1
        have p9p : p < p9 := by omega
        have in1 : BlkM w h C9 T9 (ct5 - (ct + 1)) (cc + 1) cc5 (ct + 1) ct5 := by
          refine blk_congr _ _ _ _ _ (fun t t1 t2 => ⟨?_, ?_, ?_⟩) (fun t t1 t2 => ?_) z6
          · rw [y5, if_neg (by omega)]
          · rw [y6, if_neg (by omega)]
          · rw [y7, if_neg (by omega)]
          · exact y8 t (by omega)
        refine Or.inl ⟨p9, cc5 + 1, ct5, p9p, v2, v3, ⟨by omega, by omega⟩, ?_, kk⟩
        rw [show ct5 - ct = ct5 - (ct + 1) + 1 by omega]
        refine Or.inr (Or.inr ⟨N, cc5, ct5, nl, ⟨?_, ?_, ?_, ?_, ?_, ?_⟩, ⟨?_, ?_⟩, in1, blk_nil⟩)
        · rw [y5, if_neg (by omega), q1, eC4 4 (by omega), pu_4, if_pos rfl]
        · show mi T9 (136 + ct) 0 = 7
          rw [y9, if_neg (by omega), q4, eT8 _ (by omega), mi_sI_o (by omega), t3.1.at (by omega)]
          exact r4
        · rw [y6, if_neg (by omega), q2, eC4 5 (by omega), pu_5, if_pos rfl]
          exact ne
        · show mi T9 (136 + ct) 1 = _
          rw [y9, if_neg (by omega), q4, eT8 _ (by omega), mi_sI_k, zv]
          exact ne
        · show mi T9 (136 + ct) 2 = _
          rw [y9, if_pos rfl]
        · rw [y7, if_pos rfl]
        · rw [y5, if_pos rfl]
        · rw [y6, if_pos rfl]
      · have v3p := z3.2.1
        have := z2.1.1.2.1
        exact Or.inr ⟨yx, cc5 + 1, by omega, yn⟩
    · obtain ⟨C9, T9, y1, y2, y3, y4, y5, y6⟩ := ag_fault (cc := cc) (ct := ct) (rec := R_X10_readsStep m) hb (by omega) (by omega) x kb
      exact ⟨C9, T9, y1, y2, (f4.trans c5).trans y3, (h4.trans t5).trans y4, Or.inr ⟨y5, y6⟩⟩
  · rw [o1, bsome]
    dsimp only
    rw [if_pos z00, if_neg (show ¬ Int32.ofNat dep < 6 from fun z => by have := (oN_lt (j := 6) (by omega) (by omega)).mp z; omega)]
    obtain ⟨C2, e2, t2, c2, -⟩ := k_fail (x1 := 3) (x2 := mi C1 1 4) tc
    rw [if_pos rfl, if_pos rfl, h14] at t2
    obtain ⟨C3, p3, e3, c3, t3⟩ := k_sign_f (x := 59) (by decide) t2 (by decide)
    rw [e2, bsome, bsome, e3]
    refine ⟨C3, T2, rfl, rfl, (c1.pf.trans c2.pf).trans c3.pf, t1.pt.trans o3.pt, Or.inr ⟨⟨3, Int32.ofNat p, p3, p, by decide, t3, o2⟩, cc, by omega, ?_⟩⟩
    rw [c3.1.at (by omega), c2.1.at (by omega)]
    exact n1
/-- no word there -/
theorem st_none {C1 T1 : Mm} {rec : Nat → Mm → Option Mm} (hb : TxB b) (hS : PS C T p cc ct dep) (hp : p ≤ 200) (c1 : CFr C C1) (t1 : TFr T T1) (tc : TC b C1 L (we b L p) 1 (Int32.ofNat p)) (tt : TT b T1 L p 0 (-1)) : ∃ C' T', ((f_X6_put (-1) 0 C1).bind fun M5 => f_X7_readSign 59 M5) = some C' ∧ ((f_X10_wrong 1 (mi T1 76 4) T1).bind fun M35 => f_X10_readsStep_j19 rec (-1) M35) = some T' ∧ StR b L w h dep cc ct p C T C' T' := by
  obtain ⟨⟨s1, s2⟩, ⟨s3, s4⟩, s5⟩ := hS
  have n1 : mi C1 3 4 = Int32.ofNat cc := by rw [c1.1.at (by omega)]; exact s1
  have hpu : f_X6_put (-1) 0 C1 = some (pu C1 cc (-1) 0) := k_put6 n1 (by omega)
  have t2 : TC b (pu C1 cc (-1) 0) L (we b L p) 1 (Int32.ofNat p) := tc.of (fun j _ _ => by rw [pu_o (by omega)]) (pu_o (by omega))
  obtain ⟨C3, p3, e3, c3, t3⟩ := k_sign_f (x := 59) (by decide) t2 (by decide)
  obtain ⟨T2, e2, u2, c2⟩ := m_wrong (x1 := 1) (x2 := mi T1 76 4) tt
  rw [if_pos rfl, if_pos rfl, tt.1.2.2.2.1] at u2
  rw [hpu, bsome, e3, e2, bsome]
  unfold f_X10_readsStep_j19 f_X10_readsStep_j33
  rw [if_neg (show ¬ (-1 : Int32) = 7 by decide), u2.1.2.2.2.2.1, if_neg z10]
  refine ⟨C3, T2, rfl, rfl, (c1.pf.trans pu_f).trans c3.pf, t1.pt.trans c2.pt, Or.inr ⟨⟨1, Int32.ofNat p, p3, p, by decide, t3, u2⟩, cc + 1, by omega, ?_⟩⟩
  rw [c3.1.at (by omega)]
  exact pu_n
theorem hs_step (hb : TxB b) (hL : L ≤ 200) (hd : dep ≤ 6) (hH : dep < 6 → HS b a2 L w h (dep + 1) n m) : HS b a2 L w h dep (n + 3) (m + 1) := by
  intro C T p cc ct hS hn hP hw
  have hpL := hS.1.1.2.1
  obtain ⟨u1, u2, u3⟩ := wsP_ok
  obtain ⟨vC, C1, e1, c1, h14, w1, hv⟩ := k_word (t := 2) (ws := wsP) u1 u2 u3 hS.1
  rw [hn] at h14 w1 hv
  obtain ⟨T1, vT, e2, t1, tt, w2, hv2⟩ := m_stepHere hb hS.2 hn
  have ev : vC = vT := fst_un _ _ _ _ w1 w2
  subst ev
  have hC : ((R_X6_readSteps (n + 3) 1 a2 (Int32.ofNat dep) C).bind fun M7 => f_X7_readSign 59 M7) = ((if vC = (7 : Int32) then (R_X6_readSteps (n + 2) 2 a2 (Int32.ofNat dep) C1).bind fun M9 => some M9 else (if vC = 0 then f_X6_readStep_j42 (R_X6_readSteps (n + 2)) a2 vC C1 else (if vC = (1 : Int32) then f_X6_readStep_j42 (R_X6_readSteps (n + 2)) a2 vC C1 else (if vC = (5 : Int32) then f_X6_readStep_j42 (R_X6_readSteps (n + 2)) a2 vC C1 else (f_X6_put vC (0 : Int32) C1).bind fun M8 => some M8)))).bind fun M7 => f_X7_readSign 59 M7) := by
    show ((fb_X6_readStep (R_X6_readSteps (n + 2)) a2 (Int32.ofNat dep) C).bind fun M7 => f_X7_readSign 59 M7) = _
    unfold fb_X6_readStep
    rw [e1, bsome]
  have hT : R_X10_readsStep (m + 1) 0 T = if vC = (-1 : Int32) then (f_X10_wrong (1 : Int32) (mi T1 76 4) T1).bind fun M35 => f_X10_readsStep_j19 (R_X10_readsStep m) vC M35 else f_X10_readsStep_j19 (R_X10_readsStep m) vC T1 := by
    show fb_X10_readsStep (R_X10_readsStep m) T = _
    unfold fb_X10_readsStep
    rw [e2, bsome]
  have os : ∀ {X : Option Mm}, (X.bind fun M8 => some M8) = X := fun {X} => by cases X <;> rfl
  rw [hC, hT]
  rcases hv2 with rfl | ⟨j, j7, rfl⟩
  · rw [if_neg (by decide), if_neg (by decide), if_neg (by decide), if_neg (by decide), if_pos rfl, os]
    rcases hv with ⟨j, j1, j2, -⟩ | ⟨-, tc⟩
    · exact absurd j2 (fun z => oN_nn (i := j) (by omega) (by rw [← z]; decide))
    · rw [if_pos rfl, if_pos rfl] at tc
      exact st_none hb hP (by omega) c1 t1 tc tt
  · have tc : TC b C1 L (we b L p) 0 (-1) := by
      rcases hv with ⟨_, _, _, h9⟩ | ⟨h9, -⟩
      · exact h9
      · exact absurd h9 (fun z => oN_nn (i := j) (by omega) (by rw [z]; decide))
    have hW : WdS b L p C T C1 T1 (Int32.ofNat j) := ⟨c1, t1, tc, tt, h14, w1⟩
    have hlen := wsP_len w1
    have nm : ¬ Int32.ofNat j = -1 := fun z => oN_nn (i := j) (by omega) (by rw [z]; decide)
    rw [if_neg nm]
    have plain : (¬ (j = 0 ∨ j = 1 ∨ j = 5)) → j < 7 → ∃ C' T', ((f_X6_put (Int32.ofNat j) 0 C1).bind fun M5 => f_X7_readSign 59 M5) = some C' ∧ f_X10_readsStep_j19 (R_X10_readsStep m) (Int32.ofNat j) T1 = some T' ∧ StR b L w h dep cc ct p C T C' T' := fun h1 h2 => by
      have n7 : ¬ Int32.ofNat j = 7 := fun z => by have := (oN_eq (j := 7) (by omega) (by omega)).mp z; omega
      have n0 : ¬ Int32.ofNat j = 0 := fun z => by have := (oN_eq (j := 0) (by omega) (by omega)).mp z; omega
      unfold f_X10_readsStep_j19
      rw [if_neg n7]
      refine st_plain hb hL ⟨h2, h1⟩ hP hpL hW ?_
      rcases hlen with z | z | z | z
      · exact absurd z nm
      · exact absurd z.1 n0
      · exact z.1
      · exact absurd z.1 n7
    have cell : (j = 0 ∨ j = 1 ∨ j = 5) → ∃ C' T', ((f_X6_readStep_j42 (R_X6_readSteps (n + 2)) a2 (Int32.ofNat j) C1).bind fun M5 => f_X7_readSign 59 M5) = some C' ∧ f_X10_readsStep_j19 (R_X10_readsStep m) (Int32.ofNat j) T1 = some T' ∧ StR b L w h dep cc ct p C T C' T' := fun h1 => by
      have n7 : ¬ Int32.ofNat j = 7 := fun z => by have := (oN_eq (j := 7) (by omega) (by omega)).mp z; omega
      unfold f_X10_readsStep_j19
      rw [if_neg n7]
      refine st_cell hb hL h1 hP hw hpL hW ?_
      rcases hlen with z | z | z | z
      · exact absurd z nm
      · omega
      · omega
      · exact absurd z.1 n7
    have hj : j = 0 ∨ j = 1 ∨ j = 2 ∨ j = 3 ∨ j = 4 ∨ j = 5 ∨ j = 6 ∨ j = 7 := by omega
    rcases hj with rfl | rfl | rfl | rfl | rfl | rfl | rfl | rfl
    · rw [if_neg (by decide), if_pos (by decide)]
      exact cell (by omega)
    · rw [if_neg (by decide), if_neg (by decide), if_pos (by decide)]
      exact cell (by omega)
    · rw [if_neg (by decide), if_neg (by decide), if_neg (by decide), if_neg (by decide), os]
      exact plain (by omega) (by omega)
    · rw [if_neg (by decide), if_neg (by decide), if_neg (by decide), if_neg (by decide), os]
      exact plain (by omega) (by omega)
    · rw [if_neg (by decide), if_neg (by decide), if_neg (by decide), if_neg (by decide), os]
      exact plain (by omega) (by omega)
    · rw [if_neg (by decide), if_neg (by decide), if_neg (by decide), if_pos (by decide)]
      exact cell (by omega)
    · rw [if_neg (by decide), if_neg (by decide), if_neg (by decide), if_neg (by decide), os]
      exact plain (by omega) (by omega)
    · rw [if_pos (by decide), os]
      have hl5 : we b L p - p = 5 := by
        rcases hlen with z | z | z | z
        · exact absurd z nm
        · exact absurd z.1 (by decide)
        · exact absurd rfl z.2.2
        · exact z.2
      exact st_again hb hL hd hH hP hw hpL hW hl5
theorem hs_all (hb : TxB b) (hL : L ≤ 200) : ∀ d dep n m, dep + d = 6 → 3 * d + 3 ≤ n → d + 1 ≤ m → HS b a2 L w h dep n m := by
  intro d
  induction d with
  | zero =>
    intro dep n m h1 h2 h3
    obtain ⟨n, rfl⟩ : ∃ k, n = k + 3 := ⟨n - 3, by omega⟩
    obtain ⟨m, rfl⟩ : ∃ k, m = k + 1 := ⟨m - 1, by omega⟩
    exact hs_step hb hL (by omega) (fun z => absurd z (by omega))
  | succ d ih =>
    intro dep n m h1 h2 h3
    obtain ⟨n, rfl⟩ : ∃ k, n = k + 3 := ⟨n - 3, by omega⟩
    obtain ⟨m, rfl⟩ : ∃ k, m = k + 1 := ⟨m - 1, by omega⟩
    exact hs_step hb hL (by omega) (fun _ => ih (dep + 1) n m (by omega) (by omega) (by omega))
/-- a whole text -/
theorem y_work (hb : TxB b) (hL : L ≤ 200) (h1 : TC b C L 0 0 (-1)) (h2 : TT b T L (nb b L 0) 0 (-1)) (h8 : mi T 76 8 = 0) (hw : WH a2 w h C T) : ∃ C' T', f_X6_readWork a2 C = some C' ∧ whl fu f_X10_work_b72 (sI T 76 25 0) = some T' ∧ Pf C C' ∧ Pt T T' ∧ ((∃ p cc ct, SY b C' T' L p ∧ (mi C' 3 4 = Int32.ofNat cc ∧ mi T' 76 25 = Int32.ofNat ct) ∧ (2 * cc ≤ 200 ∧ 4 * ct ≤ 200) ∧ BlkM w h C' T' ct 0 cc 0 ct) ∨ FL b C' T' L) := by
  have u1 : TC b (sI C 3 4 0) L 0 0 (-1) := h1.of (fun j _ _ => by rw [mi_sI_ne (by omega)]) (by rw [mi_sI_ne (by omega)])
  have u2 : TT b (sI T 76 25 0) L (nb b L 0) 0 (-1) := h2.of (fun j hj => mi_sI_o (by omega)) (by rw [mi_sI_ne (by omega)])
  have f1 : Pf C (sI C 3 4 0) := Pf.s (by omega)
  have f2 : Pt T (sI T 76 25 0) := pt_h (by omega)
  have hP : PS (sI C 3 4 0) (sI T 76 25 0) 0 0 0 0 := ⟨⟨mi_sI_k, mi_sI_k⟩, ⟨by omega, by omega⟩, by rw [mi_sI_o (by omega)]; exact h8⟩
  have hH : HS b a2 L w h 0 59 60 := hs_all hb hL 6 0 59 60 (by omega) (by omega) (by omega)
  obtain ⟨C2, T2, w1, w2, w3, w4, w5⟩ := y_steps (last := -1) (FT := f_X10_work_b72) hb hL hH (fun T p t hv => by
    have := t.1.1
    have := t.1.2.1
    have hp := (bL_1 hb).mp hv
    unfold f_X10_work_b72
    rw [t.1.2.2.2.2.1, if_pos rfl, t.1.2.2.1, t.1.2.2.2.1, if_pos ((oN_le (by omega) (by omega)).mpr (by omega))]) (fun T p t hv => by
    have := t.1.1
    have := t.1.2.1
    have hp : p < L := by
      by_cases hp : p < L
      · exact hp
      · exact absurd ((bL_1 hb).mpr hp) hv
    unfold f_X10_work_b72
    rw [t.1.2.2.2.2.1, if_pos rfl, t.1.2.2.1, t.1.2.2.2.1, if_neg (nle hp (by omega))]
    rfl) (fun T p f fa hf t => by
    unfold f_X10_work_b72
    rw [t.1.2.2.2.2.1, if_neg hf]) (L + 1) 0 (sI C 3 4 0) (sI T 76 25 0) 0 fu fu 0 0 (by omega) (by show L + 1 < 1000000; omega) (by show L + 1 < 1000000; omega) u1 u2 hP (hw.of f1 f2) (Nat.le_refl _)
  have hC : f_X6_readWork a2 C = some C2 := by
    unfold f_X6_readWork f_X6_readSteps
    rw [show R_X6_readSteps 60 0 a2 0 (sI C 3 4 0) = (whl fu (f_X6_readSteps_b15 (R_X6_readSteps 59) a2 0 (-1)) (0, sI C 3 4 0)).bind fun M9 => some M9 from rfl, show whl fu (f_X6_readSteps_b15 (R_X6_readSteps 59) a2 0 (-1)) (0, sI C 3 4 0) = some C2 from w1, bsome, bsome]
  refine ⟨C2, T2, hC, w2, f1.trans w3, f2.trans w4, ?_⟩
  rcases w5 with ⟨p, cc, ct, z1, z2, z3, z4, z5, z6, z7⟩ | z
  · have := z2.1.1.2.1
    have := z4.2.1
    exact Or.inl ⟨p, cc, ct, z2, z4.1, ⟨by omega, by omega⟩, z6⟩
  · exact Or.inr z.1
end SJ9
