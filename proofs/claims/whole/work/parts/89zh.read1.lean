/-! level 3: work: the text: a step read -/
section SH9
variable {b : Nat → Int32} {C C' T T' : Mm} {L p p0 cc ct dep w h n m a2 kd : Nat} {f fa v : Int32} {Q : Prop}
/-- the field's size on both sides -/
def WH (a2 w h : Nat) (C T : Mm) : Prop := (7 ≤ a2 ∧ (1 ≤ w ∧ w ≤ 8) ∧ 1 ≤ h ∧ h ≤ 6) ∧ (mi C a2 3 = Int32.ofNat w ∧ mi C a2 4 = Int32.ofNat h) ∧ mi T 80 0 = Int32.ofNat w ∧ mi T 80 1 = Int32.ofNat h
theorem WH.of (hw : WH a2 w h C T) (hc : Pf C C') (ht : Pt T T') : WH a2 w h C' T' := by
  obtain ⟨h1, h2, h3⟩ := hw
  refine ⟨h1, ?_, ?_⟩
  · rw [hc.at (by omega)]; exact h2
  · rw [ht.at (by omega)]; exact h3
/-- where both stand: so many codes, so many steps -/
def PS (C T : Mm) (p cc ct dep : Nat) : Prop := (mi C 3 4 = Int32.ofNat cc ∧ mi T 76 25 = Int32.ofNat ct) ∧ (2 * cc ≤ p ∧ 4 * ct ≤ p) ∧ mi T 76 8 = Int32.ofNat dep
/-- a step read on both sides -/
def StR (b : Nat → Int32) (L w h dep cc ct p0 : Nat) (C T C' T' : Mm) : Prop := Pf C C' ∧ Pt T T' ∧ ((∃ p cc' ct', p0 < p ∧ SY b C' T' L p ∧ PS C' T' p cc' ct' dep ∧ (cc < cc' ∧ ct < ct') ∧ BlkM w h C' T' (ct' - ct) cc cc' ct ct' ∧ KP cc ct C C' T T') ∨ (FL b C' T' L ∧ KB6 C'))
theorem wi3 {N : Mm} {a i : Nat} {x : Int32} (hi : i < 3) : wi N a 3 (Int32.ofNat i) x = some (sI N a i x) := wi_o hi (by omega)
theorem ar_135 (h9 : ct < 60) : ar 135 60 (Int32.ofNat ct) = some (136 + ct) := by rw [ar_o h9 (by omega)]
/-- the end of a step with no loop: its code put, its place noted, the sign -/
theorem st_fin {C0 T0 : Mm} {rec : Nat → Mm → Option Mm} {x : Int32} (hb : TxB b) (hk : kd < 7) (c0 : Pf C0 C) (t0 : Pt T0 T) (hcc : cc < 200) (hct : ct < 60) (e4 : mi C 3 4 = Int32.ofNat cc) (eC : ∀ a, 4 ≤ a → a ≤ 6 → mi C a = mi C0 a) (e25 : mi T 76 25 = Int32.ofNat (ct + 1)) (e8 : mi T 76 8 = Int32.ofNat dep) (eT : ∀ t, t ≠ ct → mi T (136 + t) = mi T0 (136 + t)) (ek : mi T (136 + ct) 0 = Int32.ofNat kd) (g : GX b Q C T L p0) (hQ : Q → (kd = 0 ∨ kd = 1 ∨ kd = 5) → ∃ c : Nat, c % 8 < w ∧ c / 8 < h ∧ x = Int32.ofNat c ∧ mi T (136 + ct) 1 = Int32.ofNat c) (hp1 : 2 * (cc + 1) ≤ p0 + 2) (hp2 : 4 * (ct + 1) ≤ p0 + 2) (hp3 : p ≤ p0) : ∃ C' T', ((f_X6_put (Int32.ofNat kd) x C).bind fun M5 => f_X7_readSign 59 M5) = some C' ∧ f_X10_readsStep_j98 rec (Int32.ofNat kd) (136 + ct) T = some T' ∧ StR b L w h dep cc ct p C0 T0 C' T' := by
  have n7 : ¬ Int32.ofNat kd = 7 := fun z => by have := (oN_eq (j := 7) (by omega) (by omega)).mp z; omega
  have hpu : f_X6_put (Int32.ofNat kd) x C = some (pu C cc (Int32.ofNat kd) x) := k_put6 e4 hcc
  unfold f_X10_readsStep_j98
  rw [hpu, bsome, if_neg n7, show wi T (136 + ct) 3 2 (mi T 76 25) = some (sI T (136 + ct) 2 (mi T 76 25)) from wi3 (i := 2) (by omega), bsome, e25]
  have g1 : GX b Q (pu C cc (Int32.ofNat kd) x) (sI T (136 + ct) 2 (Int32.ofNat (ct + 1))) L p0 := gx_ts (gx_pu g (fun q => q)) (by omega)
  obtain ⟨C2, T2, p1, p2, c2, t2, g2⟩ := x_sgn3 (x := 59) hb (by decide) g1
  rw [p1, p2, bsome]
  have cc0 : Pf C0 C2 := (c0.trans pu_f).trans c2.pf
  have tt0 : Pt T0 T2 := (t0.trans (Pt.s (by omega))).trans t2.pt
  have eC2 : ∀ a, a ≠ 1 → mi C2 a = mi (pu C cc (Int32.ofNat kd) x) a := fun a ha => c2.1.at ha
  have eT2 : ∀ a, a ≠ 76 → mi T2 a = mi (sI T (136 + ct) 2 (Int32.ofNat (ct + 1))) a := fun a ha => t2.1.at ha
  have n2 : mi C2 3 4 = Int32.ofNat (cc + 1) := by rw [eC2 3 (by omega)]; exact pu_n
  refine ⟨C2, T2, rfl, rfl, cc0, tt0, ?_⟩
  rcases g2 with ⟨p9, z1, z2, z3⟩ | z
  · refine Or.inl ⟨p9, cc + 1, ct + 1, by omega, z2, ⟨⟨n2, ?_⟩, ⟨by omega, by omega⟩, ?_⟩, ⟨by omega, by omega⟩, ?_, ⟨fun t ht => ⟨?_, ?_, ?_⟩, fun t ht => ?_⟩⟩
    · rw [t2.2 25 (by omega), mi_sI_ne (by omega), e25]
    · rw [t2.2 8 (by omega), mi_sI_ne (by omega), e8]
    · rw [show ct + 1 - ct = 0 + 1 by omega]
      refine Or.inr (Or.inl ⟨kd, hk, ?_, ?_, ?_, fun hz => ?_, rfl, rfl⟩)
      · rw [eC2 4 (by omega), pu_4, if_pos rfl]
      · show mi T2 (136 + ct) 0 = _
        rw [eT2 _ (by omega), mi_sI_o (by omega)]; exact ek
      · show mi T2 (136 + ct) 2 = _
        rw [eT2 _ (by omega), mi_sI_k]
      · obtain ⟨c, d1, d2, d3, d4⟩ := hQ z3 hz
        refine ⟨c, d1, d2, ?_, ?_⟩
        · rw [eC2 5 (by omega), pu_5, if_pos rfl]; exact d3
        · show mi T2 (136 + ct) 1 = _
          rw [eT2 _ (by omega), mi_sI_o (by omega)]; exact d4
    · rw [eC2 4 (by omega), pu_4, if_neg (by omega), eC 4 (by omega) (by omega)]
    · rw [eC2 5 (by omega), pu_5, if_neg (by omega), eC 5 (by omega) (by omega)]
    · rw [eC2 6 (by omega), pu_6, eC 6 (by omega) (by omega)]
    · rw [eT2 _ (by omega), mi_sI_ne (by omega)]; exact eT t (by omega)
  · exact Or.inr ⟨z, cc + 1, by omega, n2⟩
/-- a step's word seen on both sides, in sync behind it -/
def WdS (b : Nat → Int32) (L p : Nat) (C T C1 T1 : Mm) (v : Int32) : Prop := CFr C C1 ∧ TFr T T1 ∧ TC b C1 L (we b L p) 0 (-1) ∧ TT b T1 L p 0 (-1) ∧ mi C1 1 4 = Int32.ofNat p ∧ fstW b L p wsP 0 v
/-- the reference behind its word: the step begun -/
def rsB (T1 : Mm) (ct : Nat) (x : Int32) : Mm := sI (sI T1 76 25 (Int32.ofNat (ct + 1))) (136 + ct) 0 x
theorem m_j33 {rec : Nat → Mm → Option Mm} {x : Int32} (t : TT b T L p 0 (-1)) (e25 : mi T 76 25 = Int32.ofNat ct) (hct : ct < 60) : ∃ T2, f_X10_readsStep_j33 rec x T = (if x < (2 : Int32) then f_X10_readsStep_j79 rec x (136 + ct) (rsB T2 ct x) else (if x = (5 : Int32) then f_X10_readsStep_j79 rec x (136 + ct) (rsB T2 ct x) else f_X10_readsStep_j98 rec x (136 + ct) (rsB T2 ct x))) ∧ TFr T T2 ∧ TT b T2 L (we b L p) 0 (-1) ∧ mi T2 76 25 = Int32.ofNat ct := by
  obtain ⟨T2, e2, t2, c2⟩ := m_skipWord t
  have g25 : mi T2 76 25 = Int32.ofNat ct := (c2.2 25 (by omega)).trans e25
  refine ⟨T2, ?_, c2, t2, g25⟩
  unfold f_X10_readsStep_j33
  rw [t.1.2.2.2.2.1, if_pos rfl, e2, bsome, g25, ar_135 hct, bsome, oN_S, show wi (sI T2 76 25 (Int32.ofNat (ct + 1))) (136 + ct) 3 0 x = some (rsB T2 ct x) from wi3 (i := 0) (by omega), bsome]
theorem rsB_f {x : Int32} (hct : ct < 60) : Pt T (rsB T ct x) := (pt_h (by omega)).trans (Pt.s (by omega))
theorem rsB_g {x : Int32} (g : GX b Q C T L p0) : GX b Q C (rsB T ct x) L p0 := gx_ts (gx_th g (by omega)) (by omega)
theorem rsB_e {x : Int32} : mi (rsB T ct x) 76 25 = Int32.ofNat (ct + 1) ∧ mi (rsB T ct x) 76 8 = mi T 76 8 ∧ (∀ t, t ≠ ct → mi (rsB T ct x) (136 + t) = mi T (136 + t)) ∧ mi (rsB T ct x) (136 + ct) 0 = x ∧ ∀ a, a ≠ 76 → a ≠ 136 + ct → mi (rsB T ct x) a = mi T a := by
  unfold rsB
  refine ⟨?_, ?_, fun t ht => ?_, mi_sI_k, fun a h1 h2 => ?_⟩
  · rw [mi_sI_ne (by omega), mi_sI_k]
  · rw [mi_sI_ne (by omega), mi_sI_o (by omega)]
  · rw [mi_sI_ne (by omega), mi_sI_ne (by omega)]
  · rw [mi_sI_ne h2, mi_sI_ne h1]
/-- a step without a cell -/
theorem st_plain {C1 T1 : Mm} {rec : Nat → Mm → Option Mm} (hb : TxB b) (hL : L ≤ 200) (hk : kd < 7 ∧ ¬ (kd = 0 ∨ kd = 1 ∨ kd = 5)) (hS : PS C T p cc ct dep) (hp : p ≤ L) (hW : WdS b L p C T C1 T1 v) (hl : 3 ≤ we b L p - p) : ∃ C' T', ((f_X6_put (Int32.ofNat kd) 0 C1).bind fun M5 => f_X7_readSign 59 M5) = some C' ∧ f_X10_readsStep_j33 rec (Int32.ofNat kd) T1 = some T' ∧ StR b L w h dep cc ct p C T C' T' := by
  obtain ⟨c1, t1, tc, tt, -, -⟩ := hW
  obtain ⟨⟨s1, s2⟩, ⟨s3, s4⟩, s5⟩ := hS
  obtain ⟨T2, e2, c2, t2, g25⟩ := m_j33 (rec := rec) (x := Int32.ofNat kd) tt (by rw [t1.2 25 (by omega)]; exact s2) (by omega)
  have n2 : ¬ Int32.ofNat kd < 2 := fun z => by have := (oN_lt (j := 2) (by omega) (by omega)).mp z; omega
  have n5 : ¬ Int32.ofNat kd = 5 := fun z => by have := (oN_eq (j := 5) (by omega) (by omega)).mp z; omega
  rw [e2, if_neg n2, if_neg n5]
  obtain ⟨r1, r2, r3, r4, -⟩ := rsB_e (T := T2) (ct := ct) (x := Int32.ofNat kd)
  refine st_fin (C0 := C) (T0 := T) (Q := True) (p0 := p + 2) hb hk.1 c1.pf ((t1.pt.trans c2.pt).trans (rsB_f (by omega))) (by omega) (by omega) ?_ (fun a h1 h2 => c1.1.at (by omega)) r1 ?_ (fun t ht => ?_) r4 (rsB_g (Or.inl ⟨we b L p, by omega, ⟨tc, t2⟩, trivial⟩)) (fun _ z => absurd z hk.2) (by omega) (by omega) (by omega)
  · rw [c1.1.at (by omega)]; exact s1
  · rw [r2, c2.2 8 (by omega), t1.2 8 (by omega)]; exact s5
  · rw [r3 t ht, c2.1.at (by omega), t1.1.at (by omega)]
/-- a step with a cell -/
theorem st_cell {C1 T1 : Mm} {rec : Nat → Mm → Option Mm} {recC : Nat → Nat → Int32 → Mm → Option Mm} (hb : TxB b) (hL : L ≤ 200) (hk : kd = 0 ∨ kd = 1 ∨ kd = 5) (hS : PS C T p cc ct dep) (hw : WH a2 w h C T) (hp : p ≤ L) (hW : WdS b L p C T C1 T1 v) (hl : 2 ≤ we b L p - p) : ∃ C' T', ((f_X6_readStep_j42 recC a2 (Int32.ofNat kd) C1).bind fun M5 => f_X7_readSign 59 M5) = some C' ∧ f_X10_readsStep_j33 rec (Int32.ofNat kd) T1 = some T' ∧ StR b L w h dep cc ct p C T C' T' := by
  obtain ⟨c1, t1, tc, tt, -, -⟩ := hW
  obtain ⟨⟨s1, s2⟩, ⟨s3, s4⟩, s5⟩ := hS
  obtain ⟨T2, e2, c2, t2, g25⟩ := m_j33 (rec := rec) (x := Int32.ofNat kd) tt (by rw [t1.2 25 (by omega)]; exact s2) (by omega)
  have hj79 : f_X10_readsStep_j33 rec (Int32.ofNat kd) T1 = f_X10_readsStep_j79 rec (Int32.ofNat kd) (136 + ct) (rsB T2 ct (Int32.ofNat kd)) := by
    rw [e2]
    rcases hk with rfl | rfl | rfl
    · rw [if_pos (by decide)]
    · rw [if_pos (by decide)]
    · rw [if_neg (by decide), if_pos (by decide)]
  rw [hj79]
  obtain ⟨r1, r2, r3, r4, r5⟩ := rsB_e (T := T2) (ct := ct) (x := Int32.ofNat kd)
  have hf0 : Pt T (rsB T2 ct (Int32.ofNat kd)) := (t1.pt.trans c2.pt).trans (rsB_f (by omega))
  obtain ⟨⟨w0, w1, w2⟩, ⟨w3, w4⟩, w5, w6⟩ := hw.of c1.pf hf0
  have g0 : GX b True C1 (rsB T2 ct (Int32.ofNat kd)) L (p + 1) := rsB_g (Or.inl ⟨we b L p, by omega, ⟨tc, t2⟩, trivial⟩)
  have r8 : mi (rsB T2 ct (Int32.ofNat kd)) 76 8 = Int32.ofNat dep := by rw [r2, c2.2 8 (by omega), t1.2 8 (by omega)]; exact s5
  have rT : ∀ t, t ≠ ct → mi (rsB T2 ct (Int32.ofNat kd)) (136 + t) = mi T (136 + t) := fun t ht => by rw [r3 t ht, c2.1.at (by omega), t1.1.at (by omega)]
  generalize rsB T2 ct (Int32.ofNat kd) = T3 at hf0 w5 w6 g0 r1 r4 r8 rT
  obtain ⟨v1, C2, v1', T4, a1, b1, c3, t3, g1⟩ := x_num3 (lo := 0) (hi := Int32.ofNat w - 1) hb g0
  obtain ⟨v2, C3, v2', T5, a3, b3, c4, t4, g2⟩ := x_num3 (lo := 0) (hi := Int32.ofNat h - 1) hb g1
  unfold f_X6_readStep_j42 f_X3_readCell f_X9_cellAt f_X10_readsStep_j79 f_X10_cellHere
  rw [w3, a1, bsome]
  dsimp only
  rw [c3.1.at (by omega), w4, a3, bsome]
  dsimp only
  rw [bsome, bsome]
  dsimp only
  rw [show ai T3 80 10 0 = some (mi T3 80 0) from ai_o (i := 0) (by omega) (by omega), bsome, show ai T3 80 10 1 = some (mi T3 80 1) from ai_o (i := 1) (by omega) (by omega), bsome, w5, w6, b1, bsome]
  dsimp only
  rw [b3, bsome, bsome]
  dsimp only
  rw [show ∀ x : Int32, wi T5 (136 + ct) 3 1 x = some (sI T5 (136 + ct) 1 x) from fun x => wi3 (i := 1) (by omega), bsome]
  have hpb : ((f_X6_put (Int32.ofNat kd) ((8 : Int32) * v2 + v1) C3).bind fun M5 => some M5) = f_X6_put (Int32.ofNat kd) ((8 : Int32) * v2 + v1) C3 := by
    cases f_X6_put (Int32.ofNat kd) ((8 : Int32) * v2 + v1) C3 <;> rfl
  rw [hpb]
  refine st_fin (C0 := C) (T0 := T) (Q := ((True ∧ v1' = v1 ∧ 0 ≤ v1 ∧ v1 ≤ Int32.ofNat w - 1) ∧ v2' = v2 ∧ 0 ≤ v2 ∧ v2 ≤ Int32.ofNat h - 1)) (p0 := p + 1 + 1 + 1) hb (by omega) ((c1.pf.trans c3.pf).trans c4.pf) (((hf0.trans t3.pt).trans t4.pt).trans (Pt.s (by omega))) (by omega) (by omega) ?_ (fun a h1 h2 => ?_) ?_ ?_ (fun t ht => ?_) ?_ (gx_ts g2 (by omega)) ?_ (by omega) (by omega) (by omega)
  · rw [c4.1.at (by omega), c3.1.at (by omega), c1.1.at (by omega)]; exact s1
  · rw [c4.1.at (by omega), c3.1.at (by omega), c1.1.at (by omega)]
  · rw [mi_sI_ne (by omega), t4.2 25 (by omega), t3.2 25 (by omega)]; exact r1
  · rw [mi_sI_ne (by omega), t4.2 8 (by omega), t3.2 8 (by omega)]; exact r8
  · rw [mi_sI_ne (by omega), t4.1.at (by omega), t3.1.at (by omega)]; exact rT t ht
  · rw [mi_sI_o (by omega), t4.1.at (by omega), t3.1.at (by omega)]; exact r4
  · rintro ⟨⟨-, e1, x1, x2⟩, e2', y1, y2⟩ -
    obtain ⟨x, xl, xe⟩ := (lt_oN (n := w) (by omega)).mp ⟨x1, (le_sub1 (by omega)).mp x2⟩
    obtain ⟨y, yl, ye⟩ := (lt_oN (n := h) (by omega)).mp ⟨y1, (le_sub1 (by omega)).mp y2⟩
    have ec : (8 : Int32) * v2 + v1 = Int32.ofNat (8 * y + x) := by rw [xe, ye, kcel]
    refine ⟨8 * y + x, by omega, by omega, ec, ?_⟩
    rw [mi_sI_k, e1, e2', ec]
end SH9
