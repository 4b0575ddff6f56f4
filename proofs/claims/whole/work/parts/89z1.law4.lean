/-! level 3: a law read: choices and parts -/
section LD9
variable {b : Nat → Int32} {C C' T T' : Mm} {L p cnt D dep a0 p0 s n m r : Nat} {f fa x2 : Int32}
theorem LwS.d8 {d' : Nat} (h : LwS a0 C T r cnt D dep) : LwS a0 C (sI T 76 8 (Int32.ofNat d')) r cnt D d' := by
  obtain ⟨h1, h2, h3, h4, h5, h6⟩ := h
  unfold LwS
  rw [mi_sI_o (show ¬ (23 : Nat) = 8 by omega), mi_sI_ne (show ¬ (134 : Nat) = 76 by omega)]
  exact ⟨h1, h2, h3, mi_sI_k, h5, h6⟩
theorem TT.d8 {x : Int32} (h : TT b T L p f fa) : TT b (sI T 76 8 x) L p f fa := h.of (fun i hi => mi_sI_o (by omega)) (by rw [mi_sI_ne (by omega)])
theorem LX.d8 (hd : dep ≤ 6) (h : LX b a0 C T L p0 s D (dep + 1)) : LX b a0 C (sI T 76 8 (mi T 76 8 - 1)) L p0 s D dep := by
  rcases h with ⟨p, c, h1, h2, h4, h3⟩ | ⟨⟨f, fa, p, p', hf, h1, h2⟩, h3⟩
  · rw [h3.2.2.2.1, show Int32.ofNat (dep + 1) - 1 = Int32.ofNat dep from by rw [← oN_S]; exact Int32.add_sub_cancel _ _]
    exact Or.inl ⟨p, c, h1, ⟨h2.1, h2.2.d8⟩, h4, h3.d8⟩
  · exact Or.inr ⟨⟨f, fa, p, p', hf, h1, h2.d8⟩, h3⟩
theorem m_opens (h : TT b T L p 0 (-1)) (h8 : mi T 76 8 = Int32.ofNat dep) (hd : dep ≤ 6) : (dep < 6 ∧ f_X10_opens T = some (1, sI T 76 8 (Int32.ofNat (dep + 1)))) ∨ (dep = 6 ∧ ∃ T', f_X10_opens T = some (0, T') ∧ TT b T' L p 3 (Int32.ofNat p) ∧ TFr T T') := by
  unfold f_X10_opens g_X10_opens
  rw [h.1.2.2.2.2.1, if_pos rfl, h8]
  by_cases h6 : dep < 6
  · left
    refine ⟨h6, ?_⟩
    rw [if_neg (show ¬ Int32.ofNat dep = 6 from fun z => by have := (oN_eq (j := 6) (by omega) (by omega)).mp z; omega)]
    unfold f_X10_opens_j28 f_X10_opens_j45
    rw [h.1.2.2.2.2.1, if_pos rfl, mi_sI_o (by omega), h.1.2.2.2.2.1, if_pos rfl, h8, oN_S]
    rfl
  · right
    have : dep = 6 := by omega
    subst this
    refine ⟨rfl, ?_⟩
    obtain ⟨T', e1, e2, e3⟩ := m_wrong (x1 := 3) (x2 := mi T 76 4) h
    rw [if_pos rfl, if_pos rfl, h.1.2.2.2.1] at e2
    rw [if_pos (show Int32.ofNat 6 = 6 from rfl), e1, bsome]
    unfold f_X10_opens_j45
    rw [e2.1.2.2.2.2.1, if_neg (show ¬ (3 : Int32) = 0 by decide)]
    exact ⟨T', rfl, e2, e3⟩
/-- the reference's three parts of a choice -/
def mTl (rT : Mm → Option Mm) : Nat → Mm → Option Mm
  | 0, T => some T
  | d + 1, T => (f_X10_sign 44 T).bind fun T1 => (rT T1).bind fun T2 => mTl rT d T2
theorem mTl_s {rT : Mm → Option Mm} {d : Nat} : mTl rT (d + 1) T = (f_X10_sign 44 T).bind fun T1 => (rT T1).bind fun T2 => mTl rT d T2 := rfl
theorem mTl_f {rT : Mm → Option Mm} (hf : f ≠ 0) (t : TT b T L p f fa) (h : ∀ (T : Mm) (p : Nat) (f fa : Int32), f ≠ 0 → TT b T L p f fa → rT T = some T) : ∀ d, mTl rT d T = some T := by
  intro d
  induction d with
  | zero => rfl
  | succ d ih => rw [mTl_s, m_sign_f t hf, bsome, h T p f fa hf t, bsome, ih]
theorem y_tl3 {rT : Mm → Option Mm} (hb : TxB b) (hL : L ≤ 150) (ha : 28 ≤ a0) (hG : HG b a0 L (cR n 0 a0) rT dep) (hF : HF b a0 L (cR n 0 a0) rT dep) : ∀ d i C T K p0 s D, i + d = 3 → 1 ≤ i → d < K → LX b a0 C T L p0 s D dep → ∃ C' T', whl K (f_X4_readChoice_b2 (R_X4_readSum n) a0 (Int32.ofNat dep)) (Int32.ofNat i, C) = some C' ∧ mTl rT d T = some T' ∧ Lf a0 C C' ∧ Lt9 T T' ∧ LX b a0 C' T' L p0 s (D + d) dep := by
  intro d
  induction d with
  | zero =>
    intro i C T K p0 s D hi h1 hK hx
    obtain ⟨K, rfl⟩ : ∃ k, K = k + 1 := ⟨K - 1, by omega⟩
    have : i = 3 := by omega
    subst this
    refine ⟨C, T, whl_e ?_, rfl, Lf.refl, Lt9.refl, hx⟩
    unfold f_X4_readChoice_b2
    dsimp only
    rw [if_pos (show (3 : Int32) ≤ Int32.ofNat 3 by decide)]
  | succ d ih =>
    intro i C T K p0 s D hi h1 hK hx
    obtain ⟨K, rfl⟩ : ∃ k, K = k + 1 := ⟨K - 1, by omega⟩
    rcases hx with ⟨p, c, x1, x2, x4, x3⟩ | ⟨⟨f, fa, p, p', hf, x1, x2⟩, x3⟩
    · have h3 : ¬ (3 : Int32) ≤ Int32.ofNat i := nle (n := 3) (by omega) (by omega)
      have h0 : ¬ Int32.ofNat i ≤ 0 := nle (i := 0) (by omega) (by omega)
      obtain ⟨C1, T1, e1, e2, c1, c2, h5⟩ := y_sign (x := 44) hb (by decide) x2
      have hstep : f_X4_readChoice_b2 (R_X4_readSum n) a0 (Int32.ofNat dep) (Int32.ofNat i, C) = f_X4_readChoice_j24 (R_X4_readSum n) a0 (Int32.ofNat dep) (Int32.ofNat i) C1 := by
        unfold f_X4_readChoice_b2
        dsimp only
        rw [if_neg h3, k_fine x2.1, bsome, if_pos rfl, if_neg z10, if_neg h0, e1, bsome]
      rcases h5 with ⟨p', q1, q2⟩ | h5
      · obtain ⟨C2, T2, e3, e4, c3, c4, h6⟩ := hG.sy C1 T1 p' s c D q2 (by omega) (x3.of ha (by omega) c1 c2)
        obtain ⟨C3, T3, e5, e6, c5, c6, h7⟩ := ih (i + 1) C2 T2 K p0 s (D + 1) (by omega) (by omega) (by omega) (h6.lt (by omega))
        refine ⟨C3, T3, ?_, ?_, (c1.lf.trans c3).trans c5, (c2.lt.trans c4).trans c6, ?_⟩
        · rw [whl_s (s' := (Int32.ofNat (i + 1), C2)) (by
            rw [hstep]
            unfold f_X4_readChoice_j24
            rw [k_fine q2.1, bsome, if_pos rfl, if_neg z10, show R_X4_readSum n 0 a0 (Int32.ofNat dep) C1 = some C2 from e3, bsome, oN_S])]
          exact e5
        · rw [mTl_s, e2, bsome, e4, bsome]
          exact e6
        · rw [show D + (d + 1) = D + 1 + d by omega]
          exact h7
      · obtain ⟨f, fa, p2, p3, hf, y1, y2⟩ := h5
        have hkb : KB a0 C1 := KB.of (x3.kb (by have := x2.1.1.2.1; omega)) ha c1
        obtain ⟨K, rfl⟩ : ∃ k, K = k + 1 := ⟨K - 1, by omega⟩
        refine ⟨C1, T1, ?_, ?_, c1.lf, c2.lt, Or.inr ⟨⟨f, fa, p2, p3, hf, y1, y2⟩, hkb⟩⟩
        · rw [whl_s (s' := (Int32.ofNat (i + 1), C1)) (by
            rw [hstep]
            unfold f_X4_readChoice_j24
            rw [k_fine y1, bsome, if_neg hf, if_pos z00, oN_S])]
          exact kf_loop hf y1 (by omega)
        · rw [mTl_s, e2, bsome, hF.2 T1 p3 f fa hf y2, bsome]
          exact mTl_f hf y2 hF.2 d
    · refine ⟨C, T, kf_loop hf x1 (by omega), mTl_f hf x2 hF.2 _, Lf.refl, Lt9.refl, Or.inr ⟨⟨f, fa, p, p', hf, x1, x2⟩, x3⟩⟩
/-- from the bracket on to the closing one -/
theorem y_choice {rT : Mm → Option Mm} (hb : TxB b) (hL : L ≤ 150) (ha : 28 ≤ a0) (hd : dep < 6) (hG : HG b a0 L (cR n 0 a0) rT (dep + 1)) (hF : HF b a0 L (cR n 0 a0) rT (dep + 1)) (hS : SY b C T L p) (hs : s + 1 ≤ p) (hr : LwS a0 C T (p - (s + 1)) cnt D (dep + 1)) (hp0 : p0 ≤ p) : ∃ C' T', ((f_X7_readSign 91 C).bind fun M4 => (R_X4_readSum (n + 1) 5 a0 (Int32.ofNat (dep + 1)) M4).bind fun M5 => (f_X7_readSign 93 M5).bind fun M6 => some M6) = some C' ∧ ((f_X10_sign 91 T).bind fun M19 => (rT M19).bind fun M20 => (f_X10_sign 44 M20).bind fun M21 => (rT M21).bind fun M22 => (f_X10_sign 44 M22).bind fun M23 => (rT M23).bind fun M24 => (f_X10_sign 93 M24).bind fun M25 => (f_X10_notes 7 0 M25).bind fun M26 => some (sI M26 76 8 ((mi M26 76 8) - 1))) = some T' ∧ Lf a0 C C' ∧ Lt9 T T' ∧ LX b a0 C' T' L p0 s (D + 1) dep := by
  obtain ⟨C1, T1, e1, e2, c1, c2, x1⟩ := y_sign (x := 91) hb (by decide) hS
  -- the three parts
  have key : ∃ C2 T2, whl fu (f_X4_readChoice_b2 (R_X4_readSum n) a0 (Int32.ofNat (dep + 1))) (0, C1) = some C2 ∧ ((rT T1).bind fun M20 => (f_X10_sign 44 M20).bind fun M21 => (rT M21).bind fun M22 => (f_X10_sign 44 M22).bind fun M23 => rT M23) = some T2 ∧ Lf a0 C1 C2 ∧ Lt9 T1 T2 ∧ LX b a0 C2 T2 L p0 (s + 1) (D + 3) (dep + 1) := by
    rcases x1 with ⟨p1, q1, q2⟩ | ⟨f, fa, p1, p2, hf, y1, y2⟩
    · obtain ⟨C2, T2, e3, e4, c3, c4, h6⟩ := hG.sy C1 T1 p1 (s + 1) cnt D q2 (by omega) (hr.of ha (by omega) c1 c2)
      obtain ⟨C3, T3, e5, e6, c5, c6, h7⟩ := y_tl3 hb hL ha hG hF 2 1 C2 T2 999999 p0 (s + 1) (D + 1) (by omega) (by omega) (by omega) (h6.lt (by omega))
      refine ⟨C3, T3, ?_, ?_, c3.trans c5, c4.trans c6, h7⟩
      · show whl (999999 + 1) _ _ = _
        rw [whl_s (s' := (Int32.ofNat 1, C2)) (by
          unfold f_X4_readChoice_b2 f_X4_readChoice_j24
          dsimp only
          rw [if_neg (show ¬ (3 : Int32) ≤ 0 by decide), k_fine q2.1, bsome, if_pos rfl, if_neg z10, if_pos (le_rf _), bsome, if_neg z10, show R_X4_readSum n 0 a0 (Int32.ofNat (dep + 1)) C1 = some C2 from e3, bsome]
          rfl)]
        exact e5
      · rw [e4, bsome]
        rw [mTl_s (d := 1)] at e6
        cases h1 : f_X10_sign 44 T2 with
        | none => rw [h1] at e6; exact absurd e6 (by simp)
        | some A =>
          rw [h1, bsome] at e6
          rw [bsome]
          cases h2 : rT A with
          | none => rw [h2] at e6; exact absurd e6 (by simp)
          | some B =>
            rw [h2, bsome, mTl_s (d := 0)] at e6
            rw [bsome]
            cases h3 : f_X10_sign 44 B with
            | none => rw [h3] at e6; exact absurd e6 (by simp)
            | some E =>
              rw [h3, bsome] at e6
              rw [bsome]
              cases h4 : rT E with
              | none => rw [h4] at e6; exact absurd e6 (by simp)
              | some F =>
                rw [h4, bsome] at e6
                exact e6
    · have hkb : KB a0 C1 := KB.of (hr.kb (by have := hS.1.1.2.1; omega)) ha c1
      have r9 := hF.2 T1 p2 f fa hf y2
      have s9 : f_X10_sign 44 T1 = some T1 := m_sign_f y2 hf
      refine ⟨C1, T1, kf_loop (i := 0) (K := 999999) hf y1 (by omega), ?_, Lf.refl, Lt9.refl, Or.inr ⟨⟨f, fa, p1, p2, hf, y1, y2⟩, hkb⟩⟩
      rw [r9, bsome, s9, bsome, r9, bsome, s9, bsome, r9]
  obtain ⟨C2, T2, k1, k2, k3, k4, k5⟩ := key
  have hCc : ((f_X7_readSign 91 C).bind fun M4 => (R_X4_readSum (n + 1) 5 a0 (Int32.ofNat (dep + 1)) M4).bind fun M5 => (f_X7_readSign 93 M5).bind fun M6 => some M6) = (f_X4_put a0 (-63) C2).bind fun M5 => f_X7_readSign 93 M5 := by
    rw [e1, bsome]
    show ((fb_X4_readChoice (R_X4_readSum n) a0 (Int32.ofNat (dep + 1)) C1).bind fun M5 => (f_X7_readSign 93 M5).bind fun M6 => some M6) = _
    unfold fb_X4_readChoice
    rw [k1, bsome]
    cases f_X4_put a0 (-63) C2 with
    | none => rfl
    | some A =>
      rw [bsome, bsome, bsome]
      cases f_X7_readSign 93 A <;> rfl
  have hTc : ((f_X10_sign 91 T).bind fun M19 => (rT M19).bind fun M20 => (f_X10_sign 44 M20).bind fun M21 => (rT M21).bind fun M22 => (f_X10_sign 44 M22).bind fun M23 => (rT M23).bind fun M24 => (f_X10_sign 93 M24).bind fun M25 => (f_X10_notes 7 0 M25).bind fun M26 => some (sI M26 76 8 ((mi M26 76 8) - 1))) = (f_X10_sign 93 T2).bind fun M25 => (f_X10_notes 7 0 M25).bind fun M26 => some (sI M26 76 8 ((mi M26 76 8) - 1)) := by
    rw [e2, bsome]
    cases h0 : rT T1 with
    | none => rw [h0] at k2; exact absurd k2 (by simp)
    | some A0 =>
      rw [h0, bsome] at k2
      rw [bsome]
      cases h1 : f_X10_sign 44 A0 with
      | none => rw [h1] at k2; exact absurd k2 (by simp)
      | some A =>
        rw [h1, bsome] at k2
        rw [bsome]
        cases h2 : rT A with
        | none => rw [h2] at k2; exact absurd k2 (by simp)
        | some B =>
          rw [h2, bsome] at k2
          rw [bsome]
          cases h3 : f_X10_sign 44 B with
          | none => rw [h3] at k2; exact absurd k2 (by simp)
          | some E =>
            rw [h3, bsome] at k2
            rw [bsome, k2, bsome]
  rw [hCc, hTc]
  rcases k5 with ⟨p1, cn, x1, x2, x4, x3⟩ | ⟨⟨f, fa, p1, p2, hf, x1, x2⟩, x3⟩
  · have hp1 := x2.1.1.2.1
    have hcn := x3.2.2.1
    obtain ⟨C3, e3, l1, t3, w3⟩ := k_put1 (r' := p1 - s) (c := -63) ha x2.1 x3 (by omega) (by omega)
    obtain ⟨C4, T4, e4, e5, c4, c5, x5⟩ := y_sign (x := 93) hb (by decide) (⟨t3, x2.2⟩ : SY b C3 T2 L p1)
    rw [e3, bsome, e4, e5, bsome]
    have w4 := fun p' (h : p1 ≤ p') => w3.of (r' := p' - s) ha (by omega) c4 c5
    rcases x5 with ⟨p3, q1, q2⟩ | ⟨f, fa, p3, p4, hf, y1, y2⟩
    · obtain ⟨T5, e6, c6, t6, w6⟩ := m_note1 (how := 7) (v := 0) q2.2 (w4 p3 (by omega)) (by omega) (Or.inr (Or.inr (Or.inr (Or.inr (Or.inr (Or.inr (Or.inr ⟨rfl, rfl⟩))))))) (Or.inr (Or.inl ⟨rfl, by omega⟩))
      rw [e6, bsome]
      have hds : dpS 7 (D + 3) = D + 1 := by
        unfold dpS
        rw [if_neg (by decide), if_pos rfl]
        omega
      rw [hds] at w6
      refine ⟨C4, _, rfl, rfl, ((c1.lf.trans k3).trans l1).trans c4.lf, (((c2.lt.trans k4).trans c5.lt).trans c6).trans (Lt9.s (by omega)), LX.d8 (by omega) (Or.inl ⟨p3, cn + 1, by omega, ⟨q2.1, t6⟩, by omega, w6⟩)⟩
    · rw [mf_notes hf y2, bsome]
      have hkb : KB a0 C4 := KB.of ⟨cn + 1, by omega, w3.1⟩ ha c4
      refine ⟨C4, _, rfl, rfl, ((c1.lf.trans k3).trans l1).trans c4.lf, ((c2.lt.trans k4).trans c5.lt).trans (Lt9.s (by omega)), LX.d8 (by omega) (Or.inr ⟨⟨f, fa, p3, p4, hf, y1, y2⟩, hkb⟩)⟩
  · obtain ⟨C3, e3, w3⟩ := kf_put (x := -63) ha (kf_0 x3 x1)
    obtain ⟨C4, e4, w4, w5, p5, w6⟩ := kf_sign (x := 93) ha hf (by decide) w3
    rw [e3, bsome, e4, m_sign_f x2 hf, bsome, mf_notes hf x2, bsome]
    refine ⟨C4, _, rfl, rfl, (c1.lf.trans k3).trans w4, (c2.lt.trans k4).trans (Lt9.s (by omega)), LX.d8 (by omega) (Or.inr ⟨⟨f, fa, p5, p2, hf, w6, x2⟩, w5⟩)⟩
theorem fst_none {p0 : Nat} : ∀ ws i v, (∀ lw, lw ∈ ws → ¬ isW b L p0 lw) → fstW b L p0 ws i v → v = -1 := by
  intro ws
  induction ws with
  | nil => exact fun i v _ h => h
  | cons lw ws ih =>
    intro i v h h2
    rcases h2 with ⟨a1, -⟩ | ⟨-, a2⟩
    · exact absurd a1 (h lw (List.mem_cons_self ..))
    · exact ih (i + 1) v (fun l hl => h l (List.mem_cons_of_mem _ hl)) a2
/-- no small letter there: no word -/
theorem we_no {p : Nat} (h : ¬ isSm (bL b L p)) : we b L p = p := by
  unfold bL at h
  by_cases h1 : p < L
  · rw [if_pos h1] at h
    exact skp_n h1 h
  · exact skp_e h1
theorem isW_no {p : Nat} {lw : List Nat} (h : ¬ isSm (bL b L p)) (hl : lw.length ≠ 0) : ¬ isW b L p lw := fun z => by
  have := z.1
  rw [we_no h] at this
  omega
theorem wsK_no {p : Nat} (h : ¬ isSm (bL b L p)) : ∀ lw, lw ∈ wsK → ¬ isW b L p lw := fun lw hl => isW_no h (by
  have : ∀ lw ∈ wsK, lw.length ≠ 0 := by decide
  exact this lw hl)
theorem fst_if {p0 : Nat} {v : Int32} (h : fstW b L p0 wsN 0 v) : (isW b L p0 [9, 6] → v = 7) ∧ (¬ isW b L p0 [9, 6] → fstW b L p0 wsK 0 v) := by
  rcases h with ⟨a1, a2⟩ | ⟨a1, h⟩
  · exact ⟨fun z => by have := a1.1.symm.trans z.1; simp at this, fun _ => Or.inl ⟨a1, a2⟩⟩
  rcases h with ⟨b1, b2⟩ | ⟨b1, h⟩
  · exact ⟨fun z => by have := b1.1.symm.trans z.1; simp at this, fun _ => Or.inr ⟨a1, Or.inl ⟨b1, b2⟩⟩⟩
  rcases h with ⟨c1, c2⟩ | ⟨c1, h⟩
  · exact ⟨fun z => by have := c1.1.symm.trans z.1; simp at this, fun _ => Or.inr ⟨a1, Or.inr ⟨b1, Or.inl ⟨c1, c2⟩⟩⟩⟩
  rcases h with ⟨d1, d2⟩ | ⟨d1, h⟩
  · exact ⟨fun z => by have := d1.1.symm.trans z.1; simp at this, fun _ => Or.inr ⟨a1, Or.inr ⟨b1, Or.inr ⟨c1, Or.inl ⟨d1, d2⟩⟩⟩⟩⟩
  rcases h with ⟨e1, e2⟩ | ⟨e1, h⟩
  · exact ⟨fun z => by have := e1.1.symm.trans z.1; simp at this, fun _ => Or.inr ⟨a1, Or.inr ⟨b1, Or.inr ⟨c1, Or.inr ⟨d1, Or.inl ⟨e1, e2⟩⟩⟩⟩⟩⟩
  rcases h with ⟨f1, f2⟩ | ⟨f1, h⟩
  · exact ⟨fun z => by have := f1.1.symm.trans z.1; simp at this, fun _ => Or.inr ⟨a1, Or.inr ⟨b1, Or.inr ⟨c1, Or.inr ⟨d1, Or.inr ⟨e1, Or.inl ⟨f1, f2⟩⟩⟩⟩⟩⟩⟩
  rcases h with ⟨g1, g2⟩ | ⟨g1, h⟩
  · exact ⟨fun z => by have := g1.1.symm.trans z.1; simp at this, fun _ => Or.inr ⟨a1, Or.inr ⟨b1, Or.inr ⟨c1, Or.inr ⟨d1, Or.inr ⟨e1, Or.inr ⟨f1, Or.inl ⟨g1, g2⟩⟩⟩⟩⟩⟩⟩⟩
  rcases h with ⟨i1, i2⟩ | ⟨i1, h⟩
  · exact ⟨fun _ => i2, fun z => absurd i1 z⟩
  · exact ⟨fun z => absurd z i1, fun _ => Or.inr ⟨a1, Or.inr ⟨b1, Or.inr ⟨c1, Or.inr ⟨d1, Or.inr ⟨e1, Or.inr ⟨f1, Or.inr ⟨g1, h⟩⟩⟩⟩⟩⟩⟩⟩
end LD9
