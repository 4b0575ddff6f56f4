/-! level 3: a law read: behind a fault; and brackets -/
section LB9
variable {b : Nat → Int32} {C C' T T' : Mm} {L p cnt D dep a0 p0 : Nat} {f fa x2 : Int32}
def KF (b : Nat → Int32) (a0 L : Nat) (C C' : Mm) (f fa : Int32) : Prop := Lf a0 C C' ∧ KB a0 C' ∧ ∃ p', TC b C' L p' f fa
theorem KF.trans {E : Mm} (h1 : KF b a0 L C C' f fa) (h2 : KF b a0 L C' E f fa) : KF b a0 L C E f fa := ⟨h1.1.trans h2.1, h2.2⟩
theorem KF.cf {E : Mm} {p' : Nat} (h1 : KF b a0 L C C' f fa) (ha : 28 ≤ a0) (h2 : CFr C' E) (h3 : TC b E L p' f fa) : KF b a0 L C E f fa := ⟨h1.1.trans h2.lf, h1.2.1.of ha h2, p', h3⟩
theorem kf_0 (hk : KB a0 C) (t : TC b C L p f fa) : KF b a0 L C C f fa := ⟨Lf.refl, hk, p, t⟩
theorem kf_put {x : Int32} (ha : 28 ≤ a0) (h : KF b a0 L C C' f fa) : ∃ E, f_X4_put a0 x C' = some E ∧ KF b a0 L C E f fa := by
  obtain ⟨h1, h2, p', h3⟩ := h
  obtain ⟨E, e1, e2, e3, e4⟩ := k_put_t (x := x) ha h2 h3
  exact ⟨E, e1, h1.trans e2, e3, p', e4⟩
theorem kf_sign {x : Int32} (ha : 28 ≤ a0) (hf : f ≠ 0) (hx : x ≠ -1) (h : KF b a0 L C C' f fa) : ∃ E, f_X7_readSign x C' = some E ∧ KF b a0 L C E f fa := by
  obtain ⟨h1, h2, p', h3⟩ := h
  obtain ⟨E, p2, e1, e2, e3⟩ := k_sign_f hx h3 hf
  exact ⟨E, e1, h1.trans e2.lf, h2.of ha e2, p2, e3⟩
theorem kf_loop {rec : Nat → Nat → Int32 → Mm → Option Mm} {i : Nat} (hf : f ≠ 0) (t : TC b C L p f fa) (hi : i ≤ 3) {K : Nat} : whl (K + 1) (f_X4_readChoice_b2 rec a0 x2) (Int32.ofNat i, C) = some C := by
  refine whl_e ?_
  unfold f_X4_readChoice_b2
  dsimp only
  by_cases h3 : (3 : Int32) ≤ Int32.ofNat i
  · rw [if_pos h3]
  · rw [if_neg h3, k_fine t, bsome, if_neg hf, if_pos z00]
theorem kf_choice {n : Nat} (ha : 28 ≤ a0) (hf : f ≠ 0) (hk : KB a0 C) (t : TC b C L p f fa) : ∃ C', R_X4_readSum (n + 1) 5 a0 x2 C = some C' ∧ KF b a0 L C C' f fa := by
  show ∃ C', fb_X4_readChoice (R_X4_readSum n) a0 x2 C = some C' ∧ _
  unfold fb_X4_readChoice
  rw [show whl fu (f_X4_readChoice_b2 (R_X4_readSum n) a0 x2) (0, C) = some C from kf_loop (i := 0) (K := 999999) hf t (by omega), bsome]
  obtain ⟨E, e1, e2⟩ := kf_put (x := -63) ha (kf_0 hk t)
  rw [e1, bsome]
  exact ⟨E, rfl, e2⟩
theorem kf_name {n : Nat} (ha : 28 ≤ a0) (hf : f ≠ 0) (hk : KB a0 C) (t : TC b C L p f fa) : ∃ C', R_X4_readSum (n + 2) 4 a0 x2 C = some C' ∧ KF b a0 L C C' f fa := by
  show ∃ C', fb_X4_readName (R_X4_readSum (n + 1)) a0 x2 C = some C' ∧ _
  obtain ⟨w1, w2, w3⟩ := wsN_ok
  obtain ⟨v, C1, e1, c1, -, -, hv⟩ := k_word (t := 1) (ws := wsN) w1 w2 w3 t
  have t1 : ∃ p', TC b C1 L p' f fa := by
    rcases hv with ⟨j, -, -, h9⟩ | ⟨-, h9⟩
    · exact ⟨_, h9⟩
    · rw [if_neg hf, if_neg hf] at h9
      exact ⟨_, h9⟩
  obtain ⟨p1, t1⟩ := t1
  have k1 : KF b a0 L C C1 f fa := (kf_0 hk t).cf ha c1 t1
  unfold fb_X4_readName
  rw [e1, bsome]
  dsimp only
  by_cases h7 : v = 7
  · rw [if_pos h7]
    by_cases h6 : x2 < 6
    · rw [if_pos h6]
      obtain ⟨C2, e2, k2⟩ := kf_sign (x := 91) ha hf (by decide) k1
      obtain ⟨-, b2, p2, t2⟩ := id k2
      obtain ⟨C3, e3, k3⟩ := kf_choice (n := n) (x2 := x2 + 1) ha hf b2 t2
      obtain ⟨C4, e4, k4⟩ := kf_sign (x := 93) ha hf (by decide) (k2.trans k3)
      rw [e2, bsome, e3, bsome, e4, bsome]
      exact ⟨C4, rfl, k4⟩
    · rw [if_neg h6]
      obtain ⟨C2, e2, t2, c2, -⟩ := k_fail (x1 := 3) (x2 := mi C1 1 4) t1
      rw [if_neg hf, if_neg hf] at t2
      rw [e2, bsome]
      exact ⟨C2, rfl, k1.cf ha c2 t2⟩
  · rw [if_neg h7]
    obtain ⟨C2, e2, k2⟩ := kf_put (x := 1000 + v) ha k1
    rw [e2, bsome]
    exact ⟨C2, rfl, k2⟩
theorem kf_part {n : Nat} (ha : 28 ≤ a0) (hf : f ≠ 0) (hk : KB a0 C) (t : TC b C L p f fa) : ∃ C', R_X4_readSum (n + 3) 2 a0 x2 C = some C' ∧ KF b a0 L C C' f fa := by
  show ∃ C', fb_X4_readPart (R_X4_readSum (n + 2)) a0 x2 C = some C' ∧ _
  obtain ⟨C1, e1, t1, c1, -⟩ := k_next t
  have k1 : KF b a0 L C C1 f fa := (kf_0 hk t).cf ha c1 t1
  unfold fb_X4_readPart
  rw [e1, bsome]
  dsimp only
  rw [k_isDigit, bsome]
  by_cases hd : isDg (bL b L (nb b L p))
  · rw [if_pos hd, if_neg z10]
    obtain ⟨v, C2, p2, e2, c2, t2⟩ := k_num_f (lo := 0) (hi := 999) t1 hf
    obtain ⟨C3, e3, k3⟩ := kf_put (x := v) ha (k1.cf ha c2 t2)
    rw [e2, bsome]
    dsimp only
    rw [e3, bsome]
    exact ⟨C3, rfl, k3⟩
  · rw [if_neg hd, if_pos z00, k_isNext_f t1 hf, bsome]
    dsimp only
    rw [if_pos z00]
    obtain ⟨C2, e2, k2⟩ := kf_name (n := n) (x2 := x2) ha hf k1.2.1 t1
    rw [e2, bsome]
    exact ⟨C2, rfl, k1.trans k2⟩
theorem kf_product {n : Nat} (ha : 28 ≤ a0) (hf : f ≠ 0) (hk : KB a0 C) (t : TC b C L p f fa) : ∃ C', R_X4_readSum (n + 4) 1 a0 x2 C = some C' ∧ KF b a0 L C C' f fa := by
  show ∃ C', fb_X4_readProduct (R_X4_readSum (n + 3)) a0 x2 C = some C' ∧ _
  obtain ⟨C1, e1, k1⟩ := kf_part (n := n) (x2 := x2) ha hf hk t
  obtain ⟨-, -, p1, t1⟩ := id k1
  unfold fb_X4_readProduct
  rw [e1, bsome, show whl fu (f_X4_readProduct_b8 (R_X4_readSum (n + 3)) a0 x2) (0, C1) = some C1 from by
    show whl (999999 + 1) _ _ = _
    refine whl_e ?_
    unfold f_X4_readProduct_b8 f_X4_isProductSign g_X4_isProductSign
    dsimp only
    rw [if_neg (show ¬ (150 : Int32) ≤ 0 by decide), k_isNext_f t1 hf, bsome]
    dsimp only
    rw [if_pos z00, k_isNext_f t1 hf, bsome]
    dsimp only
    rw [if_pos z00, k_isNext_f t1 hf, bsome]
    dsimp only
    rw [if_pos z00]
    rfl, bsome]
  exact ⟨C1, rfl, k1⟩
theorem kf_sum {n : Nat} (ha : 28 ≤ a0) (hf : f ≠ 0) (hk : KB a0 C) (t : TC b C L p f fa) : ∃ C', R_X4_readSum (n + 5) 0 a0 x2 C = some C' ∧ KF b a0 L C C' f fa := by
  show ∃ C', fb_X4_readSum (R_X4_readSum (n + 4)) a0 x2 C = some C' ∧ _
  obtain ⟨C1, e1, k1⟩ := kf_product (n := n) (x2 := x2) ha hf hk t
  obtain ⟨-, -, p1, t1⟩ := id k1
  unfold fb_X4_readSum
  rw [e1, bsome, show whl fu (f_X4_readSum_b8 (R_X4_readSum (n + 4)) a0 x2) (0, C1) = some C1 from by
    show whl (999999 + 1) _ _ = _
    refine whl_e ?_
    unfold f_X4_readSum_b8
    dsimp only
    rw [if_neg (show ¬ (150 : Int32) ≤ 0 by decide), k_isNext_f t1 hf, bsome]
    dsimp only
    rw [if_pos z00, k_isNext_f t1 hf, bsome]
    dsimp only
    rw [if_pos z00], bsome]
  exact ⟨C1, rfl, k1⟩
/-! the reference behind a fault -/
theorem mf_one {n : Nat} (hf : f ≠ 0) (t : TT b T L p f fa) : R_X10_sum (n + 1) 2 T = some T := by
  show fb_X10_one (R_X10_sum n) T = some T
  unfold fb_X10_one
  rw [t.1.2.2.2.2.1, if_neg hf]
theorem mf_product {n : Nat} (hf : f ≠ 0) (t : TT b T L p f fa) : R_X10_sum (n + 2) 1 T = some T := by
  show fb_X10_product (R_X10_sum (n + 1)) T = some T
  unfold fb_X10_product
  rw [mf_one hf t, bsome, show whl fu (f_X10_product_b4 (R_X10_sum (n + 1))) T = some (Sum.inr T) from by
    show whl (999999 + 1) _ _ = _
    refine whl_e ?_
    unfold f_X10_product_b4
    rw [t.1.2.2.2.2.1, if_neg hf], bsome]
theorem mf_sum {n : Nat} (hf : f ≠ 0) (t : TT b T L p f fa) : R_X10_sum (n + 3) 0 T = some T := by
  show fb_X10_sum (R_X10_sum (n + 2)) T = some T
  unfold fb_X10_sum
  rw [mf_product hf t, bsome, show whl fu (f_X10_sum_b4 (R_X10_sum (n + 2))) T = some (Sum.inr T) from by
    show whl (999999 + 1) _ _ = _
    refine whl_e ?_
    unfold f_X10_sum_b4
    rw [t.1.2.2.2.2.1, if_neg hf], bsome]
theorem mf_notes {how v : Int32} (hf : f ≠ 0) (t : TT b T L p f fa) : f_X10_notes how v T = some T := by
  unfold f_X10_notes
  rw [t.1.2.2.2.2.1, if_neg hf]
/-! both -/
/-- in sync with that many values (so many bytes without a code), or both with a fault -/
def LX (b : Nat → Int32) (a0 : Nat) (C T : Mm) (L p0 s D dep : Nat) : Prop := (∃ p cnt, p0 < p ∧ SY b C T L p ∧ s ≤ p ∧ LwS a0 C T (p - s) cnt D dep) ∨ (FL b C T L ∧ KB a0 C)
theorem LX.lt {p1 s : Nat} (h : LX b a0 C T L p1 s D dep) (hp : p0 ≤ p1) : LX b a0 C T L p0 s D dep := h.elim (fun ⟨p, c, h1, h2⟩ => Or.inl ⟨p, c, by omega, h2⟩) Or.inr
theorem x_sgn {x : Int32} {s : Nat} (hb : TxB b) (hL : L ≤ 150) (ha : 28 ≤ a0) (hx : x ≠ -1) (h : LX b a0 C T L p0 s D dep) : ∃ C' T', f_X7_readSign x C = some C' ∧ f_X10_sign x T = some T' ∧ Lf a0 C C' ∧ Lt9 T T' ∧ LX b a0 C' T' L p0 s D dep := by
  rcases h with ⟨p, c, h1, h2, h4, h3⟩ | ⟨⟨f, fa, p, p', hf, h1, h2⟩, h3⟩
  · obtain ⟨C', T', e1, e2, c1, c2, h5⟩ := y_sign hb hx h2
    refine ⟨C', T', e1, e2, c1.lf, c2.lt, ?_⟩
    rcases h5 with ⟨p', q1, q2⟩ | h5
    · exact Or.inl ⟨p', c, by omega, q2, by omega, h3.of ha (by omega) c1 c2⟩
    · exact Or.inr ⟨h5, KB.of (h3.kb (by have := h2.1.1.2.1; omega)) ha c1⟩
  · obtain ⟨C', p2, e1, c1, t1⟩ := k_sign_f hx h1 hf
    exact ⟨C', T, e1, m_sign_f h2 hf, c1.lf, Lt9.refl, Or.inr ⟨⟨f, fa, p2, p', hf, t1, h2⟩, h3.of ha c1⟩⟩
/-- put in the class, not yet noted in the reference -/
def LwP (a0 : Nat) (C T : Mm) (r cnt D dep : Nat) (c : Int32) : Prop := mi C a0 3 = Int32.ofNat (cnt + 1) ∧ mi T 76 23 = Int32.ofNat cnt ∧ cnt < r ∧ mi T 76 8 = Int32.ofNat dep ∧ (lwE (mi C (a0 + 1)) (mi T 134) cnt ∧ mi C (a0 + 1) cnt = c) ∧ dp (mi T 134) cnt = D
theorem LwP.of {r r' : Nat} {c : Int32} (h : LwP a0 C T r cnt D dep c) (ha : 28 ≤ a0) (hr : r ≤ r') (g : CFr C C') (t : TFr T T') : LwP a0 C' T' r' cnt D dep c := by
  obtain ⟨h1, h2, h3, h4, h5, h6⟩ := h
  unfold LwP
  rw [g.1.at (by omega), g.1.at (by omega), t.2 23 (by omega), t.2 8 (by omega), t.1.at (show ¬ (134 : Nat) = 76 by omega)]
  exact ⟨h1, h2, by omega, h4, h5, h6⟩
theorem k_put1 {r r' : Nat} {c : Int32} (ha : 28 ≤ a0) (t : TC b C L p f fa) (hr : LwS a0 C T r cnt D dep) (hc : cnt < r') (h9 : cnt < 150) : ∃ C', f_X4_put a0 c C = some C' ∧ Lf a0 C C' ∧ TC b C' L p f fa ∧ LwP a0 C' T r' cnt D dep c := by
  obtain ⟨r1, r2, r3, r4, r5, r6⟩ := hr
  have hcl : f_X4_put a0 c C = some (sI (sI C (a0 + 1) cnt c) a0 3 (Int32.ofNat (cnt + 1))) := by
    unfold f_X4_put
    rw [r1, if_neg (show ¬ (150 : Int32) ≤ Int32.ofNat cnt from nle (n := 150) (by omega) (by omega)), wi_o (by omega) (by omega), bsome, mi_sI_ne (by omega), r1, oN_S]
  have eC : ∀ j, mi (sI (sI C (a0 + 1) cnt c) a0 3 (Int32.ofNat (cnt + 1))) (a0 + 1) j = if j = cnt then c else mi C (a0 + 1) j := fun j => by rw [mi_sI_ne (by omega), mi_sI, u1_at]
  refine ⟨_, hcl, ⟨om_si (om_si Om.refl (Or.inr (Or.inr rfl))) (Or.inr (Or.inl rfl)), fun i hi => by rw [mi_sI_ne (by omega), mi_sI_ne (by omega)]⟩, t.of (fun i _ _ => by rw [mi_sI_ne (by omega), mi_sI_ne (by omega)]) (by rw [mi_sI_ne (by omega), mi_sI_ne (by omega)]), mi_sI_k, r2, hc, r4, ⟨fun j hj => ?_, by rw [eC, if_pos rfl]⟩, r6⟩
  rw [eC, if_neg (by omega)]
  exact r5 j hj
theorem m_note1 {r : Nat} {c how v fa : Int32} (t : TT b T L p 0 fa) (hr : LwP a0 C T r cnt D dep c) (h9 : cnt < 150) (h1 : cdE c how v) (h2 : dpOk how D) : ∃ T', f_X10_notes how v T = some T' ∧ Lt9 T T' ∧ TT b T' L p 0 fa ∧ LwS a0 C T' r (cnt + 1) (dpS how D) dep := by
  obtain ⟨r1, r2, r3, r4, ⟨r5, r7⟩, r6⟩ := hr
  have e2 : (2 : Int32) * Int32.ofNat cnt = Int32.ofNat (2 * cnt) := tw2
  have hm : f_X10_notes how v T = some (sI (sI (sI T 134 (2 * cnt) how) 134 (2 * cnt + 1) v) 76 23 (Int32.ofNat (cnt + 1))) := by
    unfold f_X10_notes
    rw [t.1.2.2.2.2.1, if_pos rfl, r2, e2, wi_o (by omega) (by omega), bsome, mi_sI_ne (by omega), r2, e2, oN_S, wi_o (by omega) (by omega), bsome, mi_sI_ne (by omega), mi_sI_ne (by omega), r2, oN_S]
  have eT : ∀ j, mi (sI (sI (sI T 134 (2 * cnt) how) 134 (2 * cnt + 1) v) 76 23 (Int32.ofNat (cnt + 1))) 134 j = if j = 2 * cnt + 1 then v else if j = 2 * cnt then how else mi T 134 j := fun j => by rw [mi_sI_ne (by omega), mi_sI, u1_at, mi_sI, u1_at]
  have dpe : ∀ j, j ≤ cnt → dp (mi (sI (sI (sI T 134 (2 * cnt) how) 134 (2 * cnt + 1) v) 76 23 (Int32.ofNat (cnt + 1))) 134) j = dp (mi T 134) j := fun j hj => dp_congr j (fun i hi => by rw [eT, if_neg (by omega), if_neg (by omega)])
  refine ⟨_, hm, ⟨om_si (om_si (om_si Om.refl (Or.inr rfl)) (Or.inr rfl)) (Or.inl rfl), fun i hi => by rw [mi_sI_o (by omega), mi_sI_ne (by omega), mi_sI_ne (by omega)]⟩, t.of (fun i hi => by rw [mi_sI_o (by omega), mi_sI_ne (by omega), mi_sI_ne (by omega)]) (by rw [mi_sI_ne (by omega), mi_sI_ne (by omega), mi_sI_ne (by omega)]), r1, mi_sI_k, by omega, by rw [mi_sI_o (by omega), mi_sI_ne (by omega), mi_sI_ne (by omega)]; exact r4, fun j hj => ?_, ?_⟩
  · rw [dpe j (by omega), eT, eT]
    by_cases e : j = cnt
    · subst e
      rw [if_neg (by omega), if_pos rfl, if_pos rfl, r6, r7]
      exact ⟨h1, h2⟩
    · rw [if_neg (by omega), if_neg (by omega), if_neg (by omega), if_neg (by omega)]
      exact r5 j (by omega)
  · show dpS (mi _ 134 (2 * cnt)) (dp _ cnt) = _
    rw [dpe cnt (Nat.le_refl _), eT, if_neg (by omega), if_pos rfl, r6]
/-- a code put and noted -/
theorem y_put2 {r r' : Nat} {c how v : Int32} (ha : 28 ≤ a0) (hL : L ≤ 150) (h : SY b C T L p) (hr : LwS a0 C T r cnt D dep) (hc : cnt < r') (hp : r' ≤ p) (h1 : cdE c how v) (h2 : dpOk how D) : ∃ C' T', f_X4_put a0 c C = some C' ∧ f_X10_notes how v T = some T' ∧ Lf a0 C C' ∧ Lt9 T T' ∧ SY b C' T' L p ∧ LwS a0 C' T' r' (cnt + 1) (dpS how D) dep := by
  have := h.1.1.2.1
  obtain ⟨C1, e1, c1, t1, l1⟩ := k_put1 (r' := r') (c := c) ha h.1 hr hc (by omega)
  obtain ⟨T1, e2, c2, t2, l2⟩ := m_note1 h.2 l1 (by omega) h1 h2
  exact ⟨C1, T1, e1, e2, c1, c2, ⟨t1, t2⟩, l2⟩
/-- the claim for a part of the grammar -/
def HG (b : Nat → Int32) (a0 L : Nat) (rC : Nat → Mm → Option Mm) (rT : Mm → Option Mm) (dep : Nat) : Prop := ∀ (C T : Mm) (p p' s cnt D : Nat), TC b C L p 0 (-1) → TT b T L p' 0 (-1) → nb b L p' = nb b L p → s ≤ p → LwS a0 C T (p - s) cnt D dep → ∃ C' T', rC dep C = some C' ∧ rT T = some T' ∧ Lf a0 C C' ∧ Lt9 T T' ∧ LX b a0 C' T' L p s (D + 1) dep
theorem HG.sy {rC : Nat → Mm → Option Mm} {rT : Mm → Option Mm} (hG : HG b a0 L rC rT dep) (C T : Mm) (p s cnt D : Nat) (hS : SY b C T L p) (hs : s ≤ p) (hr : LwS a0 C T (p - s) cnt D dep) : ∃ C' T', rC dep C = some C' ∧ rT T = some T' ∧ Lf a0 C C' ∧ Lt9 T T' ∧ LX b a0 C' T' L p s (D + 1) dep := hG C T p p s cnt D hS.1 hS.2 rfl hs hr
/-- what comes behind a fault -/
def HF (b : Nat → Int32) (a0 L : Nat) (rC : Nat → Mm → Option Mm) (rT : Mm → Option Mm) (dep : Nat) : Prop := (∀ (C : Mm) (p : Nat) (f fa : Int32), f ≠ 0 → KB a0 C → TC b C L p f fa → ∃ C', rC dep C = some C' ∧ KF b a0 L C C' f fa) ∧ (∀ (T : Mm) (p : Nat) (f fa : Int32), f ≠ 0 → TT b T L p f fa → rT T = some T)
theorem x_rec {rC : Nat → Mm → Option Mm} {rT : Mm → Option Mm} {s : Nat} (hG : HG b a0 L rC rT dep) (hF : HF b a0 L rC rT dep) (h : LX b a0 C T L p0 s D dep) : ∃ C' T', rC dep C = some C' ∧ rT T = some T' ∧ Lf a0 C C' ∧ Lt9 T T' ∧ LX b a0 C' T' L p0 s (D + 1) dep := by
  rcases h with ⟨p, c, h1, h2, h4, h3⟩ | ⟨⟨f, fa, p, p', hf, h1, h2⟩, h3⟩
  · obtain ⟨C', T', e1, e2, e3, e4, e5⟩ := hG.sy C T p s c D h2 h4 h3
    exact ⟨C', T', e1, e2, e3, e4, e5.lt (by omega)⟩
  · obtain ⟨C', e1, e2, e3, p2, e4⟩ := hF.1 C p f fa hf h3 h1
    exact ⟨C', T, e1, hF.2 T p' f fa hf h2, e2, Lt9.refl, Or.inr ⟨⟨f, fa, p2, p', hf, e4, h2⟩, e3⟩⟩
/-- operators and what they join -/
theorem y_ops {FC : (Int32 × Mm) → Option ((Int32 × Mm) ⊕ Mm)} {FT : Mm → Option (Mm ⊕ (Mm ⊕ Mm))} {rC : Nat → Mm → Option Mm} {rT : Mm → Option Mm} (ha : 28 ≤ a0) (hL : L ≤ 150) (hG : HG b a0 L rC rT dep) (hF : HF b a0 L rC rT dep)
    (hop : ∀ C T p i, SY b C T L p → i < 150 → (∃ C1 T1 e, FC (Int32.ofNat i, C) = some (.inr C1) ∧ FT T = some (.inr e) ∧ (e = .inl T1 ∨ e = .inr T1) ∧ CFr C C1 ∧ TFr T T1 ∧ SY b C1 T1 L (nb b L p)) ∨
      (∃ C1 T1 how c, CFr C C1 ∧ TFr T T1 ∧ SY b C1 T1 L (nb b L p + 1) ∧ cdE c how 0 ∧ (how ≠ 0 ∧ how ≠ 1 ∧ how ≠ 7) ∧ FC (Int32.ofNat i, C) = ((rC dep C1).bind fun M7 => (f_X4_put a0 c M7).bind fun M8 => some (.inl (Int32.ofNat (i + 1), M8))) ∧ FT T = ((rT T1).bind fun M8 => (f_X10_notes how 0 M8).bind fun M9 => some (.inl M9))))
    (hfl : ∀ C p f fa x, f ≠ 0 → TC b C L p f fa → FC (x, C) = some (.inr C)) (hft : ∀ T p f fa, f ≠ 0 → TT b T L p f fa → FT T = some (.inr (.inr T))) :
    ∀ d p C T i K K' s cnt D, L - p ≤ d → d < K → d < K' → i < p → 1 ≤ D → SY b C T L p → s ≤ p → LwS a0 C T (p - s) cnt D dep → ∃ C' T' e, whl (K + 1) FC (Int32.ofNat i, C) = some C' ∧ whl (K' + 1) FT T = some e ∧ (e = .inl T' ∨ e = .inr T') ∧ Lf a0 C C' ∧ Lt9 T T' ∧ ((∃ p' cnt', p ≤ p' ∧ SY b C' T' L p' ∧ s ≤ p' ∧ LwS a0 C' T' (p' - s) cnt' D dep) ∨ (FL b C' T' L ∧ KB a0 C')) := by
  intro d
  induction d with
  | zero =>
    intro p C T i K K' s cnt D hd hK hK' hi hD hS hs hr
    have hp := hS.1.1.2.1
    have hge := nb_ge (b := b) hp
    have hle := nb_le (b := b) hp
    rcases hop C T p i hS (by omega) with ⟨C1, T1, e, g1, g2, g3, g4, g5, g6⟩ | ⟨C1, T1, how, c, g1, g2, g3, -⟩
    · exact ⟨C1, T1, e, whl_e g1, whl_e g2, g3, g4.lf, g5.lt, Or.inl ⟨_, cnt, hge, g6, by omega, hr.of ha (by omega) g4 g5⟩⟩
    · have := g3.1.1.2.1
      omega
  | succ d ih =>
    intro p C T i K K' s cnt D hd hK hK' hi hD hS hs hr
    obtain ⟨K, rfl⟩ : ∃ k, K = k + 1 := ⟨K - 1, by omega⟩
    obtain ⟨K', rfl⟩ : ∃ k, K' = k + 1 := ⟨K' - 1, by omega⟩
    have hp := hS.1.1.2.1
    have hge := nb_ge (b := b) hp
    have hle := nb_le (b := b) hp
    rcases hop C T p i hS (by omega) with ⟨C1, T1, e, g1, g2, g3, g4, g5, g6⟩ | ⟨C1, T1, how, c, g1, g2, g3, g4, g5, g6, g7⟩
    · exact ⟨C1, T1, e, whl_e g1, whl_e g2, g3, g4.lf, g5.lt, Or.inl ⟨_, cnt, hge, g6, by omega, hr.of ha (by omega) g4 g5⟩⟩
    · have hp1 := g3.1.1.2.1
      obtain ⟨C2, T2, e1, e2, c1, c2, hx⟩ := hG.sy C1 T1 (nb b L p + 1) (s + 1) cnt D g3 (by omega) (hr.of ha (by omega) g1 g2)
      rcases hx with ⟨p2, cnt2, x1, x2, x3, x4⟩ | ⟨⟨f, fa, p2, p3, hf, x1, x2⟩, x3⟩
      · have hcn := x4.2.2.1
        obtain ⟨C3, T3, e3, e4, c3, c4, y1, y2⟩ := y_put2 (r' := p2 - s) (c := c) (how := how) (v := 0) ha hL x2 x4 (by omega) (by omega) g4 (Or.inr (Or.inr ⟨by omega, g5⟩))
        have hds : dpS how (D + 1) = D := by
          unfold dpS
          rw [if_neg (fun z => z.elim g5.1 g5.2.1), if_neg g5.2.2]
          omega
        rw [hds] at y2
        obtain ⟨C4, T4, e, w1, w2, w3, w4, w5, w6⟩ := ih p2 C3 T3 (i + 1) K K' s (cnt2 + 1) D (by omega) (by omega) (by omega) (by omega) hD y1 (by omega) y2
        refine ⟨C4, T4, e, ?_, ?_, w3, ((g1.lf.trans c1).trans c3).trans w4, ((g2.lt.trans c2).trans c4).trans w5, ?_⟩
        · rw [whl_s (by rw [g6, e1, bsome, e3, bsome])]
          exact w1
        · rw [whl_s (by rw [g7, e2, bsome, e4, bsome])]
          exact w2
        · rcases w6 with ⟨p4, c9, z1, z2⟩ | w6
          · exact Or.inl ⟨p4, c9, by omega, z2⟩
          · exact Or.inr w6
      · obtain ⟨C3, e3, k1, k2, p4, k3⟩ := kf_put (x := c) ha (kf_0 x3 x1)
        refine ⟨C3, T2, .inr T2, ?_, ?_, Or.inr rfl, (g1.lf.trans c1).trans k1, g2.lt.trans c2, Or.inr ⟨⟨f, fa, p4, p3, hf, k3, x2⟩, k2⟩⟩
        · rw [whl_s (by rw [g6, e1, bsome, e3, bsome])]
          exact whl_e (hfl C3 p4 f fa _ hf k3)
        · rw [whl_s (by rw [g7, e2, bsome, mf_notes hf x2, bsome])]
          exact whl_e (hft T2 p3 f fa hf x2)
end LB9
