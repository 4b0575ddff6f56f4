/-! level 3: a law read: pieces -/
section LA
variable {b : Nat → Int32} {C C' T T' : Mm} {L p cnt D dep a0 : Nat} {f fa : Int32}
def Lf (a0 : Nat) (C C' : Mm) : Prop := Om (fun a => a = 1 ∨ a = a0 ∨ a = a0 + 1) C C' ∧ ∀ i, i < 3 → mi C' 1 i = mi C 1 i
def Lt9 (T T' : Mm) : Prop := Om (fun a => a = 76 ∨ a = 134) T T' ∧ ∀ i, (i < 4 ∨ (6 < i ∧ i ≠ 8 ∧ i ≠ 23)) → mi T' 76 i = mi T 76 i
theorem Lf.refl : Lf a0 C C := ⟨Om.refl, fun _ _ => rfl⟩
theorem Lt9.refl : Lt9 T T := ⟨Om.refl, fun _ _ => rfl⟩
theorem Lf.trans {E : Mm} (h1 : Lf a0 C C') (h2 : Lf a0 C' E) : Lf a0 C E := ⟨h1.1.trans h2.1, fun i hi => (h2.2 i hi).trans (h1.2 i hi)⟩
theorem Lt9.trans {E : Mm} (h1 : Lt9 T T') (h2 : Lt9 T' E) : Lt9 T E := ⟨h1.1.trans h2.1, fun i hi => (h2.2 i hi).trans (h1.2 i hi)⟩
theorem CFr.lf (h : CFr C C') : Lf a0 C C' := ⟨h.1.mono (fun a ha => Or.inl ha), h.2⟩
theorem TFr.lt (h : TFr T T') : Lt9 T T' := ⟨h.1.mono (fun a ha => Or.inl ha), fun i hi => h.2 i (by omega)⟩
theorem Lt9.s {i : Nat} {x : Int32} (hi : i = 8 ∨ i = 23) : Lt9 T (sI T 76 i x) := ⟨Om.sI (Or.inl rfl), fun j hj => mi_sI_o (by omega)⟩
/-- the codes so far are alike -/
def LwS (a0 : Nat) (C T : Mm) (p cnt D dep : Nat) : Prop := mi C a0 3 = Int32.ofNat cnt ∧ mi T 76 23 = Int32.ofNat cnt ∧ cnt ≤ p ∧ mi T 76 8 = Int32.ofNat dep ∧ lwE (mi C (a0 + 1)) (mi T 134) cnt ∧ dp (mi T 134) cnt = D
theorem LwS.of (h : LwS a0 C T p cnt D dep) (ha : 28 ≤ a0) {p' : Nat} (hp : p ≤ p') (c : CFr C C') (t : TFr T T') : LwS a0 C' T' p' cnt D dep := by
  obtain ⟨h1, h2, h3, h4, h5, h6⟩ := h
  unfold LwS
  rw [c.1.at (by omega), c.1.at (by omega), t.2 23 (by omega), t.2 8 (by omega), t.1.at (show ¬ (134 : Nat) = 76 by omega)]
  exact ⟨h1, h2, by omega, h4, h5, h6⟩
def KB (a0 : Nat) (C : Mm) : Prop := ∃ c : Nat, c ≤ 150 ∧ mi C a0 3 = Int32.ofNat c
theorem KB.of (h : KB a0 C) (ha : 28 ≤ a0) (c : CFr C C') : KB a0 C' := by
  unfold KB
  rw [c.1.at (by omega)]
  exact h
theorem LwS.kb (h : LwS a0 C T p cnt D dep) (hp : p ≤ 150) : KB a0 C := ⟨cnt, by have := h.2.2.1; omega, h.1⟩
/-- put, whatever stands -/
theorem k_put_t {x : Int32} (ha : 28 ≤ a0) (hk : KB a0 C) (t : TC b C L p f fa) : ∃ C', f_X4_put a0 x C = some C' ∧ Lf a0 C C' ∧ KB a0 C' ∧ TC b C' L p f fa := by
  obtain ⟨c, c1, c2⟩ := hk
  unfold f_X4_put
  rw [c2]
  by_cases h9 : c < 150
  · rw [if_neg (show ¬ (150 : Int32) ≤ Int32.ofNat c from nle (n := 150) h9 (by omega)), wi_o h9 (by omega), bsome, mi_sI_ne (by omega), c2, oN_S]
    refine ⟨_, rfl, ⟨om_si (om_si Om.refl (Or.inr (Or.inr rfl))) (Or.inr (Or.inl rfl)), fun i hi => by rw [mi_sI_ne (by omega), mi_sI_ne (by omega)]⟩, ⟨c + 1, by omega, mi_sI_k⟩, t.of (fun i _ _ => by rw [mi_sI_ne (by omega), mi_sI_ne (by omega)]) (by rw [mi_sI_ne (by omega), mi_sI_ne (by omega)])⟩
  · rw [if_pos (show (150 : Int32) ≤ Int32.ofNat c from (oN_le (i := 150) (by omega) (by omega)).mpr (by omega))]
    exact ⟨C, rfl, Lf.refl, ⟨c, c1, c2⟩, t⟩
theorem dp_congr {g g' : Nat → Int32} : ∀ n, (∀ i, i < n → g' (2 * i) = g (2 * i)) → dp g' n = dp g n := by
  intro n
  induction n with
  | zero => exact fun _ => rfl
  | succ n ih =>
    intro h
    show dpS (g' (2 * n)) (dp g' n) = dpS (g (2 * n)) (dp g n)
    rw [ih (fun i hi => h i (by omega)), h n (by omega)]
/-- a code put and noted -/
theorem y_put {c how v : Int32} (ha : 28 ≤ a0) (h : SY b C T L p) (hL : L ≤ 150) (hr : LwS a0 C T p cnt D dep) (hc : cnt < p) (h1 : cdE c how v) (h2 : dpOk how D) : ∃ C' T', f_X4_put a0 c C = some C' ∧ f_X10_notes how v T = some T' ∧ Lf a0 C C' ∧ Lt9 T T' ∧ SY b C' T' L p ∧ LwS a0 C' T' p (cnt + 1) (dpS how D) dep := by
  obtain ⟨r1, r2, r3, r4, r5, r6⟩ := hr
  have hp := h.1.1.2.1
  have e2 : (2 : Int32) * Int32.ofNat cnt = Int32.ofNat (2 * cnt) := tw2
  have hcl : f_X4_put a0 c C = some (sI (sI C (a0 + 1) cnt c) a0 3 (Int32.ofNat (cnt + 1))) := by
    unfold f_X4_put
    rw [r1, if_neg (show ¬ (150 : Int32) ≤ Int32.ofNat cnt from nle (n := 150) (by omega) (by omega)), wi_o (by omega) (by omega), bsome, mi_sI_ne (by omega), r1, oN_S]
  have hm : f_X10_notes how v T = some (sI (sI (sI T 134 (2 * cnt) how) 134 (2 * cnt + 1) v) 76 23 (Int32.ofNat (cnt + 1))) := by
    unfold f_X10_notes
    rw [h.2.1.2.2.2.2.1, if_pos rfl, r2, e2, wi_o (by omega) (by omega), bsome, mi_sI_ne (by omega), r2, e2, oN_S, wi_o (by omega) (by omega), bsome, mi_sI_ne (by omega), mi_sI_ne (by omega), r2, oN_S]
  have eC : ∀ j, mi (sI (sI C (a0 + 1) cnt c) a0 3 (Int32.ofNat (cnt + 1))) (a0 + 1) j = if j = cnt then c else mi C (a0 + 1) j := fun j => by rw [mi_sI_ne (by omega), mi_sI, u1_at]
  have eT : ∀ j, mi (sI (sI (sI T 134 (2 * cnt) how) 134 (2 * cnt + 1) v) 76 23 (Int32.ofNat (cnt + 1))) 134 j = if j = 2 * cnt + 1 then v else if j = 2 * cnt then how else mi T 134 j := fun j => by rw [mi_sI_ne (by omega), mi_sI, u1_at, mi_sI, u1_at]
  have dpe : ∀ j, j ≤ cnt → dp (mi (sI (sI (sI T 134 (2 * cnt) how) 134 (2 * cnt + 1) v) 76 23 (Int32.ofNat (cnt + 1))) 134) j = dp (mi T 134) j := fun j hj => dp_congr j (fun i hi => by rw [eT, if_neg (by omega), if_neg (by omega)])
  refine ⟨_, _, hcl, hm, ⟨om_si (om_si Om.refl (Or.inr (Or.inr rfl))) (Or.inr (Or.inl rfl)), fun i hi => by rw [mi_sI_ne (by omega), mi_sI_ne (by omega)]⟩, ⟨om_si (om_si (om_si Om.refl (Or.inr rfl)) (Or.inr rfl)) (Or.inl rfl), fun i hi => by rw [mi_sI_o (by omega), mi_sI_ne (by omega), mi_sI_ne (by omega)]⟩, ⟨h.1.of (fun i _ _ => by rw [mi_sI_ne (by omega), mi_sI_ne (by omega)]) (by rw [mi_sI_ne (by omega), mi_sI_ne (by omega)]), h.2.of (fun i hi => by rw [mi_sI_o (by omega), mi_sI_ne (by omega), mi_sI_ne (by omega)]) (by rw [mi_sI_ne (by omega), mi_sI_ne (by omega), mi_sI_ne (by omega)])⟩, mi_sI_k, mi_sI_k, by omega, by rw [mi_sI_o (by omega), mi_sI_ne (by omega), mi_sI_ne (by omega)]; exact r4, fun j hj => ?_, ?_⟩
  · rw [dpe j (by omega), eC, eT, eT]
    by_cases e : j = cnt
    · subst e
      rw [if_pos rfl, if_neg (by omega), if_pos rfl, if_pos rfl, r6]
      exact ⟨h1, h2⟩
    · rw [if_neg e, if_neg (by omega), if_neg (by omega), if_neg (by omega), if_neg (by omega)]
      exact r5 j (by omega)
  · show dpS (mi _ 134 (2 * cnt)) (dp _ cnt) = _
    rw [dpe cnt (Nat.le_refl _), eT, if_neg (by omega), if_pos rfl, r6]
/-! is a sign the next one -/
theorem k_isNext {x : Int32} (h : TC b C L p f fa) (hf : f = 0) : ∃ C', f_X7_isNext x C = some (if bL b L (nb b L p) = x then 1 else 0, C') ∧ CFr C C' ∧ TC b C' L (nb b L p) f fa := by
  obtain ⟨C1, e1, t1, c1, -⟩ := k_next h
  unfold f_X7_isNext g_X7_isNext
  rw [k_fine h, bsome, if_pos hf, if_neg z10, e1, bsome]
  dsimp only
  by_cases hv : bL b L (nb b L p) = x
  · rw [if_pos hv, if_pos hv]
    exact ⟨C1, rfl, c1, t1⟩
  · rw [if_neg hv, if_neg hv]
    exact ⟨C1, rfl, c1, t1⟩
theorem k_isNext_f {x : Int32} (h : TC b C L p f fa) (hf : f ≠ 0) : f_X7_isNext x C = some (0, C) := by
  unfold f_X7_isNext g_X7_isNext
  rw [k_fine h, bsome, if_neg hf, if_pos z00]
  rfl
theorem m_takes {x : Int32} (hb : TxB b) (hx : x ≠ -1) (h : TT b T L p 0 fa) : ∃ T', f_X10_takesSign x T = some (if bL b L (nb b L p) = x then 1 else 0, T') ∧ TFr T T' ∧ TT b T' L (if bL b L (nb b L p) = x then nb b L p + 1 else nb b L p) 0 fa := by
  obtain ⟨T1, e1, t1, c1⟩ := m_blanks hb h
  have hL := t1.1.1
  have hp1 := t1.1.2.1
  unfold f_X10_takesSign g_X10_takesSign
  rw [h.1.2.2.2.2.1, if_pos rfl, e1, bsome, t1.1.2.2.2.1, m_byte t1 (by omega), bsome]
  by_cases hv : bL b L (nb b L p) = x
  · have hlt : nb b L p < L := by
      by_cases hlt : nb b L p < L
      · exact hlt
      · unfold bL at hv
        rw [if_neg hlt] at hv
        exact absurd hv.symm hx
    rw [if_pos hv, if_neg z10, if_pos hv, oN_S]
    exact ⟨_, rfl, c1.trans (TFr.s (by omega)), t1.pos (by omega)⟩
  · rw [if_neg hv, if_pos z00, if_neg hv]
    exact ⟨T1, rfl, c1, t1⟩
theorem k_skipSign (h : TC b C L p f fa) (hp : p < L) : f_X7_skipSign C = some (sI C 1 3 (Int32.ofNat (p + 1))) := by
  have hL := h.1.1
  unfold f_X7_skipSign
  rw [h.1.2.2.1, h.1.2.2.2.1, if_neg (nle hp (by omega)), oN_S]
theorem k_skipSign_t (h : TC b C L p f fa) : ∃ C' p', f_X7_skipSign C = some C' ∧ CFr C C' ∧ TC b C' L p' f fa := by
  have hL := h.1.1
  have hp := h.1.2.1
  by_cases h1 : p < L
  · exact ⟨_, _, k_skipSign h h1, CFr.s (by omega), h.pos (by omega)⟩
  · unfold f_X7_skipSign
    rw [h.1.2.2.1, h.1.2.2.2.1, if_pos ((oN_le (by omega) (by omega)).mpr (by omega))]
    exact ⟨C, p, rfl, CFr.refl, h⟩
/-! names -/
def wsN : List (List Nat) := [[19, 9, 26, 5], [19, 15, 9, 12], [25, 5, 1, 18], [13, 1, 14, 25], [24], [25], [1, 12, 12], [9, 6]]
theorem wsN_ok : slN 1 ≤ 1000 ∧ wfT 1 wsN 0 = true ∧ wlen wsN < 1000 ∧ wsN.length < 1000 := by decide +kernel
theorem fst_un {p0 : Nat} : ∀ ws i v v', fstW b L p0 ws i v → fstW b L p0 ws i v' → v = v' := by
  intro ws
  induction ws with
  | nil =>
    intro i v v' h1 h2
    exact (show v = -1 from h1).trans (show v' = -1 from h2).symm
  | cons lw ws ih =>
    intro i v v' h1 h2
    rcases h1 with ⟨a1, a2⟩ | ⟨a1, a2⟩
    · rcases h2 with ⟨b1, b2⟩ | ⟨b1, b2⟩
      · exact a2.trans b2.symm
      · exact absurd a1 b1
    · rcases h2 with ⟨b1, b2⟩ | ⟨b1, b2⟩
      · exact absurd b1 a1
      · exact ih (i + 1) v v' a2 b2
/-- one word asked of the reference -/
theorem m_ask {x1 x2 x3 x4 x5 x6 : Int32} {lw : List Nat} (hb : TxB b) (h : TT b T L p 0 fa) (hn : nb b L p = p) (h1 : lw.length ≤ 6) (h2 : ∀ i, i < lw.length → 1 ≤ lw.getD i 0 ∧ lw.getD i 0 ≤ 26) (hs : ∀ M, f_X10_six x1 x2 x3 x4 x5 x6 M = some (Int32.ofNat (cF (fun i => lw.getD i 0) lw.length))) : ∃ T' v, f_X10_isWord x1 x2 x3 x4 x5 x6 T = some (v, T') ∧ TFr T T' ∧ TT b T' L p 0 fa ∧ ((v = 1 ∧ isW b L p lw) ∨ (v = 0 ∧ ¬ isW b L p lw)) := by
  obtain ⟨T1, e1, t1, c1⟩ := m_isWord hb h hs
  rw [hn] at e1 t1
  have key := isW_code hb h.1.2.1 h1 h2
  by_cases hv : wdV b L p = Int32.ofNat (cF (fun i => lw.getD i 0) lw.length)
  · rw [if_pos hv] at e1
    exact ⟨T1, 1, e1, c1, t1, Or.inl ⟨rfl, key.mpr hv⟩⟩
  · rw [if_neg hv] at e1
    exact ⟨T1, 0, e1, c1, t1, Or.inr ⟨rfl, fun z => hv (key.mp z)⟩⟩
theorem m_take {x1 x2 x3 x4 x5 x6 : Int32} {lw : List Nat} (hb : TxB b) (h : TT b T L p 0 fa) (hn : nb b L p = p) (h1 : lw.length ≤ 6) (h2 : ∀ i, i < lw.length → 1 ≤ lw.getD i 0 ∧ lw.getD i 0 ≤ 26) (hs : ∀ M, f_X10_six x1 x2 x3 x4 x5 x6 M = some (Int32.ofNat (cF (fun i => lw.getD i 0) lw.length))) : ∃ T' v, f_X10_takes x1 x2 x3 x4 x5 x6 T = some (v, T') ∧ TFr T T' ∧ ((v = 1 ∧ isW b L p lw ∧ TT b T' L (we b L p) 0 fa) ∨ (v = 0 ∧ ¬ isW b L p lw ∧ TT b T' L p 0 fa)) := by
  obtain ⟨T1, v, e1, c1, t1, hv⟩ := m_ask hb h hn h1 h2 hs
  unfold f_X10_takes g_X10_takes
  rw [e1, bsome]
  dsimp only
  rcases hv with ⟨rfl, hy⟩ | ⟨rfl, hn⟩
  · obtain ⟨T2, e2, t2, c2⟩ := m_skipWord t1
    rw [if_neg z10, e2, bsome]
    exact ⟨T2, 1, rfl, c1.trans c2, Or.inl ⟨rfl, hy, t2⟩⟩
  · rw [if_pos z00]
    exact ⟨T1, 0, rfl, c1, Or.inr ⟨rfl, hn, t1⟩⟩
/-- names but "if": which, and behind it -/
def wsK : List (List Nat) := [[19, 9, 26, 5], [19, 15, 9, 12], [25, 5, 1, 18], [13, 1, 14, 25], [24], [25], [1, 12, 12]]
theorem m_known (hb : TxB b) (h : TT b T L p 0 fa) (hn : nb b L p = p) : ∃ T' v, f_X10_knownHere T = some (v, T') ∧ TFr T T' ∧ fstW b L p wsK 0 v ∧ ((v = -1 ∧ TT b T' L p 0 fa) ∨ (∃ j : Nat, j ≤ 6 ∧ v = Int32.ofNat j ∧ TT b T' L (we b L p) 0 fa)) := by
  unfold f_X10_knownHere
  obtain ⟨T1, v1, e1, c1, r1⟩ := m_take (lw := [19, 9, 26, 5]) (x1 := 19) (x2 := 9) (x3 := 26) (x4 := 5) (x5 := 0) (x6 := 0) hb h hn (by decide) (by decide) (fun M => by rfl)
  rw [e1, bsome]
  dsimp only
  rcases r1 with ⟨rfl, y1, t1⟩ | ⟨rfl, n1, t1⟩
  · rw [if_neg z10]
    exact ⟨T1, 0, rfl, c1, Or.inl ⟨y1, rfl⟩, Or.inr ⟨0, by omega, rfl, t1⟩⟩
  rw [if_pos z00]
  obtain ⟨T2, v2, e2, c2, r2⟩ := m_take (lw := [19, 15, 9, 12]) (x1 := 19) (x2 := 15) (x3 := 9) (x4 := 12) (x5 := 0) (x6 := 0) hb t1 hn (by decide) (by decide) (fun M => by rfl)
  rw [e2, bsome]
  dsimp only
  rcases r2 with ⟨rfl, y2, t2⟩ | ⟨rfl, n2, t2⟩
  · rw [if_neg z10]
    exact ⟨T2, 1, rfl, c1.trans c2, Or.inr ⟨n1, Or.inl ⟨y2, rfl⟩⟩, Or.inr ⟨1, by omega, rfl, t2⟩⟩
  rw [if_pos z00]
  obtain ⟨T3, v3, e3, c3, r3⟩ := m_take (lw := [25, 5, 1, 18]) (x1 := 25) (x2 := 5) (x3 := 1) (x4 := 18) (x5 := 0) (x6 := 0) hb t2 hn (by decide) (by decide) (fun M => by rfl)
  rw [e3, bsome]
  dsimp only
  rcases r3 with ⟨rfl, y3, t3⟩ | ⟨rfl, n3, t3⟩
  · rw [if_neg z10]
    exact ⟨T3, 2, rfl, (c1.trans c2).trans c3, Or.inr ⟨n1, Or.inr ⟨n2, Or.inl ⟨y3, rfl⟩⟩⟩, Or.inr ⟨2, by omega, rfl, t3⟩⟩
  rw [if_pos z00]
  obtain ⟨T4, v4, e4, c4, r4⟩ := m_take (lw := [13, 1, 14, 25]) (x1 := 13) (x2 := 1) (x3 := 14) (x4 := 25) (x5 := 0) (x6 := 0) hb t3 hn (by decide) (by decide) (fun M => by rfl)
  rw [e4, bsome]
  dsimp only
  rcases r4 with ⟨rfl, y4, t4⟩ | ⟨rfl, n4, t4⟩
  · rw [if_neg z10]
    exact ⟨T4, 3, rfl, ((c1.trans c2).trans c3).trans c4, Or.inr ⟨n1, Or.inr ⟨n2, Or.inr ⟨n3, Or.inl ⟨y4, rfl⟩⟩⟩⟩, Or.inr ⟨3, by omega, rfl, t4⟩⟩
  rw [if_pos z00]
  obtain ⟨T5, v5, e5, c5, r5⟩ := m_take (lw := [24]) (x1 := 24) (x2 := 0) (x3 := 0) (x4 := 0) (x5 := 0) (x6 := 0) hb t4 hn (by decide) (by decide) (fun M => by rfl)
  rw [e5, bsome]
  dsimp only
  rcases r5 with ⟨rfl, y5, t5⟩ | ⟨rfl, n5, t5⟩
  · rw [if_neg z10]
    exact ⟨T5, 4, rfl, (((c1.trans c2).trans c3).trans c4).trans c5, Or.inr ⟨n1, Or.inr ⟨n2, Or.inr ⟨n3, Or.inr ⟨n4, Or.inl ⟨y5, rfl⟩⟩⟩⟩⟩, Or.inr ⟨4, by omega, rfl, t5⟩⟩
  rw [if_pos z00]
  obtain ⟨T6, v6, e6, c6, r6⟩ := m_take (lw := [25]) (x1 := 25) (x2 := 0) (x3 := 0) (x4 := 0) (x5 := 0) (x6 := 0) hb t5 hn (by decide) (by decide) (fun M => by rfl)
  rw [e6, bsome]
  dsimp only
  rcases r6 with ⟨rfl, y6, t6⟩ | ⟨rfl, n6, t6⟩
  · rw [if_neg z10]
    exact ⟨T6, 5, rfl, ((((c1.trans c2).trans c3).trans c4).trans c5).trans c6, Or.inr ⟨n1, Or.inr ⟨n2, Or.inr ⟨n3, Or.inr ⟨n4, Or.inr ⟨n5, Or.inl ⟨y6, rfl⟩⟩⟩⟩⟩⟩, Or.inr ⟨5, by omega, rfl, t6⟩⟩
  rw [if_pos z00]
  obtain ⟨T7, v7, e7, c7, r7⟩ := m_take (lw := [1, 12, 12]) (x1 := 1) (x2 := 12) (x3 := 12) (x4 := 0) (x5 := 0) (x6 := 0) hb t6 hn (by decide) (by decide) (fun M => by rfl)
  rw [e7, bsome]
  dsimp only
  have cc := (((((c1.trans c2).trans c3).trans c4).trans c5).trans c6).trans c7
  rcases r7 with ⟨rfl, y7, t7⟩ | ⟨rfl, n7, t7⟩
  · rw [if_neg z10]
    exact ⟨T7, 6, rfl, cc, Or.inr ⟨n1, Or.inr ⟨n2, Or.inr ⟨n3, Or.inr ⟨n4, Or.inr ⟨n5, Or.inr ⟨n6, Or.inl ⟨y7, rfl⟩⟩⟩⟩⟩⟩⟩, Or.inr ⟨6, by omega, rfl, t7⟩⟩
  · rw [if_pos z00]
    exact ⟨T7, -1, rfl, cc, Or.inr ⟨n1, Or.inr ⟨n2, Or.inr ⟨n3, Or.inr ⟨n4, Or.inr ⟨n5, Or.inr ⟨n6, Or.inr ⟨n7, rfl⟩⟩⟩⟩⟩⟩⟩, Or.inl ⟨rfl, t7⟩⟩
end LA
