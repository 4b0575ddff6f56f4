/-! level 3: rows alike but for year and sums; rise asked -/
/-- rows alike but for the year and the sums -/
def Rq (r r' : Nat → Int32) : Prop := ∀ j, j < 415 → (j < 363 ∨ 367 ≤ j) → r' j = r j
section RQ
variable {k : Nat} {M : Mm} {q : Nat → Nat}
theorem Rq.n {r r' : Nat → Int32} (h : Rq r r') : rN r' = rN r := by unfold rN; rw [h 360 (by omega) (by omega)]
theorem Rq.c {r r' : Nat → Int32} (h : Rq r r') {i : Nat} (hi : i < 60) : rC r' i = rC r i := by
  unfold rC nX nY
  rw [h (6 * i) (by omega) (by omega), h (6 * i + 1) (by omega) (by omega)]
theorem Rq.vr {w h9 : Nat} {r r' : Nat → Int32} (h : Rq r r') (hV : VR w h9 r) : VR w h9 r' := by
  have h6 := hV.n60
  obtain ⟨v1, v2, v3, v4, v5⟩ := hV
  refine ⟨v1, ?_, fun k hk => ?_, ?_, fun c hc => ?_⟩
  · rw [h.n, h 360 (by omega) (by omega)]; exact v2
  · rw [h.n] at hk
    have := v3 k hk
    unfold VS nX nY at this ⊢
    rw [h (6 * k) (by omega) (by omega), h (6 * k + 1) (by omega) (by omega), h (6 * k + 2) (by omega) (by omega), h (6 * k + 4) (by omega) (by omega)]
    exact this
  · rw [h 361 (by omega) (by omega), h 362 (by omega) (by omega)]; exact v4
  · rw [h (367 + c) (by omega) (by omega)]; exact v5 c hc
theorem rq_lyIn {r r' : Nat → Int32} (h : Rq r r') (hn : rN r ≤ 60) (c : Nat) : lyIn r' c = lyIn r c := by
  unfold lyIn
  rw [h.n]
  refine sm_congr (fun i hi => ?_)
  unfold Li
  rw [h.c (by omega), h (6 * i + 4) (by omega) (by omega)]
theorem rq_lyN {r r' : Nat → Int32} (h : Rq r r') (hn : rN r ≤ 60) : lyN r' = lyN r := by
  unfold lyN
  rw [h.n]
  refine sm_congr (fun i hi => ?_)
  rw [h (6 * i + 4) (by omega) (by omega)]
theorem m_copies {N : Mm} {a b : Nat} (ha : LN a = 415) (hb : LN b = 415) (hab : a ≠ b) : f_X10_copies a b N = some (sA N b (upto 415 (mi N a) (mi N b))) := by
  unfold f_X10_copies
  rw [fill_loop (b := f_X10_copies_b2 a b) 415 b (mi N a) N (by omega) (by
    intro i hi
    unfold f_X10_copies_b2
    dsimp only
    have h9 : ¬ (415 : Int32) ≤ Int32.ofNat i := nle (n := 415) hi (by omega)
    rw [if_neg h9, ha, hb, ai_o hi (by omega), bsome, wi_o hi (by omega), bsome, mi_sA_ne hab]) (by
    unfold f_X10_copies_b2
    dsimp only
    have h9 : (415 : Int32) ≤ Int32.ofNat 415 := le_rf _
    rw [if_pos h9])]
  rfl
theorem risO_of {T T' : Mm} {r r' : Nat → Int32} {c : Nat} {yr all : Int32} (e1 : mi T' 114 = mi T 114) (e2 : mi T' 119 = mi T 119) (e3 : mi T' 82 = mi T 82) (e4 : lyIn r' c = lyIn r c) : risO T' r' c yr all = risO T r c yr all := by
  have e : nmN T' r' c 0 yr all = nmN T r c 0 yr all := by
    funext j
    unfold nmN
    rw [e3, e4]
  unfold risO
  rw [e, lawV_of e1 e2]
theorem LN197 : LN 197 = 415 := by decide
theorem G_rises (hI : INV k M) : ∀ x1 x2 : Int32, GdI k (f_X9_rises x1 x2 M) (f_X10_rises x1 x2) 1 0 0 := by
  obtain ⟨⟨q, h⟩, r⟩ := id hI
  intro x y
  unfold f_X9_rises
  by_cases hc : cOk M x y
  · rw [k_cell_y h hc, bsome]
    dsimp only
    obtain ⟨c, hc48, ec, -, -⟩ := cOk_c h hc
    rw [k_cellAt, bsome, ec, h.w, h.g, h.wd.2.1.1.2.1, h.wd.2.1.1.2.2.2.2.2.2]
    obtain ⟨C', p1, p2⟩ := k_risingIn (yr := mi M 196 363 + 1) (all := lyN (mi M 196)) h.gd h.wd.1 h.wd.2.1 h.rl h.lr hc48
    generalize hv : (if mi M 196 (367 + c) = 1 then (0 : Int32) else risO M (mi M 196) c (mi M 196 363 + 1) (lyN (mi M 196))) = v at p1
    have s1 : ∀ a, (a = q 7 + 2 ∨ a = q 7 + 3) → frC q a ∧ frT a := fun a ha => law_fr h.1 (Or.inr rfl) ha
    have h' : RR C' C' q := h.om p2 p2 (fun a ha => (s1 a ha).1) (fun a ha => (s1 a ha).2)
    have eT : ∀ a, ¬ frT a → mi C' a = mi M a := fun a ha => p2.at (fun hs => ha (s1 a hs).2)
    have e80 : mi C' 80 = mi M 80 := eT 80 (by unfold frT; omega)
    have e196 : mi C' 196 = mi M 196 := eT 196 (by unfold frT; omega)
    rw [p1, bsome]
    have hm : ∃ N', f_X10_rises x y (sL C' 275 0 v.toInt64) = some (v, N') ∧ Om (fun a => a = 115 ∨ a = 116 ∨ a = 197) (nQ C' v.toInt64) N' := by
      unfold f_X10_rises
      rw [m_cell_y (M := M) (by rw [nQ_def, nQ_o (by omega), e80]) h.gd.1 hc, bsome, if_neg z10, m_fine, bsome]
      dsimp only
      rw [if_pos z00, ec, nQ_def, m_copies LN196 LN197 (by omega), bsome, show ∀ N : Mm, ai N 197 415 363 = some (mi N 197 363) from fun N => ai_o (i := 363) (by omega) (by omega), bsome, show ∀ (N : Mm) (x : Int32), wi N 197 415 363 x = some (sI N 197 363 x) from fun N x => wi_o (i := 363) (by omega) (by omega), bsome, mi_sA, upto_lt (by omega)]
      generalize hN : sI (sA (nQ C' v.toInt64) 197 (upto 415 (mi (nQ C' v.toInt64) 196) (mi (nQ C' v.toInt64) 197))) 197 363 (mi (nQ C' v.toInt64) 196 363 + 1) = N
      have hO : Om (fun a => a = 197) (nQ C' v.toInt64) N := by rw [← hN]; exact om_si (Om.sA rfl) rfl
      have o196 : mi N 196 = mi M 196 := by rw [hO.at (by omega), nQ_o (by omega), e196]
      have hR : Rq (mi M 196) (mi N 197) := by
        intro j hj1 hj2
        rw [← hN, mi_sI_o (by omega), mi_sA, upto_lt hj1, nQ_o (by omega), e196]
      have h363 : mi N 197 363 = mi M 196 363 + 1 := by rw [← hN, mi_sI_k, nQ_o (by omega), e196]
      rw [m_isLost LN196 hc48, bsome, o196]
      by_cases hl : mi M 196 (367 + c) = 1
      · rw [if_pos hl, if_neg z10]
        rw [if_pos hl] at hv
        exact ⟨N, by rw [← hv], hO.mono (fun a ha => Or.inr (Or.inr ha))⟩
      · rw [if_neg hl, if_pos z00]
        rw [if_neg hl] at hv
        obtain ⟨N2, n1, n2⟩ := m_risesIn (C := C') (N := N) (a := 197) LN197 (by omega) (hR.vr h.wd.1) (h'.lr.T (by rw [hO.at (by omega), nQ_o (by omega)]) (by rw [hO.at (by omega), nQ_o (by omega)])) hc48
        have e9 : risO N (mi N 197) c (mi N 197 363) (lyN (mi N 197)) = v := by
          rw [h363, rq_lyN hR h.wd.1.n60, ← hv]
          exact risO_of (by rw [hO.at (by omega), nQ_o (by omega), eT 114 (by unfold frT; omega)]) (by rw [hO.at (by omega), nQ_o (by omega), eT 119 (by unfold frT; omega)]) (by rw [hO.at (by omega), nQ_o (by omega), eT 82 (by unfold frT; omega)]) (rq_lyIn hR h.wd.1.n60 c)
        rw [n1, bsome, e9]
        exact ⟨N2, rfl, (hO.mono (fun a ha => Or.inr (Or.inr ha))).trans (n2.mono (fun a ha => ha.elim Or.inl (fun b => Or.inr (Or.inl b))))⟩
    obtain ⟨N', n1, n2⟩ := hm
    refine gd_o h r p2 n2 s1 (fun a ha => ?_) rfl n1
    rcases ha with ha | ha | ha
    · exact m_fr h.1 (Or.inl ha)
    · exact m_fr h.1 (Or.inr ha)
    · obtain ⟨-, -, g, w, b, l, d⟩ := h.1
      have h6 := l 6 (by omega) (by omega)
      have h7 := l 7 (by omega) (by omega)
      unfold isL at h6 h7
      unfold frC frT
      omega
  · rw [k_cell_n h hc, bsome]
    refine gd_r0 (b := 0) hI (by decide) rfl ?_
    unfold f_X10_rises
    rw [m_cell_n (M := M) (nR_o (by omega) (by omega)) h.gd.1 hc, bsome, if_pos z00, m_r0 1 (by decide), bsome]
    rfl
end RQ
