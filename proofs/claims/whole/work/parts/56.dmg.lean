/-! level 3: damage and rise asked -/
/-- things that nothing reads between calls -/
def frC (q : Nat → Nat) (a : Nat) : Prop := a ≠ 0 ∧ a ≠ 1 ∧ a ≠ 2 ∧ ¬ (8 ≤ a ∧ a ≤ 11) ∧ a ≠ q 0 ∧ a ≠ q 0 + 1 ∧ ¬ (q 2 ≤ a ∧ a ≤ q 2 + 7) ∧ ¬ (q 4 ≤ a ∧ a ≤ q 4 + 2) ∧ a ≠ q 6 ∧ a ≠ q 6 + 1 ∧ a ≠ q 7 ∧ a ≠ q 7 + 1
def frT (a : Nat) : Prop := a ≠ 76 ∧ a ≠ 77 ∧ a ≠ 78 ∧ a ≠ 80 ∧ a ≠ 82 ∧ a ≠ 114 ∧ a ≠ 118 ∧ a ≠ 119 ∧ ¬ (121 ≤ a ∧ a ≤ 126) ∧ a ≠ 196 ∧ ¬ (199 ≤ a ∧ a ≤ 218) ∧ ¬ (220 ≤ a ∧ a ≤ 222)
section DM
variable {k : Nat} {M : Mm} {q : Nat → Nat}
theorem RR.om {C C' T T' : Mm} {S S' : Nat → Prop} (h : RR C T q) (hC : Om S C C') (hT : Om S' T T') (h1 : ∀ a, S a → frC q a) (h2 : ∀ a, S' a → frT a) : RR C' T' q := by
  refine h.same ⟨⟨hC.2.2.2.2.1, fun a k hk => ?_⟩, fun k _ => ?_, ?_, ?_, ?_⟩ ⟨fun a k hk => ?_, ?_, ?_, ?_, ?_, ?_⟩
  · rw [hC.at (fun hs => by have := h1 a hs; unfold frC at this; unfold kc at hk; omega)]
  · rw [hC.at (fun hs => by have := h1 0 hs; unfold frC at this; omega)]
  · rw [hC.at (fun hs => by have := h1 1 hs; unfold frC at this; omega)]
  · rw [hC.at (fun hs => by have := h1 2 hs; unfold frC at this; omega)]
  · rw [hC.at (fun hs => by have := h1 1 hs; unfold frC at this; omega)]
  · rw [hT.at (fun hs => by have := h2 a hs; unfold frT at this; unfold kt at hk; omega)]
  · rw [hT.at (fun hs => by have := h2 78 hs; unfold frT at this; omega)]
  · rw [hT.at (fun hs => by have := h2 77 hs; unfold frT at this; omega)]
  · rw [hT.at (fun hs => by have := h2 76 hs; unfold frT at this; omega)]
  · rw [hT.at (fun hs => by have := h2 76 hs; unfold frT at this; omega)]
  · rw [hT.at (fun hs => by have := h2 76 hs; unfold frT at this; omega)]
theorem RM.of {M' : Mm} (r : RM k M) (h : M'.1 = M.1) (hy : ∀ a, yr9 a → mi M' a = mi M a) : RM k M' := by
  unfold RM zX zS zN at r ⊢
  rw [h]
  exact ⟨r.1, r.2.1, r.2.2.1, r.2.2.2.of hy⟩
theorem yr_fr {a : Nat} (ha : yr9 a) (hf : frT a) : False := by
  unfold yr9 at ha
  unfold frT at hf
  omega
/-- a question answered alike, over things that nothing reads between calls -/
theorem gd_o {v : Int32} {S S' : Nat → Prop} {M1 M2 : Mm} {fc : Option ((Nat ⊕ Int32) × Mm)} {fm : Mm → Option (Int32 × Mm)} {c0 c1 c2 : Int32} (h : RR M M q) (r : RM k M) (hO : Om S M M1) (hO2 : Om S' (nQ M1 v.toInt64) M2) (hS : ∀ a, S a → frC q a ∧ frT a) (hS' : ∀ a, S' a → frC q a ∧ frT a) (h1 : fc = some (.inr v, M1)) (h2 : fm (sL M1 275 0 v.toInt64) = some (v, M2)) : GdI k fc fm c0 c1 c2 := by
  have hI1 : INV k M1 := ⟨⟨q, h.om hO hO (fun a ha => (hS a ha).1) (fun a ha => (hS a ha).2)⟩, r.of hO.1 (fun a ha => hO.at (fun hs => yr_fr ha (hS a hs).2))⟩
  have hI2 : INV (k + 1) (nQ M1 v.toInt64) := hI1.nQ
  have h3 : RR M1 M1 q := h.om hO hO (fun a ha => (hS a ha).1) (fun a ha => (hS a ha).2)
  have h4 : RR (nQ M1 v.toInt64) (nQ M1 v.toInt64) q := by
    refine h3.same (KCx.low h3.1 rfl (fun a ha => nQ_o (by omega))) ⟨fun a k hk => ?_, nQ_o (by omega), nQ_o (by omega), nQ_76 (by omega), nQ_76 (by omega), nQ_76 (by omega)⟩
    by_cases ha : a = 76
    · subst ha
      exact nQ_76 (by unfold kt at hk; omega)
    · rw [nQ_o ha]
  refine Or.inr ⟨v, M1, M2, h1, h2, ?_, ?_, ⟨q, h4.om hO2 hO2 (fun a ha => (hS' a ha).1) (fun a ha => (hS' a ha).2)⟩, hI2.2.of hO2.1 (fun a ha => hO2.at (fun hs => yr_fr ha (hS' a hs).2))⟩
  · rw [hO2.at (fun hs => by have := (hS' 76 hs).2; unfold frT at this; omega)]
    exact nQ_t
  · rw [hO2.2.2.2.1]
    exact nQ_out
theorem law_fr (h : IDS M q) {i a : Nat} (hi : i = 6 ∨ i = 7) (ha : a = q i + 2 ∨ a = q i + 3) : frC q a ∧ frT a := by
  obtain ⟨-, -, g, w, b, l, d⟩ := h
  have h6 := l 6 (by omega) (by omega)
  have h7 := l 7 (by omega) (by omega)
  have h67 := d 6 7 (by omega) (by omega) (by omega)
  unfold isL at h6 h7
  unfold frC frT
  rcases hi with rfl | rfl <;> omega
theorem m_fr (h : IDS M q) {a : Nat} (ha : a = 115 ∨ a = 116) : frC q a ∧ frT a := by
  obtain ⟨-, -, g, w, b, l, d⟩ := h
  have h6 := l 6 (by omega) (by omega)
  have h7 := l 7 (by omega) (by omega)
  unfold isL at h6 h7
  unfold frC frT
  omega
def dmgO (T : Mm) (r : Nat → Int32) (c : Nat) (size : Int32) : Int32 := clp 999 (lawV T 0 (nmN T r c size (r 363) (lyN r)))
def risO (T : Mm) (r : Nat → Int32) (c : Nat) (yr all : Int32) : Int32 := clp 2 (lawV T 1 (nmN T r c 0 yr all))
theorem k_harmOf {C T : Mm} {g w l c : Nat} {r : Nat → Int32} {size : Int32} (hG : RGd C T g) (hW : RW C w r) (hl : rd C g 1 = l) (hR : RLaw C T l 0) (hc : c < 48) : ∃ C', f_X8_harmOf w g (Int32.ofNat c) size C = some (dmgO T r c size, C') ∧ Om (fun a => a = l + 2 ∨ a = l + 3) C C' := by
  unfold f_X8_harmOf
  rw [k_soil hG hc, bsome, k_lyingIn hW hc, bsome, hl, hW.1.2.1, hW.1.2.2.2.2.2.2]
  obtain ⟨C', p1, p2⟩ := k_valueFor (nm := nmN T r c size (r 363) (lyN r)) (x1 := size) (x2 := mi T 82 c) (x3 := r 363) (x4 := lyIn r c) (x6 := lyN r) hR hc ⟨rfl, rfl, rfl, rfl, rfl, rfl, rfl⟩
  rw [p1, bsome]
  dsimp only
  rw [k_within, bsome]
  exact ⟨C', rfl, p2⟩
theorem k_risingIn {C T : Mm} {g w l c tw9 th9 : Nat} {r : Nat → Int32} {yr all : Int32} (hG : RGd C T g) (hV : VR tw9 th9 r) (hW : RW C w r) (hl : rd C g 2 = l) (hR : RLaw C T l 1) (hc : c < 48) : ∃ C', f_X8_risingIn w g (Int32.ofNat c) yr all C = some (if r (367 + c) = 1 then 0 else risO T r c yr all, C') ∧ Om (fun a => a = l + 2 ∨ a = l + 3) C C' := by
  unfold f_X8_risingIn
  rw [k_isLost hV hW hc, bsome]
  by_cases h0 : r (367 + c) = 1
  · rw [if_pos h0, if_neg z10, if_pos h0]
    exact ⟨C, rfl, Om.refl⟩
  · rw [if_neg h0, if_pos z00, if_neg h0, k_soil hG hc, bsome, k_lyingIn hW hc, bsome, hl]
    obtain ⟨C', p1, p2⟩ := k_valueFor (nm := nmN T r c 0 yr all) (x1 := 0) (x2 := mi T 82 c) (x3 := yr) (x4 := lyIn r c) (x6 := all) hR hc ⟨rfl, rfl, rfl, rfl, rfl, rfl, rfl⟩
    rw [p1, bsome]
    dsimp only
    rw [k_within, bsome]
    exact ⟨C', rfl, p2⟩
theorem m_knows {N : Mm} {a c w h : Nat} {size : Int32} (hL : LN a = 415) (ha : a ≠ 116) (hV : VR w h (mi N a)) (hc : c < 48) : ∃ N', f_X10_knows a (Int32.ofNat c) size N = some N' ∧ Om (fun x => x = 116) N N' ∧ ∀ j, j < 7 → mi N' 116 j = nmN N (mi N a) c size (mi N a 363) (lyN (mi N a)) j := by
  unfold f_X10_knows
  rw [show ∀ (N : Mm) (x : Int32), wi N 116 7 0 x = some (sI N 116 0 x) from fun N x => wi_o (i := 0) (by omega) (by omega), bsome, ai_o hc (by omega), bsome, mi_sI_ne (show (82 : Nat) ≠ 116 by omega),
    show ∀ (N : Mm) (x : Int32), wi N 116 7 1 x = some (sI N 116 1 x) from fun N x => wi_o (i := 1) (by omega) (by omega), bsome, m_a363 hL, bsome, mi_sI_ne ha, mi_sI_ne ha,
    show ∀ (N : Mm) (x : Int32), wi N 116 7 2 x = some (sI N 116 2 x) from fun N x => wi_o (i := 2) (by omega) (by omega), bsome]
  generalize h1 : sI (sI (sI N 116 0 size) 116 1 (mi N 82 c)) 116 2 (mi N a 363) = N1
  have e1 : mi N1 a = mi N a := by rw [← h1, mi_sI_ne ha, mi_sI_ne ha, mi_sI_ne ha]
  rw [m_lyingIn (w := w) (h := h) hL (by rw [e1]; exact hV) hc, bsome, e1,
    show ∀ (N : Mm) (x : Int32), wi N 116 7 3 x = some (sI N 116 3 x) from fun N x => wi_o (i := 3) (by omega) (by omega), bsome, kmod c hc,
    show ∀ (N : Mm) (x : Int32), wi N 116 7 4 x = some (sI N 116 4 x) from fun N x => wi_o (i := 4) (by omega) (by omega), bsome, kdiv c hc,
    show ∀ (N : Mm) (x : Int32), wi N 116 7 5 x = some (sI N 116 5 x) from fun N x => wi_o (i := 5) (by omega) (by omega), bsome]
  generalize h2 : sI (sI (sI N1 116 3 (lyIn (mi N a) c)) 116 4 (Int32.ofNat (c % 8))) 116 5 (Int32.ofNat (c / 8)) = N2
  have e2 : mi N2 a = mi N a := by rw [← h2, mi_sI_ne ha, mi_sI_ne ha, mi_sI_ne ha, e1]
  rw [m_lying (w := w) (h := h) hL (by rw [e2]; exact hV), bsome, e2, show ∀ (N : Mm) (x : Int32), wi N 116 7 6 x = some (sI N 116 6 x) from fun N x => wi_o (i := 6) (by omega) (by omega), bsome]
  refine ⟨_, rfl, ?_, fun j hj => ?_⟩
  · rw [← h2, ← h1]
    exact om_si (om_si (om_si (om_si (om_si (om_si (om_si Om.refl rfl) rfl) rfl) rfl) rfl) rfl) rfl
  · rw [← h2, ← h1]
    have h9 : j = 0 ∨ j = 1 ∨ j = 2 ∨ j = 3 ∨ j = 4 ∨ j = 5 ∨ j = 6 := by omega
    rcases h9 with rfl | rfl | rfl | rfl | rfl | rfl | rfl
    · rw [mi_sI_o (by omega), mi_sI_o (by omega), mi_sI_o (by omega), mi_sI_o (by omega), mi_sI_o (by omega), mi_sI_o (by omega), mi_sI_k]; rfl
    · rw [mi_sI_o (by omega), mi_sI_o (by omega), mi_sI_o (by omega), mi_sI_o (by omega), mi_sI_o (by omega), mi_sI_k]; rfl
    · rw [mi_sI_o (by omega), mi_sI_o (by omega), mi_sI_o (by omega), mi_sI_o (by omega), mi_sI_k]; rfl
    · rw [mi_sI_o (by omega), mi_sI_o (by omega), mi_sI_o (by omega), mi_sI_k]; rfl
    · rw [mi_sI_o (by omega), mi_sI_o (by omega), mi_sI_k]; rfl
    · rw [mi_sI_o (by omega), mi_sI_k]; rfl
    · rw [mi_sI_k]; rfl
theorem RLaw.T {C T T' : Mm} {l i : Nat} (h : RLaw C T l i) (e1 : mi T' 114 = mi T 114) (e2 : mi T' (118 + i) = mi T (118 + i)) : RLaw C T' l i := by
  unfold RLaw at h ⊢
  rw [e1, e2]
  exact h
theorem lawV_of {T T' : Mm} {i : Nat} {nm : Nat → Int32} (e1 : mi T' 114 = mi T 114) (e2 : mi T' (118 + i) = mi T (118 + i)) : lawV T' i nm = lawV T i nm := by unfold lawV; rw [e1, e2]
theorem m_damageOf {C N : Mm} {a c w h l : Nat} {size : Int32} (hL : LN a = 415) (ha : a ≠ 116) (hV : VR w h (mi N a)) (hR : RLaw C N l 0) (hc : c < 48) : ∃ N', f_X10_damageOf a (Int32.ofNat c) size N = some (dmgO N (mi N a) c size, N') ∧ Om (fun x => x = 115 ∨ x = 116) N N' := by
  obtain ⟨N1, p1, p2, p3⟩ := m_knows (size := size) hL ha hV hc
  obtain ⟨N2, q1, q2⟩ := m_byLaw (w := 0) (C := C) (l := l) (M := N1) (Or.inl rfl) (hR.T (p2.at (by omega)) (p2.at (by omega))) p3
  unfold f_X10_damageOf
  rw [p1, bsome, show f_X10_byLaw 0 N1 = _ from q1, bsome, lawV_of (p2.at (by omega)) (p2.at (by omega))]
  exact ⟨N2, rfl, (p2.mono (fun x hx => Or.inr hx)).trans (q2.mono (fun x hx => Or.inl hx))⟩
theorem m_risesIn {C N : Mm} {a c w h l : Nat} (hL : LN a = 415) (ha : a ≠ 116) (hV : VR w h (mi N a)) (hR : RLaw C N l 1) (hc : c < 48) : ∃ N', f_X10_risesIn a (Int32.ofNat c) N = some (risO N (mi N a) c (mi N a 363) (lyN (mi N a)), N') ∧ Om (fun x => x = 115 ∨ x = 116) N N' := by
  obtain ⟨N1, p1, p2, p3⟩ := m_knows (size := 0) hL ha hV hc
  obtain ⟨N2, q1, q2⟩ := m_byLaw (w := 1) (C := C) (l := l) (M := N1) (Or.inr rfl) (hR.T (p2.at (by omega)) (p2.at (by omega))) p3
  unfold f_X10_risesIn
  rw [p1, bsome, show f_X10_byLaw 1 N1 = _ from q1, bsome, lawV_of (p2.at (by omega)) (p2.at (by omega))]
  exact ⟨N2, rfl, (p2.mono (fun x hx => Or.inr hx)).trans (q2.mono (fun x hx => Or.inl hx))⟩
theorem dmgO_of {T T' : Mm} {r : Nat → Int32} {c : Nat} {size : Int32} (e1 : mi T' 114 = mi T 114) (e2 : mi T' 118 = mi T 118) (e3 : mi T' 82 = mi T 82) : dmgO T' r c size = dmgO T r c size := by
  have e : nmN T' r c size (r 363) (lyN r) = nmN T r c size (r 363) (lyN r) := by
    funext j
    unfold nmN
    rw [e3]
  unfold dmgO
  rw [e, lawV_of e1 e2]
theorem RR.hl {C T : Mm} (h : RR C T q) : rd C (q 0) 1 = q 6 := rd_of h.1.2.1.1
theorem RR.rl {C T : Mm} (h : RR C T q) : rd C (q 0) 2 = q 7 := rd_of h.1.2.1.2.1
theorem RR.lh {C T : Mm} (h : RR C T q) : RLaw C T (q 6) 0 := h.2.2.2.1
theorem RR.lr {C T : Mm} (h : RR C T q) : RLaw C T (q 7) 1 := h.2.2.2.2.1
theorem G_damage (hI : INV k M) : ∀ x1 x2 x3 : Int32, GdI k (f_X9_damage x1 x2 x3 M) (f_X10_damage x1 x2 x3) 1 0 2 := by
  obtain ⟨⟨q, h⟩, r⟩ := id hI
  intro x y z
  unfold f_X9_damage
  by_cases hc : cOk M x y
  · rw [k_cell_y h hc, bsome]
    dsimp only
    rw [arg2]
    by_cases hz : (1 : Int32) ≤ z ∧ z ≤ 9
    · rw [if_pos hz]
      obtain ⟨c, hc48, ec, -, -⟩ := cOk_c h hc
      unfold f_X9_damage_j23
      rw [needA1, bsome]
      dsimp only
      rw [k_cellAt, bsome, ec, h.w, h.g]
      obtain ⟨C', p1, p2⟩ := k_harmOf (size := z) h.gd h.wd.2.1 h.hl h.lh hc48
      have s1 : ∀ a, (a = q 6 + 2 ∨ a = q 6 + 3) → frC q a ∧ frT a := fun a ha => law_fr h.1 (Or.inl rfl) ha
      have h' : RR C' C' q := h.om p2 p2 (fun a ha => (s1 a ha).1) (fun a ha => (s1 a ha).2)
      have eT : ∀ a, ¬ frT a → mi C' a = mi M a := fun a ha => p2.at (fun hs => ha (s1 a hs).2)
      obtain ⟨N', n1, n2⟩ := m_damageOf (size := z) (N := nQ C' (dmgO M (mi M 196) c z).toInt64) (C := C') (a := 196) LN196 (by omega) (vr_nQ h') (h'.lh.T (nQ_o (by omega)) (nQ_o (by omega))) hc48
      rw [p1, bsome]
      refine gd_o h r p2 n2 s1 (fun a ha => m_fr h.1 ha) rfl ?_
      unfold f_X10_damage
      have e80 : mi C' 80 = mi M 80 := eT 80 (by unfold frT; omega)
      rw [m_cell_y (M := M) (by rw [nQ_def, nQ_o (by omega), e80]) h.gd.1 hc, bsome, if_neg z10, m_fine, bsome]
      dsimp only
      rw [if_pos z00, m_in, bsome, if_pos hz, if_neg z10, m_fine, bsome]
      dsimp only
      rw [if_pos z00, ec, nQ_def, n1, bsome, nQ_o (by omega), dmgO_of (T := M) (by rw [nQ_o (by omega), eT 114 (by unfold frT; omega)]) (by rw [nQ_o (by omega), eT 118 (by unfold frT; omega)]) (by rw [nQ_o (by omega), eT 82 (by unfold frT; omega)]), eT 196 (by unfold frT; omega)]
    · rw [if_neg hz]
      unfold f_X9_damage_j22 f_X9_damage_j23
      rw [needA0, bsome]
      refine gd_r2 (b := 0) hI (by decide) rfl ?_
      unfold f_X10_damage
      rw [m_cell_y (M := M) (nR_o (by omega) (by omega)) h.gd.1 hc, bsome, if_neg z10, m_fine, bsome]
      dsimp only
      rw [if_pos z00, m_in, bsome, if_neg hz, if_pos z00, m_r2 2 (by decide), bsome]
      rfl
  · rw [k_cell_n h hc, bsome]
    refine gd_r0 (b := 0) hI (by decide) rfl ?_
    unfold f_X10_damage
    rw [m_cell_n (M := M) (nR_o (by omega) (by omega)) h.gd.1 hc, bsome, if_pos z00, m_r0 1 (by decide), bsome]
    rfl
end DM
