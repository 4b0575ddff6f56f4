/-! level 3: a text opened -/
section OP
variable {k : Nat} {M M2 : Mm} {q : Nat → Nat} {b : Nat → Int32} {C C' T T' N : Mm} {L p : Nat} {f fa : Int32}
theorem and_255 (s : Int32) : ∃ n : Nat, n < 256 ∧ (s &&& 255) = Int32.ofNat n := by
  refine ⟨s.toBitVec.toNat &&& 255, ?_, ?_⟩
  · have := Nat.and_le_right (n := s.toBitVec.toNat) (m := 255)
    omega
  · apply Int32.toBitVec_inj.mp
    rw [Int32.toBitVec_and]
    apply BitVec.eq_of_toNat_eq
    rw [BitVec.toNat_and]
    have := Nat.and_le_right (n := s.toBitVec.toNat) (m := 255)
    show _ = (BitVec.ofNat 32 _).toNat
    rw [BitVec.toNat_ofNat]
    have e : ((Int32.toBitVec 255).toNat) = 255 := by decide
    rw [e]
    generalize s.toBitVec.toNat &&& 255 = n at this
    omega
def txt (M : Mm) : Nat → Int32 := fun i => mi M 2 i &&& 255
theorem txt_b : TxB (txt M) := fun i => and_255 _
def opM (M : Mm) (L : Nat) : Mm := sI (sI (sI (sI (sI M 1 2 (Int32.ofNat L)) 1 3 (0 : Int32)) 1 1 (0 : Int32)) 1 5 (0 : Int32)) 1 6 (-1 : Int32)
/-- the bounds of a text -/
def opOk (M : Mm) (x : Int32) (lim : Int32) : Prop := (0 ≤ x ∧ x ≤ lim) ∧ x ≤ mi M 1 1
theorem k_open {x : Int32} {lm : Nat} (hl : lm ≤ 600) (hx : opOk M x (Int32.ofNat lm)) : ∃ L, L ≤ lm ∧ x = Int32.ofNat L ∧ f_X9_openText x (Int32.ofNat lm) M = some (.inr (), opM M L) := by
  obtain ⟨L, -, l2, rfl⟩ := (in_nat (lo := 0) (hi := lm) (by omega) (by omega)).mp hx.1
  refine ⟨L, l2, rfl, ?_⟩
  unfold f_X9_openText
  rw [arg2, if_pos hx.1, if_neg (Int32.not_lt.mpr hx.2)]
  unfold f_X9_openText_j26
  rw [needA1, bsome]
  dsimp only
  unfold f_X7_open
  have e : mmin (Int32.ofNat L) 600 = Int32.ofNat L := by
    unfold mmin
    rw [if_neg]
    exact fun z => lnle z ((oN_le (j := 600) (by omega) (by omega)).mpr (by omega))
  rw [e, bsome]
  rfl
theorem k_open_n {x : Int32} {lim : Int32} (hx : ¬ opOk M x lim) : f_X9_openText x lim M = some (.inl 2, eRef M 2) := by
  have n0 : f_X9_openText_j25 x M = some (.inl 2, eRef M 2) := by
    unfold f_X9_openText_j25 f_X9_openText_j26
    rw [needA0, bsome]
  unfold f_X9_openText
  rw [arg2, n0]
  by_cases h1 : 0 ≤ x ∧ x ≤ lim
  · rw [if_pos h1, if_pos (Int32.not_le.mp (fun z => hx ⟨h1, z⟩))]
  · rw [if_neg h1]
theorem op_TC (hL : L ≤ 600) : TC (txt M) (opM M L) L 0 0 (-1) := by
  unfold opM
  refine ⟨⟨hL, by omega, ?_, ?_, ?_, mi_sI_k⟩, fun i hi => ?_⟩
  · rw [mi_sI_o (by omega), mi_sI_o (by omega), mi_sI_o (by omega), mi_sI_o (by omega), mi_sI_k]
  · rw [mi_sI_o (by omega), mi_sI_o (by omega), mi_sI_o (by omega), mi_sI_k]
    rfl
  · rw [mi_sI_o (by omega), mi_sI_k]
  · rw [mi_sI_ne (by omega), mi_sI_ne (by omega), mi_sI_ne (by omega), mi_sI_ne (by omega), mi_sI_ne (by omega)]
    rfl
theorem op_O : Om (fun a => a = 1) M (opM M L) ∧ mi (opM M L) 1 1 = 0 ∧ mi (opM M L) 1 0 = mi M 1 0 := by
  unfold opM
  exact ⟨om_si (om_si (om_si (om_si (om_si Om.refl rfl) rfl) rfl) rfl) rfl, by rw [mi_sI_o (by omega), mi_sI_o (by omega), mi_sI_k], by rw [mi_sI_o (by omega), mi_sI_o (by omega), mi_sI_o (by omega), mi_sI_o (by omega), mi_sI_o (by omega)]⟩
/-- the reference's start: blanks too -/
theorem m_starts (hb : TxB b) (hL : L ≤ 600) (h77 : ∀ i, i < 600 → mi N 77 i = b i) : ∃ T, f_X10_starts (Int32.ofNat L) N = some T ∧ TT b T L (nb b L 0) 0 (-1) ∧ Om (fun a => a = 76) N T ∧ (∀ j, (j = 0 ∨ j = 3 ∨ 8 < j) → mi T 76 j = mi N 76 j) ∧ mi T 76 1 = 0 ∧ mi T 76 7 = 0 ∧ mi T 76 8 = 0 := by
  generalize hN1 : sI (sI (sI (sI (sI (sI (sI N 76 1 (0 : Int32)) 76 2 (Int32.ofNat L)) 76 4 (0 : Int32)) 76 5 (0 : Int32)) 76 6 (-1 : Int32)) 76 7 (0 : Int32)) 76 8 (0 : Int32) = N1
  have g : ∀ j, mi N1 76 j = if j = 8 then 0 else if j = 7 then 0 else if j = 6 then -1 else if j = 5 then 0 else if j = 4 then 0 else if j = 2 then Int32.ofNat L else if j = 1 then 0 else mi N 76 j := fun j => by
    rw [← hN1, mi_sI, u1_at, mi_sI, u1_at, mi_sI, u1_at, mi_sI, u1_at, mi_sI, u1_at, mi_sI, u1_at, mi_sI, u1_at]
  have ho : Om (fun a => a = 76) N N1 := by rw [← hN1]; exact om_si (om_si (om_si (om_si (om_si (om_si (om_si Om.refl rfl) rfl) rfl) rfl) rfl) rfl) rfl
  have t1 : TT b N1 L 0 0 (-1) := by
    refine ⟨⟨hL, by omega, ?_, ?_, ?_, ?_⟩, fun i hi => by rw [ho.at (by omega)]; exact h77 i hi⟩
    · rw [g, if_neg (by omega), if_neg (by omega), if_neg (by omega), if_neg (by omega), if_neg (by omega), if_pos rfl]
    · rw [g, if_neg (by omega), if_neg (by omega), if_neg (by omega), if_neg (by omega), if_pos rfl]; rfl
    · rw [g, if_neg (by omega), if_neg (by omega), if_neg (by omega), if_pos rfl]
    · rw [g, if_neg (by omega), if_neg (by omega), if_pos rfl]
  obtain ⟨T, e1, t2, c1⟩ := m_blanks hb t1
  unfold f_X10_starts
  rw [hN1, e1]
  refine ⟨T, rfl, t2, ho.trans c1.1, fun j hj => ?_, ?_, ?_, ?_⟩
  · rw [c1.2 j (by omega), g, if_neg (by omega), if_neg (by omega), if_neg (by omega), if_neg (by omega), if_neg (by omega), if_neg (by omega), if_neg (by omega)]
  · rw [c1.2 1 (by omega), g, if_neg (by omega), if_neg (by omega), if_neg (by omega), if_neg (by omega), if_neg (by omega), if_neg (by omega), if_pos rfl]
  · rw [c1.2 7 (by omega), g, if_neg (by omega), if_pos rfl]
  · rw [c1.2 8 (by omega), g, if_pos rfl]
/-- the class's spare things -/
def spC (q : Nat → Nat) (a : Nat) : Prop := a = 1 ∨ (3 ≤ a ∧ a ≤ 7) ∨ a = q 1 ∨ a = q 1 + 1 ∨ (q 3 ≤ a ∧ a ≤ q 3 + 7) ∨ (q 5 ≤ a ∧ a ≤ q 5 + 3) ∨ a = q 8 ∨ a = q 8 + 1 ∨ a = q 9 ∨ a = q 9 + 1 ∨ a = q 10 ∨ a = q 10 + 1
/-- the reference's told things -/
def spT (a : Nat) : Prop := a = 76 ∨ a = 79 ∨ a = 81 ∨ (84 ≤ a ∧ a ≤ 113) ∨ (128 ≤ a ∧ a ≤ 195)
theorem ids_all (h : IDS C q) : ((q 0 = 28 ∧ q 1 = 38) ∨ (q 0 = 38 ∧ q 1 = 28)) ∧ ((q 2 = 48 ∧ q 3 = 56) ∨ (q 2 = 56 ∧ q 3 = 48)) ∧ ((q 4 = 64 ∧ q 5 = 68) ∨ (q 4 = 68 ∧ q 5 = 64)) ∧ (∀ i, 6 ≤ i → i ≤ 10 → isL (q i)) ∧ (∀ i j, 6 ≤ i → i < j → j ≤ 10 → q i ≠ q j) := ⟨h.2.2.1, h.2.2.2.1, h.2.2.2.2.1, h.2.2.2.2.2.1, h.2.2.2.2.2.2⟩
def lw10 (a : Nat) : Prop := a = 30 ∨ a = 31 ∨ a = 34 ∨ a = 35 ∨ a = 40 ∨ a = 41 ∨ a = 44 ∨ a = 45 ∨ a = 72 ∨ a = 73
theorem lw_of {x a : Nat} (hx : isL x) (ha : a = x ∨ a = x + 1) : lw10 a := by
  unfold isL at hx
  unfold lw10
  omega
theorem lw_ne {x y a : Nat} (hx : isL x) (hy : isL y) (hn : x ≠ y) (h1 : a = x ∨ a = x + 1) (h2 : a = y ∨ a = y + 1) : False := by
  unfold isL at hx hy
  omega
def spN (q : Nat → Nat) (a : Nat) : Prop := a = 1 ∨ (3 ≤ a ∧ a ≤ 7) ∨ a = q 1 ∨ a = q 1 + 1 ∨ (q 3 ≤ a ∧ a ≤ q 3 + 7) ∨ (q 5 ≤ a ∧ a ≤ q 5 + 3)
def kcN (q : Nat → Nat) (a : Nat) : Prop := (8 ≤ a ∧ a ≤ 11) ∨ a = q 0 ∨ a = q 0 + 1 ∨ (q 2 ≤ a ∧ a ≤ q 2 + 7) ∨ (q 4 ≤ a ∧ a ≤ q 4 + 2)
theorem spN_lw {a : Nat} (h : IDS C q) (ha : spN q a) (hl : lw10 a) : False := by
  obtain ⟨g, w, bk, -, -⟩ := ids_all h
  unfold spN at ha
  unfold lw10 at hl
  omega
theorem kcN_lw {a : Nat} (h : IDS C q) (ha : kcN q a) (hl : lw10 a) : False := by
  obtain ⟨g, w, bk, -, -⟩ := ids_all h
  unfold kcN at ha
  unfold lw10 at hl
  omega
theorem spN_kcN {a : Nat} (h : IDS C q) (ha : spN q a) (hl : kcN q a) : False := by
  obtain ⟨g, w, bk, -, -⟩ := ids_all h
  unfold spN at ha
  unfold kcN at hl
  rcases g with ⟨g1, g2⟩ | ⟨g1, g2⟩ <;> rcases w with ⟨w1, w2⟩ | ⟨w1, w2⟩ <;> rcases bk with ⟨b1, b2⟩ | ⟨b1, b2⟩ <;> rw [g2, w2, b2] at ha <;> rw [g1, w1, b1] at hl <;> omega
theorem spC_kc (h : IDS C q) {a j : Nat} (ha : kc q a j) (hs : spC q a) : False := by
  obtain ⟨g, w, bk, l, d⟩ := ids_all h
  have hs' : spN q a ∨ (∃ i, 8 ≤ i ∧ i ≤ 10 ∧ (a = q i ∨ a = q i + 1)) := by
    unfold spC at hs
    unfold spN
    rcases hs with h1 | h1 | h1 | h1 | h1 | h1 | h1 | h1 | h1 | h1 | h1 | h1
    · exact Or.inl (Or.inl h1)
    · exact Or.inl (Or.inr (Or.inl h1))
    · exact Or.inl (Or.inr (Or.inr (Or.inl h1)))
    · exact Or.inl (Or.inr (Or.inr (Or.inr (Or.inl h1))))
    · exact Or.inl (Or.inr (Or.inr (Or.inr (Or.inr (Or.inl h1)))))
    · exact Or.inl (Or.inr (Or.inr (Or.inr (Or.inr (Or.inr h1)))))
    · exact Or.inr ⟨8, by omega, by omega, Or.inl h1⟩
    · exact Or.inr ⟨8, by omega, by omega, Or.inr h1⟩
    · exact Or.inr ⟨9, by omega, by omega, Or.inl h1⟩
    · exact Or.inr ⟨9, by omega, by omega, Or.inr h1⟩
    · exact Or.inr ⟨10, by omega, by omega, Or.inl h1⟩
    · exact Or.inr ⟨10, by omega, by omega, Or.inr h1⟩
  have ha' : kcN q a ∨ (∃ i, 6 ≤ i ∧ i ≤ 7 ∧ (a = q i ∨ a = q i + 1)) := by
    unfold kc at ha
    unfold kcN
    rcases ha with h1 | h1 | h1 | h1 | h1 | h1 | h1 | h1 | h1
    · exact Or.inl (Or.inl h1)
    · exact Or.inl (Or.inr (Or.inl h1))
    · exact Or.inl (Or.inr (Or.inr (Or.inl h1)))
    · exact Or.inl (Or.inr (Or.inr (Or.inr (Or.inl h1))))
    · exact Or.inl (Or.inr (Or.inr (Or.inr (Or.inr h1))))
    · exact Or.inr ⟨6, by omega, by omega, Or.inl h1.1⟩
    · exact Or.inr ⟨6, by omega, by omega, Or.inr h1⟩
    · exact Or.inr ⟨7, by omega, by omega, Or.inl h1.1⟩
    · exact Or.inr ⟨7, by omega, by omega, Or.inr h1⟩
  rcases hs' with hs' | ⟨i, i1, i2, i3⟩
  · rcases ha' with ha' | ⟨j, j1, j2, j3⟩
    · exact spN_kcN h hs' ha'
    · exact spN_lw h hs' (lw_of (l j (by omega) (by omega)) j3)
  · rcases ha' with ha' | ⟨j, j1, j2, j3⟩
    · exact kcN_lw h ha' (lw_of (l i (by omega) (by omega)) i3)
    · exact lw_ne (l j (by omega) (by omega)) (l i (by omega) (by omega)) (d j i (by omega) (by omega) (by omega)) j3 i3
theorem spC_lt {a : Nat} (h : IDS C q) (hs : spC q a) : a < 76 ∧ a ≠ 0 ∧ a ≠ 2 := by
  obtain ⟨g, w, bk, l, d⟩ := ids_all h
  have hl : ∀ i, 8 ≤ i → i ≤ 10 → (a = q i ∨ a = q i + 1) → a < 76 ∧ a ≠ 0 ∧ a ≠ 2 := fun i h1 h2 h3 => by
    have := lw_of (l i (by omega) h2) h3
    clear l d g w bk
    unfold lw10 at this
    omega
  clear l d
  unfold spC at hs
  rcases hs with h1 | h1 | h1 | h1 | h1 | h1 | h1 | h1 | h1 | h1 | h1 | h1
  · omega
  · omega
  · clear w bk; omega
  · clear w bk; omega
  · clear g bk; omega
  · clear g w; omega
  · exact hl 8 (by omega) (by omega) (Or.inl h1)
  · exact hl 8 (by omega) (by omega) (Or.inr h1)
  · exact hl 9 (by omega) (by omega) (Or.inl h1)
  · exact hl 9 (by omega) (by omega) (Or.inr h1)
  · exact hl 10 (by omega) (by omega) (Or.inl h1)
  · exact hl 10 (by omega) (by omega) (Or.inr h1)
theorem kc_lt {a j : Nat} (h : IDS C q) (ha : kc q a j) : a < 76 := by
  obtain ⟨g, w, bk, l, d⟩ := ids_all h
  have l6 := l 6 (by omega) (by omega)
  have l7 := l 7 (by omega) (by omega)
  clear l d
  unfold isL at l6 l7
  unfold kc at ha
  rcases ha with h1 | h1 | h1 | h1 | h1 | h1 | h1 | h1 | h1
  · omega
  · clear w bk l6 l7; omega
  · clear w bk l6 l7; omega
  · clear g bk l6 l7; omega
  · clear g w l6 l7; omega
  · clear g w bk l7; omega
  · clear g w bk l7; omega
  · clear g w bk l6; omega
  · clear g w bk l6; omega
theorem kt_ge {a j : Nat} (ha : kt a j) : 76 ≤ a := by unfold kt at ha; omega
theorem spT_ge {a : Nat} (ha : spT a) : 76 ≤ a := by unfold spT at ha; omega
/-- a text refused by its bytes: nothing but the tape is changed -/
theorem rr_bad (h : RR M M q) {S : Nat → Prop} (hr : mr M2 = mr M) (hO : ∀ a, ¬ S a → mi M2 a = mi M a) (hS : ∀ a, S a → spC q a ∨ spT a ∨ a = 275) (h1 : mi M2 1 1 = 0) (h2 : mi M2 76 1 = 0) (h3 : mi M2 1 6 = mi M2 76 3) (h76 : ∀ j, (j = 30 ∨ j = 31 ∨ j = 32 ∨ j = 33) → mi M2 76 j = mi M 76 j) : RR M2 M2 q := by
  have n0 : ∀ a, (a = 0 ∨ a = 2 ∨ a = 77 ∨ a = 78) → ¬ S a := fun a ha hs => by
    rcases hS a hs with z | z | z
    · have := spC_lt h.1 z
      omega
    · unfold spT at z
      omega
    · omega
  refine h.body ⟨hr, fun a j ha => ?_⟩ (fun a j ha => ?_) ⟨⟨0, by omega, h1, h2⟩, ?_, h3⟩ ?_
  · have h9 := kc_lt h.1 ha
    rw [hO a (fun hs => ?_)]
    rcases hS a hs with z | z | z
    · exact spC_kc h.1 ha z
    · have := spT_ge z
      omega
    · omega
  · have h8 := kt_ge ha
    by_cases h9 : a = 76
    · subst h9
      exact h76 j (by unfold kt at ha; omega)
    · rw [hO a (fun hs => ?_)]
      rcases hS a hs with z | z | z
      · have := spC_lt h.1 z
        omega
      · unfold spT at z
        unfold kt at ha
        omega
      · unfold kt at ha
        omega
  · intro j hj
    rw [hO 2 (n0 2 (by omega)), hO 77 (n0 77 (by omega))]
    exact h.2.1.2.1 j hj
  · exact h.cnt.frame (fun j _ => by rw [hO 0 (n0 0 (by omega))]) (hO 78 (n0 78 (by omega))) (h76 32 (by omega))
theorem sp_yr {a : Nat} (h : IDS C q) (ha : yr9 a) (hs : spC q a ∨ spT a ∨ a = 275) : False := by
  unfold yr9 at ha
  rcases hs with z | z | z
  · have := spC_lt h z
    omega
  · unfold spT at z
    omega
  · omega
end OP
