/-! level 3: a field: begun anew, and standing -/
section FI
variable {k : Nat} {M M2 : Mm} {q : Nat → Nat} {b : Nat → Int32} {C C' T T' N : Mm} {L p p0 p' a0 a2 n i j w h cl l l1 l2 : Nat} {f fa lo hi v s x : Int32} {r0 r : Nat → Int32}
theorem om_sa {S : Nat → Prop} {A B : Mm} {a : Nat} {g : Nat → Int32} (h : Om S A B) (ha : S a) : Om S A (sA B a g) := h.trans (Om.sA ha)
/-! the laws of which nothing is told -/
theorem nl_o : Om (fun a => a = l ∨ a = l + 1) C (e_nothing l C) := by
  unfold e_nothing
  exact om_si (om_si (om_si Om.refl (Or.inl rfl)) (Or.inr rfl)) (Or.inl rfl)
theorem nl_v : mi (e_nothing l C) l 3 = 1 ∧ mi (e_nothing l C) (l + 1) 0 = 0 := by
  unfold e_nothing
  exact ⟨mi_sI_k, by rw [mi_sI_ne (by omega), mi_sI_k]⟩
theorem tl_o : Om (fun a => a = l ∨ a = l + 1) C (e_twice l C) := by
  unfold e_twice
  exact om_si (om_si (om_si (om_si (om_si (om_si (om_si Om.refl (Or.inl rfl)) (Or.inr rfl)) (Or.inl rfl)) (Or.inr rfl)) (Or.inl rfl)) (Or.inr rfl)) (Or.inl rfl)
theorem tl_v : mi (e_twice l C) l 3 = 3 ∧ mi (e_twice l C) (l + 1) 0 = 1000 ∧ mi (e_twice l C) (l + 1) 1 = 2 ∧ mi (e_twice l C) (l + 1) 2 = -42 := by
  have e : ∀ j, mi (e_twice l C) (l + 1) j = if j = 2 then -42 else if j = 1 then 2 else if j = 0 then 1000 else mi C (l + 1) j := fun j => by
    unfold e_twice
    rw [mi_sI_ne (by omega), mi_sI, u1_at, mi_sI_ne (by omega), mi_sI, u1_at, mi_sI_ne (by omega), mi_sI, u1_at, mi_sI_ne (by omega)]
  refine ⟨?_, by rw [e]; rfl, by rw [e]; rfl, by rw [e]; rfl⟩
  unfold e_twice
  exact mi_sI_k
/-- the ground forgotten -/
theorem fg_all (ha : 2 < a0 ∧ (a0 + 1 < l1 ∨ l1 + 1 < a0) ∧ (a0 + 1 < l2 ∨ l2 + 1 < a0) ∧ (l1 + 1 < l2 ∨ l2 + 1 < l1)) : Om (fun a => (a = a0 ∨ a = a0 + 1) ∨ ((a = l1 ∨ a = l1 + 1) ∨ (a = l2 ∨ a = l2 + 1))) C (e_forget a0 l1 l2 C) ∧ (∀ j, mi (e_forget a0 l1 l2 C) a0 j = if j = 11 then 5 else if j = 10 then 12 else if j = 9 then 1 else if j = 8 then 3 else if j = 7 then 1 else if j = 6 then 4 else if j = 5 then 2 else if j = 4 then 4 else if j = 3 then 6 else mi C a0 j) ∧ (∀ c, c < 48 → mi (e_forget a0 l1 l2 C) (a0 + 1) c = 5) ∧ (mi (e_forget a0 l1 l2 C) l1 3 = 3 ∧ mi (e_forget a0 l1 l2 C) (l1 + 1) 0 = 1000 ∧ mi (e_forget a0 l1 l2 C) (l1 + 1) 1 = 2 ∧ mi (e_forget a0 l1 l2 C) (l1 + 1) 2 = -42) ∧ (mi (e_forget a0 l1 l2 C) l2 3 = 1 ∧ mi (e_forget a0 l1 l2 C) (l2 + 1) 0 = 0) := by
  unfold e_forget
  generalize hG : sI (sI (sI (sI (sI (sI (sI (sA (sI (sI C a0 3 6) a0 4 4) (a0 + 1) (upto 48 (fun _ => 5) (mi (sI (sI C a0 3 6) a0 4 4) (a0 + 1)))) a0 5 2) a0 6 4) a0 7 1) a0 8 3) a0 9 1) a0 10 12) a0 11 5 = G
  have oG : Om (fun a => a = a0 ∨ a = a0 + 1) C G := by
    rw [← hG]
    exact om_si (om_si (om_si (om_si (om_si (om_si (om_si (om_sa (om_si (om_si Om.refl (Or.inl rfl)) (Or.inl rfl)) (Or.inr rfl)) (Or.inl rfl)) (Or.inl rfl)) (Or.inl rfl)) (Or.inl rfl)) (Or.inl rfl)) (Or.inl rfl)) (Or.inl rfl)
  have e0 : ∀ j, mi G a0 j = if j = 11 then 5 else if j = 10 then 12 else if j = 9 then 1 else if j = 8 then 3 else if j = 7 then 1 else if j = 6 then 4 else if j = 5 then 2 else if j = 4 then 4 else if j = 3 then 6 else mi C a0 j := fun j => by
    rw [← hG, mi_sI, u1_at, mi_sI, u1_at, mi_sI, u1_at, mi_sI, u1_at, mi_sI, u1_at, mi_sI, u1_at, mi_sI, u1_at, mi_sA_ne (by omega), mi_sI, u1_at, mi_sI, u1_at]
  have e1 : ∀ c, c < 48 → mi G (a0 + 1) c = 5 := fun c hc => by
    rw [← hG, mi_sI_ne (by omega), mi_sI_ne (by omega), mi_sI_ne (by omega), mi_sI_ne (by omega), mi_sI_ne (by omega), mi_sI_ne (by omega), mi_sI_ne (by omega), mi_sA, upto_lt hc]
  have o1 := tl_o (l := l1) (C := G)
  have o2 := nl_o (l := l2) (C := e_twice l1 G)
  have v1 := tl_v (l := l1) (C := G)
  refine ⟨(oG.mono (fun a h => Or.inl h)).trans ((o1.mono (fun a h => Or.inr (Or.inl h))).trans (o2.mono (fun a h => Or.inr (Or.inr h)))), fun j => ?_, fun c hc => ?_, ?_, nl_v⟩
  · rw [o2.at (by omega), o1.at (by omega)]
    exact e0 j
  · rw [o2.at (by omega), o1.at (by omega)]
    exact e1 c hc
  · rw [o2.at (by omega), o2.at (by omega)]
    exact v1
/-- the world forgotten -/
theorem wf_all (hr : ∀ j, j < 415 → r0 j = 0) : Om (fun a => a2 ≤ a ∧ a ≤ a2 + 7) C (e_wforget a2 C) ∧ RF (e_wforget a2 C) a2 r0 := by
  have hN : rN r0 = 0 := by unfold rN; rw [hr 360 (by omega)]; rfl
  have s0 : ∀ F : Nat → Int32, sm (rN r0) F = 0 := fun F => by rw [hN]; rfl
  unfold e_wforget e_clear
  generalize hG : sA (sA (sA C (a2 + 5) (upto 48 (fun _ => 0) (mi C (a2 + 5)))) (a2 + 6) (upto 48 (fun _ => 0) (mi (sA C (a2 + 5) (upto 48 (fun _ => 0) (mi C (a2 + 5)))) (a2 + 6)))) (a2 + 7) (upto 48 (fun _ => 0) (mi (sA (sA C (a2 + 5) (upto 48 (fun _ => 0) (mi C (a2 + 5)))) (a2 + 6) (upto 48 (fun _ => 0) (mi (sA C (a2 + 5) (upto 48 (fun _ => 0) (mi C (a2 + 5)))) (a2 + 6)))) (a2 + 7))) = G
  have oG : Om (fun a => a2 ≤ a ∧ a ≤ a2 + 7) C G := by
    rw [← hG]
    exact om_sa (om_sa (om_sa Om.refl (by omega)) (by omega)) (by omega)
  have g5 : ∀ c, c < 48 → mi G (a2 + 5) c = 0 := fun c hc => by rw [← hG, mi_sA_ne (by omega), mi_sA_ne (by omega), mi_sA, upto_lt hc]
  have g6 : ∀ c, c < 48 → mi G (a2 + 6) c = 0 := fun c hc => by rw [← hG, mi_sA_ne (by omega), mi_sA, upto_lt hc]
  have g7 : ∀ c, c < 48 → mi G (a2 + 7) c = 0 := fun c hc => by rw [← hG, mi_sA, upto_lt hc]
  generalize hE : sI (sI (sI (sI (sI (sI (sI (sI (sI G a2 7 0) a2 8 0) a2 9 0) a2 10 0) a2 11 0) a2 12 0) a2 13 0) a2 14 0) a2 15 0 = E
  have oE : Om (fun a => a = a2) G E := by
    rw [← hE]
    exact om_si (om_si (om_si (om_si (om_si (om_si (om_si (om_si (om_si Om.refl rfl) rfl) rfl) rfl) rfl) rfl) rfl) rfl) rfl
  have e0 : ∀ j, 7 ≤ j → j ≤ 15 → mi E a2 j = 0 := fun j h1 h2 => by
    have : ∀ j, mi E a2 j = if j = 15 then 0 else if j = 14 then 0 else if j = 13 then 0 else if j = 12 then 0 else if j = 11 then 0 else if j = 10 then 0 else if j = 9 then 0 else if j = 8 then 0 else if j = 7 then 0 else mi G a2 j := fun j => by
      rw [← hE, mi_sI, u1_at, mi_sI, u1_at, mi_sI, u1_at, mi_sI, u1_at, mi_sI, u1_at, mi_sI, u1_at, mi_sI, u1_at, mi_sI, u1_at, mi_sI, u1_at]
    rw [this]
    have h9 : j = 7 ∨ j = 8 ∨ j = 9 ∨ j = 10 ∨ j = 11 ∨ j = 12 ∨ j = 13 ∨ j = 14 ∨ j = 15 := by omega
    rcases h9 with rfl | rfl | rfl | rfl | rfl | rfl | rfl | rfl | rfl <;> rfl
  refine ⟨oG.trans (oE.mono (fun a h => by omega)), ⟨⟨?_, ?_, ?_, ?_, ?_, ?_, ?_⟩, fun k hk => by omega, fun c hc => ⟨?_, ?_⟩⟩, ?_, ?_, fun c hc => ?_⟩
  · rw [e0 8 (by omega) (by omega), hr 360 (by omega)]
  · rw [e0 9 (by omega) (by omega), hr 363 (by omega)]
  · rw [e0 10 (by omega) (by omega), hr 361 (by omega), hr 362 (by omega)]; rfl
  · rw [e0 12 (by omega) (by omega), hr 364 (by omega)]
  · rw [e0 13 (by omega) (by omega), hr 365 (by omega)]
  · rw [e0 14 (by omega) (by omega), hr 366 (by omega)]
  · rw [e0 7 (by omega) (by omega)]; exact (s0 _).symm
  · rw [oE.at (by omega), g5 c hc, hr _ (by omega)]
  · rw [oE.at (by omega), g7 c hc]; exact (s0 _).symm
  · exact (e0 11 (by omega) (by omega)).trans (s0 _).symm
  · rw [e0 15 (by omega) (by omega)]; exact (s0 _).symm
  · rw [oE.at (by omega), g6 c hc]; exact (s0 _).symm
/-- nothing told in the reference -/
theorem tn_all : Om (fun a => a = 79 ∨ a = 81) T (e_tells T) ∧ (∀ j, mi (e_tells T) 79 j = if j = 9 then 5 else if j = 8 then 12 else if j = 7 then 1 else if j = 6 then 3 else if j = 5 then 1 else if j = 4 then 4 else if j = 3 then 2 else if j = 2 then 0 else if j = 1 then 4 else if j = 0 then 6 else mi T 79 j) ∧ ∀ c, c < 48 → mi (e_tells T) 81 c = 5 := by
  unfold e_tells e_fill5
  refine ⟨om_sa (om_si (om_si (om_si (om_si (om_si (om_si (om_si (om_si (om_si (om_si Om.refl (Or.inl rfl)) (Or.inl rfl)) (Or.inl rfl)) (Or.inl rfl)) (Or.inl rfl)) (Or.inl rfl)) (Or.inl rfl)) (Or.inl rfl)) (Or.inl rfl)) (Or.inl rfl)) (Or.inr rfl), fun j => ?_, fun c hc => ?_⟩
  · rw [mi_sA_ne (by omega), mi_sI, u1_at, mi_sI, u1_at, mi_sI, u1_at, mi_sI, u1_at, mi_sI, u1_at, mi_sI, u1_at, mi_sI, u1_at, mi_sI, u1_at, mi_sI, u1_at, mi_sI, u1_at]
  · rw [mi_sA, upto_lt hc]
theorem y_ftext (hb : TxB b) (hr : ∀ j, j < 415 → r0 j = 0) (ha : a0 = 28 ∨ a0 = 38) (ha2 : a2 = 48 ∨ a2 = 56) (hl1 : isL l1) (hl2 : isL l2) (hll : l1 ≠ l2) (hr1 : rd C a0 1 = l1) (hr2 : rd C a0 2 = l2) (hc : TC b C L 0 0 (-1)) (ht : TT b T L (nb b L 0) 0 (-1)) (h7 : mi T 76 7 = 0) : ∃ C' T', f_X3_readField a0 a2 C = some C' ∧ ((f_X10_tellsNothing T).bind fun M6 => whl fu f_X10_field_b42 M6) = some T' ∧ (Om (fun a => a = 1 ∨ (a = a0 ∨ a = a0 + 1 ∨ (a2 ≤ a ∧ a ≤ a2 + 7)) ∨ ((a = l1 ∨ a = l1 + 1) ∨ (a = l2 ∨ a = l2 + 1))) C C' ∧ ∀ j, j < 3 → mi C' 1 j = mi C 1 j) ∧ FtR T T' ∧ ((∃ p1 cl' n' w' h', TC b C' L p1 0 (-1) ∧ TT b T' L p1 0 (-1) ∧ FSt a0 a2 r0 cl' n' w' h' C' T' ∧ (mi C' l1 3 = 3 ∧ mi C' (l1 + 1) 0 = 1000 ∧ mi C' (l1 + 1) 1 = 2 ∧ mi C' (l1 + 1) 2 = -42) ∧ (mi C' l2 3 = 1 ∧ mi C' (l2 + 1) 0 = 0)) ∨ FL b C' T' L) := by
  unfold isL at hl1 hl2
  obtain ⟨o1, v1, v2, v3, v4⟩ := fg_all (C := C) (a0 := a0) (l1 := l1) (l2 := l2) (by omega)
  obtain ⟨o2, w1⟩ := wf_all (C := e_forget a0 l1 l2 C) (a2 := a2) hr
  obtain ⟨o3, t1, t2⟩ := tn_all (T := T)
  generalize hC1 : e_forget a0 l1 l2 C = C1 at *
  generalize hC2 : e_wforget a2 C1 = C2 at *
  generalize hT1 : e_tells T = T1 at *
  have tc2 : TC b C2 L 0 0 (-1) := hc.of (fun j _ _ => by rw [o2.at (by omega), o1.at (by omega)]) (by rw [o2.at (by omega), o1.at (by omega)])
  have tt1 : TT b T1 L (nb b L 0) 0 (-1) := ht.of (fun j _ => by rw [o3.at (by omega)]) (o3.at (by omega))
  have s0 : FSt a0 a2 r0 0 0 6 4 C2 T1 := by
    refine ⟨⟨by omega, ⟨by rw [t1]; rfl, by rw [t1]; rfl, by rw [t1]; rfl⟩, ?_, ?_⟩, fun i hi => ?_, fun c hc => ?_, ⟨by omega, by omega, ?_⟩, fun j hj => by omega, w1⟩
    · rw [o2.at (by omega), v1]; rfl
    · rw [o2.at (by omega), v1]; rfl
    · rw [o2.at (by omega), v1, t1]
      have h9 : i = 0 ∨ i = 1 ∨ i = 2 ∨ i = 3 ∨ i = 4 ∨ i = 5 ∨ i = 6 := by omega
      rcases h9 with rfl | rfl | rfl | rfl | rfl | rfl | rfl
      · exact ⟨rfl, 2, by decide, by decide, rfl⟩
      · exact ⟨rfl, 4, by decide, by decide, rfl⟩
      · exact ⟨rfl, 1, by decide, by decide, rfl⟩
      · exact ⟨rfl, 3, by decide, by decide, rfl⟩
      · exact ⟨rfl, 1, by decide, by decide, rfl⟩
      · exact ⟨rfl, 12, by decide, by decide, rfl⟩
      · exact ⟨rfl, 5, by decide, by decide, rfl⟩
    · rw [o2.at (by omega), v2 c hc, t2 c hc]
      exact ⟨rfl, 5, by omega, by omega, rfl⟩
    · rw [o3.at (by omega)]; exact h7
  obtain ⟨C', T', e, z1, z2, rfl, z3, z4, z5⟩ := y_clauses hb hr (a0 := a0) (a2 := a2) (by omega) 60 0 0 fu fu C2 T1 0 6 4 (by omega) (by decide) (by decide) tc2 tt1 s0
  refine ⟨C', e, ?_, ?_, ⟨?_, fun j hj => ?_⟩, ?_, ?_⟩
  · unfold f_X3_readField
    rw [s_forget (by rcases ha with rfl | rfl <;> decide) hr1 hr2, bsome, hC1, s_wforget (by rcases ha2 with rfl | rfl <;> decide) (by rcases ha2 with rfl | rfl <;> decide) (by rcases ha2 with rfl | rfl <;> decide), bsome, hC2, show whl fu (f_X3_readField_b10 a0 a2) (0, C2) = some C' from z1, bsome]
  · rw [s_tells, bsome, hT1]
    exact z2
  · exact (o1.mono (fun a h => by omega)).trans ((o2.mono (fun a h => by omega)).trans (z3.1.mono (fun a h => by omega)))
  · rw [z3.2 j hj, o2.at (by omega), o1.at (by omega)]
  · exact FtR.trans ⟨o3.mono (fun a h => by omega), fun j hj => by rw [o3.at (by omega)]⟩ z4
  · rcases z5 with ⟨p1, cl', n', w', h', y1, y2, y3⟩ | z5
    · refine Or.inl ⟨p1, cl', n', w', h', y1, y2, y3, ?_, ?_⟩
      · rw [z3.1.at (by omega), z3.1.at (by omega), o2.at (by omega), o2.at (by omega)]
        exact v3
      · rw [z3.1.at (by omega), z3.1.at (by omega), o2.at (by omega), o2.at (by omega)]
        exact v4
    · exact Or.inr z5
/-- the reference's field stands -/
theorem m_stands (hr0 : r0 = upto 415 (fun _ => 0) (mi T 196)) (s : FSt a0 a2 r0 cl n w h C T) : ∃ T', f_X10_stands T = some T' ∧ Om (fun a => a = 76 ∨ a = 80 ∨ a = 82 ∨ a = 114 ∨ a = 196) T T' ∧ (∀ j, j < 10 → mi T' 80 j = mi T 79 j) ∧ (∀ c, c < 48 → mi T' 82 c = mi T 81 c) ∧ mi T' 196 = rwT T r0 n ∧ (mi T' 114 0 = 0 ∧ mi T' 114 1 = 0) ∧ ∀ j, mi T' 76 j = if j = 33 then 0 else if j = 32 then 0 else if j = 31 then 0 else if j = 30 then 0 else mi T 76 j := by
  have hr : ∀ j, j < 415 → r0 j = 0 := fun j hj => by rw [hr0, upto_lt hj]
  have hn30 := s.2.2.2.1.1
  have t2 := s.1.2.1.2.2
  have hst := s.2.2.2.2.1
  unfold f_X10_stands
  rw [s_stand1, bsome, s_stand2, bsome, s_stand3, bsome]
  unfold e_cp
  generalize hA : sA T 80 (upto 10 (mi T 79) (mi T 80)) = A
  have oA : Om (fun a => a = 80) T A := by rw [← hA]; exact om_sa Om.refl rfl
  have a80 : ∀ j, j < 10 → mi A 80 j = mi T 79 j := fun j hj => by rw [← hA, mi_sA, upto_lt hj]
  generalize hB : sA A 82 (upto 48 (mi A 81) (mi A 82)) = B
  have oB : Om (fun a => a = 82) A B := by rw [← hB]; exact om_sa Om.refl rfl
  have b82 : ∀ j, j < 48 → mi B 82 j = mi T 81 j := fun j hj => by rw [← hB, mi_sA, upto_lt hj, oA.at (by omega)]
  generalize hE : sA B 196 (upto 415 (fun _ => 0) (mi B 196)) = E
  have oE : Om (fun a => a = 196) B E := by rw [← hE]; exact om_sa Om.refl rfl
  have e196 : mi E 196 = r0 := by rw [← hE, mi_sA, oB.at (by omega), oA.at (by omega), hr0]
  have oTE : ∀ a, a ≠ 80 → a ≠ 82 → a ≠ 196 → mi E a = mi T a := fun a h1 h2 h3 => by rw [oE.at h3, oB.at h2, oA.at h1]
  have e802 : mi E 80 2 = Int32.ofNat n := by rw [oE.at (by omega), oB.at (by omega), a80 2 (by omega)]; exact t2
  obtain ⟨F, f1, f2, f3⟩ := whl_ex (f := f_X10_stands_b76) (fun t st => ∃ N1, st = (Int32.ofNat t, N1) ∧ Om (fun a => a = 196) E N1 ∧ mi N1 196 = rwT T r0 t) (fun N1 => Om (fun a => a = 196) E N1 ∧ mi N1 196 = rwT T r0 n) n fu (0, E) (by show n < 1000000; omega) ⟨E, rfl, Om.refl, e196⟩ (by
    rintro t st ht ⟨N1, rfl, hO, hq⟩
    obtain ⟨x, y, x1, y1, q1, q2, s9, s1, s2, s3⟩ := hst t ht
    obtain ⟨hV, -, -⟩ := rwT_vr hr s.1.1 t (by omega) (fun j hj => hst j (by omega))
    have hw := s.1.1
    unfold f_X10_stands_b76
    dsimp only
    have hN : mi N1 (84 + t) = mi T (84 + t) := by rw [hO.at (by omega), oTE _ (by omega) (by omega) (by omega)]
    rw [ai_2 (by omega), bsome, hO.at (by omega), e802, if_neg (nle ht (by omega)), ar_83 (by omega), bsome, ai_0 (by omega), bsome, bsome, ai_1 (by omega), bsome, bsome, ai_2 (by omega), bsome, hN, q1, q2]
    obtain ⟨N2, m1, m2, m3⟩ := m_comes (a := 196) (x := x) (y := y) (s := mi T (84 + t) 2) (N := N1) LN196 (w := w) (h := h) (by rw [hq]; exact hV)
    rw [m1, bsome, oN_S]
    refine Or.inl ⟨_, rfl, N2, rfl, hO.trans m2, ?_⟩
    rw [m3, hq, rwT_s, q1, q2, show nn9 (Int32.ofNat x) = x from oN_nat (by omega), show nn9 (Int32.ofNat y) = y from oN_nat (by omega)]) (by
    rintro st ⟨N1, rfl, hO, hq⟩
    refine ⟨N1, ?_, hO, hq⟩
    unfold f_X10_stands_b76
    dsimp only
    rw [ai_2 (by omega), bsome, hO.at (by omega), e802, if_pos (le_rf _)])
  rw [f1, bsome, wi_0 (by omega), bsome, wi_1 (by omega), bsome]
  refine ⟨_, rfl, ?_, fun j hj => ?_, fun c hc => ?_, ?_, ⟨?_, ?_⟩, fun j => ?_⟩
  · exact om_si (om_si (om_si (om_si (om_si (om_si ((oA.mono (fun a h => by omega)).trans ((oB.mono (fun a h => by omega)).trans ((oE.mono (fun a h => by omega)).trans (f2.mono (fun a h => by omega))))) (by omega)) (by omega)) (by omega)) (by omega)) (by omega)) (by omega)
  · rw [mi_sI_ne (by omega), mi_sI_ne (by omega), mi_sI_ne (by omega), mi_sI_ne (by omega), mi_sI_ne (by omega), mi_sI_ne (by omega), f2.at (by omega), oE.at (by omega), oB.at (by omega)]
    exact a80 j hj
  · rw [mi_sI_ne (by omega), mi_sI_ne (by omega), mi_sI_ne (by omega), mi_sI_ne (by omega), mi_sI_ne (by omega), mi_sI_ne (by omega), f2.at (by omega), oE.at (by omega)]
    exact b82 c hc
  · rw [mi_sI_ne (by omega), mi_sI_ne (by omega), mi_sI_ne (by omega), mi_sI_ne (by omega), mi_sI_ne (by omega), mi_sI_ne (by omega)]
    exact f3
  · rw [mi_sI_ne (by omega), mi_sI_ne (by omega), mi_sI_ne (by omega), mi_sI_ne (by omega), mi_sI_o (by omega), mi_sI_k]
  · rw [mi_sI_ne (by omega), mi_sI_ne (by omega), mi_sI_ne (by omega), mi_sI_ne (by omega), mi_sI_k]
  · rw [mi_sI, u1_at, mi_sI, u1_at, mi_sI, u1_at, mi_sI, u1_at, mi_sI_ne (by omega), mi_sI_ne (by omega), f2.at (by omega), oTE 76 (by omega) (by omega) (by omega)]
end FI
