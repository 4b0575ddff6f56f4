/-! level 3: a field's text: numbers, cells, stones -/
section FD
variable {k : Nat} {M M2 : Mm} {q : Nat → Nat} {b : Nat → Int32} {C C' T T' N : Mm} {L p p0 p' a0 a2 n i j w h cl : Nat} {f fa lo hi v : Int32} {r0 : Nat → Int32} {Q Q' : Prop}
def wsF : List (List Nat) := [[6, 9, 5, 12, 4], [19, 20, 15, 14, 5], [19, 15, 9, 12], [12, 1, 4, 19], [19, 12, 5, 4, 7, 5], [2, 1, 18]]
theorem wsF_ok : slN 0 ≤ 1000 ∧ wfT 0 wsF 0 = true ∧ wlen wsF < 1000 ∧ wsF.length < 1000 := by decide +kernel
/-- which clause the reference sees -/
theorem m_clw (hb : TxB b) (h : TT b T L p 0 fa) (hn : nb b L p = p) : ∃ T' v, f_X10_clause T = f_X10_clause_j120 v T' ∧ TFr T T' ∧ TT b T' L p 0 fa ∧ fstW b L p wsF 0 v ∧ (v = -1 ∨ ∃ j : Nat, j ≤ 5 ∧ v = Int32.ofNat j) := by
  unfold f_X10_clause
  obtain ⟨T1, v1, e1, c1, t1, r1⟩ := m_ask (lw := [6, 9, 5, 12, 4]) (x1 := 6) (x2 := 9) (x3 := 5) (x4 := 12) (x5 := 4) (x6 := 0) hb h hn (by decide) (by decide) (fun M => by rfl)
  rw [e1, bsome]
  dsimp only
  rcases r1 with ⟨rfl, y1⟩ | ⟨rfl, n1⟩
  · rw [if_neg z10]
    exact ⟨T1, 0, rfl, c1, t1, Or.inl ⟨y1, rfl⟩, Or.inr ⟨0, by omega, rfl⟩⟩
  rw [if_pos z00]
  obtain ⟨T2, v2, e2, c2, t2, r2⟩ := m_ask (lw := [19, 20, 15, 14, 5]) (x1 := 19) (x2 := 20) (x3 := 15) (x4 := 14) (x5 := 5) (x6 := 0) hb t1 hn (by decide) (by decide) (fun M => by rfl)
  rw [e2, bsome]
  dsimp only
  rcases r2 with ⟨rfl, y2⟩ | ⟨rfl, n2⟩
  · rw [if_neg z10]
    exact ⟨T2, 1, rfl, c1.trans c2, t2, Or.inr ⟨n1, Or.inl ⟨y2, rfl⟩⟩, Or.inr ⟨1, by omega, rfl⟩⟩
  rw [if_pos z00]
  obtain ⟨T3, v3, e3, c3, t3, r3⟩ := m_ask (lw := [19, 15, 9, 12]) (x1 := 19) (x2 := 15) (x3 := 9) (x4 := 12) (x5 := 0) (x6 := 0) hb t2 hn (by decide) (by decide) (fun M => by rfl)
  rw [e3, bsome]
  dsimp only
  rcases r3 with ⟨rfl, y3⟩ | ⟨rfl, n3⟩
  · rw [if_neg z10]
    exact ⟨T3, 2, rfl, (c1.trans c2).trans c3, t3, Or.inr ⟨n1, Or.inr ⟨n2, Or.inl ⟨y3, rfl⟩⟩⟩, Or.inr ⟨2, by omega, rfl⟩⟩
  rw [if_pos z00]
  obtain ⟨T4, v4, e4, c4, t4, r4⟩ := m_ask (lw := [12, 1, 4, 19]) (x1 := 12) (x2 := 1) (x3 := 4) (x4 := 19) (x5 := 0) (x6 := 0) hb t3 hn (by decide) (by decide) (fun M => by rfl)
  rw [e4, bsome]
  dsimp only
  rcases r4 with ⟨rfl, y4⟩ | ⟨rfl, n4⟩
  · rw [if_neg z10]
    exact ⟨T4, 3, rfl, ((c1.trans c2).trans c3).trans c4, t4, Or.inr ⟨n1, Or.inr ⟨n2, Or.inr ⟨n3, Or.inl ⟨y4, rfl⟩⟩⟩⟩, Or.inr ⟨3, by omega, rfl⟩⟩
  rw [if_pos z00]
  obtain ⟨T5, v5, e5, c5, t5, r5⟩ := m_ask (lw := [19, 12, 5, 4, 7, 5]) (x1 := 19) (x2 := 12) (x3 := 5) (x4 := 4) (x5 := 7) (x6 := 5) hb t4 hn (by decide) (by decide) (fun M => by rfl)
  rw [e5, bsome]
  dsimp only
  rcases r5 with ⟨rfl, y5⟩ | ⟨rfl, n5⟩
  · rw [if_neg z10]
    exact ⟨T5, 4, rfl, (((c1.trans c2).trans c3).trans c4).trans c5, t5, Or.inr ⟨n1, Or.inr ⟨n2, Or.inr ⟨n3, Or.inr ⟨n4, Or.inl ⟨y5, rfl⟩⟩⟩⟩⟩, Or.inr ⟨4, by omega, rfl⟩⟩
  rw [if_pos z00]
  obtain ⟨T6, v6, e6, c6, t6, r6⟩ := m_ask (lw := [2, 1, 18]) (x1 := 2) (x2 := 1) (x3 := 18) (x4 := 0) (x5 := 0) (x6 := 0) hb t5 hn (by decide) (by decide) (fun M => by rfl)
  rw [e6, bsome]
  dsimp only
  rcases r6 with ⟨rfl, y6⟩ | ⟨rfl, n6⟩
  · rw [if_neg z10]
    exact ⟨T6, 5, rfl, ((((c1.trans c2).trans c3).trans c4).trans c5).trans c6, t6, Or.inr ⟨n1, Or.inr ⟨n2, Or.inr ⟨n3, Or.inr ⟨n4, Or.inr ⟨n5, Or.inl ⟨y6, rfl⟩⟩⟩⟩⟩⟩, Or.inr ⟨5, by omega, rfl⟩⟩
  · rw [if_pos z00]
    exact ⟨T6, -1, rfl, ((((c1.trans c2).trans c3).trans c4).trans c5).trans c6, t6, Or.inr ⟨n1, Or.inr ⟨n2, Or.inr ⟨n3, Or.inr ⟨n4, Or.inr ⟨n5, Or.inr ⟨n6, rfl⟩⟩⟩⟩⟩⟩, Or.inl rfl⟩
/-! what is told so far -/
def nn9 (x : Int32) : Nat := x.toNatClampNeg
def rwT (T : Mm) (r0 : Nat → Int32) : Nat → Nat → Int32
  | 0 => r0
  | j + 1 => come2 (rwT T r0 j) (nn9 (mi T (84 + j) 0)) (nn9 (mi T (84 + j) 1)) (mi T (84 + j) 2)
theorem rwT_s : rwT T r0 (j + 1) = come2 (rwT T r0 j) (nn9 (mi T (84 + j) 0)) (nn9 (mi T (84 + j) 1)) (mi T (84 + j) 2) := rfl
theorem rwT_c : ∀ n, (∀ j, j < n → mi T' (84 + j) = mi T (84 + j)) → rwT T' r0 n = rwT T r0 n := by
  intro n
  induction n with
  | zero => exact fun _ => rfl
  | succ n ih =>
    intro h
    rw [rwT_s, rwT_s, ih (fun j hj => h j (by omega)), h n (by omega)]
def tsT (T : Mm) (w h n : Nat) : Prop := ∀ j, j < n → ∃ x y : Nat, x < w ∧ y < h ∧ mi T (84 + j) 0 = Int32.ofNat x ∧ mi T (84 + j) 1 = Int32.ofNat y ∧ rg (mi T (84 + j) 2) 1 9
theorem z_vr (hr : ∀ j, j < 415 → r0 j = 0) (hw : (1 ≤ w ∧ w ≤ 8) ∧ 1 ≤ h ∧ h ≤ 6) : VR w h r0 ∧ rN r0 = 0 := by
  have hN : rN r0 = 0 := by unfold rN; rw [hr 360 (by omega)]; rfl
  refine ⟨⟨⟨hw.1.1, hw.1.2, hw.2.1, hw.2.2⟩, ⟨by omega, by rw [hN, hr 360 (by omega)]; rfl⟩, fun k hk => by omega, ⟨?_, ?_⟩, fun c hc => Or.inl (hr _ (by omega))⟩, hN⟩
  · rw [hr 361 (by omega)]
    exact ⟨by show (0 : Nat) < w; omega, rfl⟩
  · rw [hr 362 (by omega)]
    exact ⟨by show (0 : Nat) < h; omega, rfl⟩
theorem rwT_vr (hr : ∀ j, j < 415 → r0 j = 0) (hw : (1 ≤ w ∧ w ≤ 8) ∧ 1 ≤ h ∧ h ≤ 6) : ∀ n, n ≤ 60 → tsT T w h n → VR w h (rwT T r0 n) ∧ rN (rwT T r0 n) = n ∧ ∀ j, 360 < j → rwT T r0 n j = r0 j := by
  intro n
  induction n with
  | zero => exact fun _ _ => ⟨(z_vr hr hw).1, (z_vr hr hw).2, fun j hj => rfl⟩
  | succ n ih =>
    intro h1 h2
    obtain ⟨i1, i2, i3⟩ := ih (by omega) (fun j hj => h2 j (by omega))
    obtain ⟨x, y, x1, y1, e1, e2, s, s1, s2, s3⟩ := h2 n (by omega)
    have hh := hw.1.2
    have hh2 := hw.2.2
    rw [rwT_s, e1, e2]
    have ex : nn9 (Int32.ofNat x) = x := oN_nat (by omega)
    have ey : nn9 (Int32.ofNat y) = y := oN_nat (by omega)
    rw [ex, ey]
    refine ⟨come2_vr i1 x1 y1 ⟨s, s1, s2, s3⟩, ?_, fun j hj => ?_⟩
    · unfold come2
      rw [if_pos (by omega), come_N i1 (by omega), i2]
    · rw [come2_gt hj]
      exact i3 j hj
def lo7 (i : Nat) : Nat := [1, 1, 1, 0, 1, 1, 1].getD i 0
def hi7 (i : Nat) : Nat := [6, 9, 9, 60, 9, 99, 30].getD i 0
/-- class's spare ground a0 and spare world a2, reference's told things -/
def FSt (a0 a2 : Nat) (r0 : Nat → Int32) (cl n w h : Nat) (C T : Mm) : Prop :=
  (((1 ≤ w ∧ w ≤ 8) ∧ 1 ≤ h ∧ h ≤ 6) ∧ (mi T 79 0 = Int32.ofNat w ∧ mi T 79 1 = Int32.ofNat h ∧ mi T 79 2 = Int32.ofNat n) ∧ (mi C a0 3 = Int32.ofNat w ∧ mi C a0 4 = Int32.ofNat h)) ∧
  (∀ i, i < 7 → mi C a0 (5 + i) = mi T 79 (3 + i) ∧ rg (mi T 79 (3 + i)) (lo7 i) (hi7 i)) ∧
  (∀ c, c < 48 → mi C (a0 + 1) c = mi T 81 c ∧ rg (mi T 81 c) 0 99) ∧
  (n ≤ 30 ∧ n ≤ cl ∧ mi T 76 7 = Int32.ofNat cl) ∧ tsT T w h n ∧ RF C a2 (rwT T r0 n)
theorem FSt.of (s : FSt a0 a2 r0 cl n w h C T) (hC : ∀ a, (a = a0 ∨ a = a0 + 1 ∨ (a2 ≤ a ∧ a ≤ a2 + 7)) → mi C' a = mi C a) (hT : ∀ a, (a = 79 ∨ a = 81 ∨ (84 ≤ a ∧ a ≤ 113)) → mi T' a = mi T a) (h7 : mi T' 76 7 = mi T 76 7) : FSt a0 a2 r0 cl n w h C' T' := by
  obtain ⟨h1, h2, h3, h4, h5, h6⟩ := s
  refine ⟨?_, ?_, ?_, ?_, ?_, ?_⟩
  · rw [hC a0 (by omega), hT 79 (by omega)]; exact h1
  · rw [hC a0 (by omega), hT 79 (by omega)]; exact h2
  · rw [hC (a0 + 1) (by omega), hT 81 (by omega)]; exact h3
  · rw [h7]; exact h4
  · intro j hj
    rw [hT (84 + j) (by omega)]
    exact h5 j hj
  · rw [rwT_c n (fun j hj => hT (84 + j) (by omega))]
    exact h6.frame (fun j hj => hC _ (by omega))
theorem FSt.cl1 (s : FSt a0 a2 r0 cl n w h C T) : FSt a0 a2 r0 (cl + 1) n w h C (sI T 76 7 (Int32.ofNat (cl + 1))) := by
  obtain ⟨h1, h2, h3, h4, h5, h6⟩ := s
  have e : ∀ a, a ≠ 76 → mi (sI T 76 7 (Int32.ofNat (cl + 1))) a = mi T a := fun a ha => mi_sI_ne ha
  refine ⟨?_, ?_, ?_, ⟨h4.1, by omega, mi_sI_k⟩, ?_, ?_⟩
  · rw [e 79 (by omega)]; exact h1
  · rw [e 79 (by omega)]; exact h2
  · rw [e 81 (by omega)]; exact h3
  · intro j hj
    rw [e (84 + j) (by omega)]
    exact h5 j hj
  · rw [rwT_c n (fun j hj => e (84 + j) (by omega))]
    exact h6
/-! in sync with what is told, or both with a fault -/
def GX (b : Nat → Int32) (Q : Prop) (C T : Mm) (L p0 : Nat) : Prop := (∃ p, p0 < p ∧ SY b C T L p ∧ Q) ∨ FL b C T L
theorem SY.of (g : SY b C T L p) (c1 : ∀ j, 2 ≤ j → j ≤ 6 → mi C' 1 j = mi C 1 j) (c2 : mi C' 2 = mi C 2) (t1 : ∀ j, (j = 2 ∨ j = 4 ∨ j = 5 ∨ j = 6) → mi T' 76 j = mi T 76 j) (t2 : mi T' 77 = mi T 77) : SY b C' T' L p := ⟨g.1.of c1 c2, g.2.of t1 t2⟩
theorem FL.of (g : FL b C T L) (c1 : ∀ j, 2 ≤ j → j ≤ 6 → mi C' 1 j = mi C 1 j) (c2 : mi C' 2 = mi C 2) (t1 : ∀ j, (j = 2 ∨ j = 4 ∨ j = 5 ∨ j = 6) → mi T' 76 j = mi T 76 j) (t2 : mi T' 77 = mi T 77) : FL b C' T' L := by
  obtain ⟨f, fa, p, p', hf, x1, x2⟩ := g
  exact ⟨f, fa, p, p', hf, x1.of c1 c2, x2.of t1 t2⟩
theorem GX.of (g : GX b Q C T L p0) (c1 : ∀ j, 2 ≤ j → j ≤ 6 → mi C' 1 j = mi C 1 j) (c2 : mi C' 2 = mi C 2) (t1 : ∀ j, (j = 2 ∨ j = 4 ∨ j = 5 ∨ j = 6) → mi T' 76 j = mi T 76 j) (t2 : mi T' 77 = mi T 77) (hQ : Q → Q') : GX b Q' C' T' L p0 := by
  rcases g with ⟨p, h1, h2, h3⟩ | h
  · exact Or.inl ⟨p, h1, h2.of c1 c2 t1 t2, hQ h3⟩
  · exact Or.inr (h.of c1 c2 t1 t2)
theorem x_num (hb : TxB b) (g : GX b Q C T L p0) : ∃ v C' v' T', f_X7_readNumber lo hi C = some (v, C') ∧ f_X10_number lo hi T = some (v', T') ∧ CFr C C' ∧ TFr T T' ∧ GX b (Q ∧ v' = v ∧ lo ≤ v ∧ v ≤ hi) C' T' L p0 := by
  rcases g with ⟨p, h1, h2, h3⟩ | ⟨f, fa, p, p', hf, x1, x2⟩
  · obtain ⟨v, C', v', T', e1, e2, c1, c2, h9⟩ := y_num (lo := lo) (hi := hi) hb h2
    refine ⟨v, C', v', T', e1, e2, c1, c2, ?_⟩
    rcases h9 with ⟨z1, z2, z3, -, -, p', z4, z5⟩ | ⟨-, z⟩
    · exact Or.inl ⟨p', by omega, z5, h3, z1, z2, z3⟩
    · exact Or.inr z
  · obtain ⟨v, C', p2, e1, c1, t1⟩ := k_num_f (lo := lo) (hi := hi) x1 hf
    exact ⟨v, C', 0, T, e1, m_num_f x2 hf, c1, TFr.refl, Or.inr ⟨f, fa, p2, p', hf, t1, x2⟩⟩
theorem x_sgn2 {x : Int32} (hb : TxB b) (hx : x ≠ -1) (g : GX b Q C T L p0) : ∃ C' T', f_X7_readSign x C = some C' ∧ f_X10_sign x T = some T' ∧ CFr C C' ∧ TFr T T' ∧ GX b Q C' T' L p0 := by
  rcases g with ⟨p, h1, h2, h3⟩ | ⟨f, fa, p, p', hf, x1, x2⟩
  · obtain ⟨C', T', e1, e2, c1, c2, h9⟩ := y_sign hb hx h2
    refine ⟨C', T', e1, e2, c1, c2, ?_⟩
    rcases h9 with ⟨p', z4, z5⟩ | z
    · exact Or.inl ⟨p', by omega, z5, h3⟩
    · exact Or.inr z
  · obtain ⟨C', p2, e1, c1, t1⟩ := k_sign_f hx x1 hf
    exact ⟨C', T, e1, m_sign_f x2 hf, c1, TFr.refl, Or.inr ⟨f, fa, p2, p', hf, t1, x2⟩⟩
/-! frames -/
def FcR (a0 a2 : Nat) (C C' : Mm) : Prop := Om (fun a => a = 1 ∨ a = a0 ∨ a = a0 + 1 ∨ (a2 ≤ a ∧ a ≤ a2 + 7)) C C' ∧ ∀ j, j < 3 → mi C' 1 j = mi C 1 j
def FtR (T T' : Mm) : Prop := Om (fun a => a = 76 ∨ a = 79 ∨ a = 81 ∨ (84 ≤ a ∧ a ≤ 113)) T T' ∧ ∀ j, (j < 4 ∨ 7 < j) → mi T' 76 j = mi T 76 j
theorem FcR.refl : FcR a0 a2 C C := ⟨Om.refl, fun _ _ => rfl⟩
theorem FtR.refl : FtR T T := ⟨Om.refl, fun _ _ => rfl⟩
theorem FcR.trans {D : Mm} (h1 : FcR a0 a2 C C') (h2 : FcR a0 a2 C' D) : FcR a0 a2 C D := ⟨h1.1.trans h2.1, fun j hj => (h2.2 j hj).trans (h1.2 j hj)⟩
theorem FtR.trans {D : Mm} (h1 : FtR T T') (h2 : FtR T' D) : FtR T D := ⟨h1.1.trans h2.1, fun j hj => (h2.2 j hj).trans (h1.2 j hj)⟩
theorem CFr.fc (h : CFr C C') : FcR a0 a2 C C' := ⟨h.1.mono (fun a ha => Or.inl ha), h.2⟩
theorem TFr.ft (h : TFr T T') : FtR T T' := ⟨h.1.mono (fun a ha => Or.inl ha), fun j hj => h.2 j (by omega)⟩
theorem FcR.s {a : Nat} (ha : a = a0 ∨ a = a0 + 1 ∨ (a2 ≤ a ∧ a ≤ a2 + 7)) (h0 : 2 < a0 ∧ 2 < a2) : FcR a0 a2 C (sI C a j v) := ⟨Om.sI (Or.inr ha), fun i hi => by rw [mi_sI_ne (by omega)]⟩
theorem FtR.s {a : Nat} (ha : a = 79 ∨ a = 81 ∨ (84 ≤ a ∧ a ≤ 113)) : FtR T (sI T a j v) := ⟨Om.sI (Or.inr ha), fun i hi => by rw [mi_sI_ne (by omega)]⟩
/-- one number stored -/
theorem x_store (hb : TxB b) (h0 : 2 < a0 ∧ a0 + 1 < a2 ∧ a2 + 7 < 76) (hi9 : i < 7) (hlo : lo = Int32.ofNat (lo7 i)) (hhi : hi = Int32.ofNat (hi7 i)) (g : GX b (FSt a0 a2 r0 cl n w h C T) C T L p0) : ∃ v C' v' T', f_X7_readNumber lo hi C = some (v, C') ∧ f_X10_number lo hi T = some (v', T') ∧ FcR a0 a2 C (sI C' a0 (5 + i) v) ∧ FtR T (sI T' 79 (3 + i) v') ∧ GX b (FSt a0 a2 r0 cl n w h (sI C' a0 (5 + i) v) (sI T' 79 (3 + i) v')) (sI C' a0 (5 + i) v) (sI T' 79 (3 + i) v') L p0 := by
  obtain ⟨v, C', v', T', e1, e2, c1, c2, g2⟩ := x_num (lo := lo) (hi := hi) hb g
  refine ⟨v, C', v', T', e1, e2, c1.fc.trans (FcR.s (Or.inl rfl) (by omega)), c2.ft.trans (FtR.s (Or.inl rfl)), g2.of (fun j _ _ => by rw [mi_sI_ne (by omega)]) (mi_sI_ne (by omega)) (fun j _ => by rw [mi_sI_ne (by omega)]) (mi_sI_ne (by omega)) ?_⟩
  rintro ⟨s, rfl, l1, l2⟩
  rw [hlo] at l1
  rw [hhi] at l2
  have hlo9 : lo7 i < 2147483648 ∧ hi7 i < 2147483648 := by
    have : ∀ i : Nat, i < 7 → lo7 i < 1000 ∧ hi7 i < 1000 := by decide
    have := this i hi9
    omega
  have hv : rg v' (lo7 i) (hi7 i) := (in_nat hlo9.1 hlo9.2).mp ⟨l1, l2⟩
  have s1 : FSt a0 a2 r0 cl n w h C' T' := s.of (fun a ha => c1.1.at (by omega)) (fun a ha => c2.1.at (by omega)) (c2.2 7 (by omega))
  obtain ⟨h1, h2, h3, h4, h5, h6⟩ := s1
  have eC : ∀ j, mi (sI C' a0 (5 + i) v') a0 j = if j = 5 + i then v' else mi C' a0 j := fun j => by rw [mi_sI, u1_at]
  have eT : ∀ j, mi (sI T' 79 (3 + i) v') 79 j = if j = 3 + i then v' else mi T' 79 j := fun j => by rw [mi_sI, u1_at]
  refine ⟨?_, fun t ht => ?_, ?_, ?_, ?_, ?_⟩
  · rw [eC, eC, eT, eT, eT, if_neg (by omega), if_neg (by omega), if_neg (by omega), if_neg (by omega), if_neg (by omega)]
    exact h1
  · rw [eC, eT]
    by_cases e : t = i
    · subst e
      rw [if_pos rfl, if_pos rfl]
      exact ⟨rfl, hv⟩
    · rw [if_neg (by omega), if_neg (by omega)]
      exact h2 t ht
  · rw [mi_sI_ne (by omega), mi_sI_ne (by omega)]; exact h3
  · rw [mi_sI_ne (by omega)]; exact h4
  · intro t ht
    rw [mi_sI_ne (by omega)]
    exact h5 t ht
  · rw [rwT_c n (fun t ht => mi_sI_ne (by omega))]
    exact h6.frame (fun t ht => mi_sI_ne (by omega))
/-- the field's size, told before all else -/
theorem x_storeW (hb : TxB b) (h0 : 2 < a0 ∧ a0 + 1 < a2 ∧ a2 + 7 < 76) (g : GX b (FSt a0 a2 r0 cl 0 w h C T) C T L p0) : ∃ v C' v' T', f_X7_readNumber 1 8 C = some (v, C') ∧ f_X10_number 1 8 T = some (v', T') ∧ FcR a0 a2 C (sI C' a0 3 v) ∧ FtR T (sI T' 79 0 v') ∧ GX b (∃ w', FSt a0 a2 r0 cl 0 w' h (sI C' a0 3 v) (sI T' 79 0 v')) (sI C' a0 3 v) (sI T' 79 0 v') L p0 := by
  obtain ⟨v, C', v', T', e1, e2, c1, c2, g2⟩ := x_num (lo := 1) (hi := 8) hb g
  refine ⟨v, C', v', T', e1, e2, c1.fc.trans (FcR.s (Or.inl rfl) (by omega)), c2.ft.trans (FtR.s (Or.inl rfl)), g2.of (fun j _ _ => by rw [mi_sI_ne (by omega)]) (mi_sI_ne (by omega)) (fun j _ => by rw [mi_sI_ne (by omega)]) (mi_sI_ne (by omega)) ?_⟩
  rintro ⟨s, rfl, l1, l2⟩
  obtain ⟨w', w1, w2, w3⟩ := (in_nat (lo := 1) (hi := 8) (by omega) (by omega)).mp ⟨l1, l2⟩
  have s1 : FSt a0 a2 r0 cl 0 w h C' T' := s.of (fun a ha => c1.1.at (by omega)) (fun a ha => c2.1.at (by omega)) (c2.2 7 (by omega))
  obtain ⟨h1, h2, h3, h4, h5, h6⟩ := s1
  have eC : ∀ j, mi (sI C' a0 3 v') a0 j = if j = 3 then v' else mi C' a0 j := fun j => by rw [mi_sI, u1_at]
  have eT : ∀ j, mi (sI T' 79 0 v') 79 j = if j = 0 then v' else mi T' 79 j := fun j => by rw [mi_sI, u1_at]
  refine ⟨w', ?_, fun t ht => ?_, ?_, ?_, fun t ht => by omega, ?_⟩
  · rw [eC, eC, eT, eT, eT, if_pos rfl, if_neg (by omega), if_pos rfl, if_neg (by omega), if_neg (by omega)]
    exact ⟨⟨⟨w1, w2⟩, h1.1.2⟩, ⟨w3, h1.2.1.2⟩, w3, h1.2.2.2⟩
  · rw [eC, eT, if_neg (by omega), if_neg (by omega)]
    exact h2 t ht
  · rw [mi_sI_ne (by omega), mi_sI_ne (by omega)]; exact h3
  · rw [mi_sI_ne (by omega)]; exact h4
  · exact h6.frame (fun t ht => mi_sI_ne (by omega))
theorem x_storeH (hb : TxB b) (h0 : 2 < a0 ∧ a0 + 1 < a2 ∧ a2 + 7 < 76) (g : GX b (∃ w, FSt a0 a2 r0 cl 0 w h C T) C T L p0) : ∃ v C' v' T', f_X7_readNumber 1 6 C = some (v, C') ∧ f_X10_number 1 6 T = some (v', T') ∧ FcR a0 a2 C (sI C' a0 4 v) ∧ FtR T (sI T' 79 1 v') ∧ GX b (∃ w h', FSt a0 a2 r0 cl 0 w h' (sI C' a0 4 v) (sI T' 79 1 v')) (sI C' a0 4 v) (sI T' 79 1 v') L p0 := by
  obtain ⟨v, C', v', T', e1, e2, c1, c2, g2⟩ := x_num (lo := 1) (hi := 6) hb g
  refine ⟨v, C', v', T', e1, e2, c1.fc.trans (FcR.s (Or.inl rfl) (by omega)), c2.ft.trans (FtR.s (Or.inl rfl)), g2.of (fun j _ _ => by rw [mi_sI_ne (by omega)]) (mi_sI_ne (by omega)) (fun j _ => by rw [mi_sI_ne (by omega)]) (mi_sI_ne (by omega)) ?_⟩
  rintro ⟨⟨w, s⟩, rfl, l1, l2⟩
  obtain ⟨h', w1, w2, w3⟩ := (in_nat (lo := 1) (hi := 6) (by omega) (by omega)).mp ⟨l1, l2⟩
  have s1 : FSt a0 a2 r0 cl 0 w h C' T' := s.of (fun a ha => c1.1.at (by omega)) (fun a ha => c2.1.at (by omega)) (c2.2 7 (by omega))
  obtain ⟨h1, h2, h3, h4, h5, h6⟩ := s1
  have eC : ∀ j, mi (sI C' a0 4 v') a0 j = if j = 4 then v' else mi C' a0 j := fun j => by rw [mi_sI, u1_at]
  have eT : ∀ j, mi (sI T' 79 1 v') 79 j = if j = 1 then v' else mi T' 79 j := fun j => by rw [mi_sI, u1_at]
  refine ⟨w, h', ?_, fun t ht => ?_, ?_, ?_, fun t ht => by omega, ?_⟩
  · rw [eC, eC, eT, eT, eT, if_neg (by omega), if_pos rfl, if_neg (by omega), if_pos rfl, if_neg (by omega)]
    exact ⟨⟨h1.1.1, w1, w2⟩, ⟨h1.2.1.1, w3, h1.2.1.2.2⟩, h1.2.2.1, w3⟩
  · rw [eC, eT, if_neg (by omega), if_neg (by omega)]
    exact h2 t ht
  · rw [mi_sI_ne (by omega), mi_sI_ne (by omega)]; exact h3
  · rw [mi_sI_ne (by omega)]; exact h4
  · exact h6.frame (fun t ht => mi_sI_ne (by omega))
end FD
