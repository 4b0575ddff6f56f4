/-! level 3: work: the text: words, what is put, programs -/
section SG9
variable {b : Nat → Int32} {C C' T T' : Mm} {L p p0 cc ct dep w h n m i j i' j' : Nat} {f fa v : Int32} {Q : Prop}
def wsP : List (List Nat) := [[20, 15], [12, 9, 6, 20], [2, 1, 18], [23, 1, 12, 12], [8, 5, 1, 16], [18, 15, 21, 14, 4], [23, 9, 14, 20, 5, 18], [1, 7, 1, 9, 14]]
theorem wsP_ok : slN 2 ≤ 1000 ∧ wfT 2 wsP 0 = true ∧ wlen wsP < 1000 ∧ wsP.length < 1000 := by decide +kernel
/-- which step the reference sees -/
theorem m_stepHere (hb : TxB b) (h : TT b T L p 0 fa) (hn : nb b L p = p) : ∃ T' v, f_X10_stepHere T = some (v, T') ∧ TFr T T' ∧ TT b T' L p 0 fa ∧ fstW b L p wsP 0 v ∧ (v = -1 ∨ ∃ j : Nat, j ≤ 7 ∧ v = Int32.ofNat j) := by
  unfold f_X10_stepHere
  obtain ⟨T1, v1, e1, c1, t1, r1⟩ := m_ask (lw := [20, 15]) (x1 := 20) (x2 := 15) (x3 := 0) (x4 := 0) (x5 := 0) (x6 := 0) hb h hn (by decide) (by decide) (fun M => by rfl)
  rw [e1, bsome]
  dsimp only
  rcases r1 with ⟨rfl, y1⟩ | ⟨rfl, n1⟩
  · rw [if_neg z10]
    exact ⟨T1, 0, rfl, c1, t1, Or.inl ⟨y1, rfl⟩, Or.inr ⟨0, by omega, rfl⟩⟩
  rw [if_pos z00]
  obtain ⟨T2, v2, e2, c2, t2, r2⟩ := m_ask (lw := [12, 9, 6, 20]) (x1 := 12) (x2 := 9) (x3 := 6) (x4 := 20) (x5 := 0) (x6 := 0) hb t1 hn (by decide) (by decide) (fun M => by rfl)
  rw [e2, bsome]
  dsimp only
  rcases r2 with ⟨rfl, y2⟩ | ⟨rfl, n2⟩
  · rw [if_neg z10]
    exact ⟨T2, 1, rfl, (c1.trans c2), t2, Or.inr ⟨n1, Or.inl ⟨y2, rfl⟩⟩, Or.inr ⟨1, by omega, rfl⟩⟩
  rw [if_pos z00]
  obtain ⟨T3, v3, e3, c3, t3, r3⟩ := m_ask (lw := [2, 1, 18]) (x1 := 2) (x2 := 1) (x3 := 18) (x4 := 0) (x5 := 0) (x6 := 0) hb t2 hn (by decide) (by decide) (fun M => by rfl)
  rw [e3, bsome]
  dsimp only
  rcases r3 with ⟨rfl, y3⟩ | ⟨rfl, n3⟩
  · rw [if_neg z10]
    exact ⟨T3, 2, rfl, ((c1.trans c2).trans c3), t3, Or.inr ⟨n1, Or.inr ⟨n2, Or.inl ⟨y3, rfl⟩⟩⟩, Or.inr ⟨2, by omega, rfl⟩⟩
  rw [if_pos z00]
  obtain ⟨T4, v4, e4, c4, t4, r4⟩ := m_ask (lw := [23, 1, 12, 12]) (x1 := 23) (x2 := 1) (x3 := 12) (x4 := 12) (x5 := 0) (x6 := 0) hb t3 hn (by decide) (by decide) (fun M => by rfl)
  rw [e4, bsome]
  dsimp only
  rcases r4 with ⟨rfl, y4⟩ | ⟨rfl, n4⟩
  · rw [if_neg z10]
    exact ⟨T4, 3, rfl, (((c1.trans c2).trans c3).trans c4), t4, Or.inr ⟨n1, Or.inr ⟨n2, Or.inr ⟨n3, Or.inl ⟨y4, rfl⟩⟩⟩⟩, Or.inr ⟨3, by omega, rfl⟩⟩
  rw [if_pos z00]
  obtain ⟨T5, v5, e5, c5, t5, r5⟩ := m_ask (lw := [8, 5, 1, 16]) (x1 := 8) (x2 := 5) (x3 := 1) (x4 := 16) (x5 := 0) (x6 := 0) hb t4 hn (by decide) (by decide) (fun M => by rfl)
  rw [e5, bsome]
  dsimp only
  rcases r5 with ⟨rfl, y5⟩ | ⟨rfl, n5⟩
  · rw [if_neg z10]
    exact ⟨T5, 4, rfl, ((((c1.trans c2).trans c3).trans c4).trans c5), t5, Or.inr ⟨n1, Or.inr ⟨n2, Or.inr ⟨n3, Or.inr ⟨n4, Or.inl ⟨y5, rfl⟩⟩⟩⟩⟩, Or.inr ⟨4, by omega, rfl⟩⟩
  rw [if_pos z00]
  obtain ⟨T6, v6, e6, c6, t6, r6⟩ := m_ask (lw := [18, 15, 21, 14, 4]) (x1 := 18) (x2 := 15) (x3 := 21) (x4 := 14) (x5 := 4) (x6 := 0) hb t5 hn (by decide) (by decide) (fun M => by rfl)
  rw [e6, bsome]
  dsimp only
  rcases r6 with ⟨rfl, y6⟩ | ⟨rfl, n6⟩
  · rw [if_neg z10]
    exact ⟨T6, 5, rfl, (((((c1.trans c2).trans c3).trans c4).trans c5).trans c6), t6, Or.inr ⟨n1, Or.inr ⟨n2, Or.inr ⟨n3, Or.inr ⟨n4, Or.inr ⟨n5, Or.inl ⟨y6, rfl⟩⟩⟩⟩⟩⟩, Or.inr ⟨5, by omega, rfl⟩⟩
  rw [if_pos z00]
  obtain ⟨T7, v7, e7, c7, t7, r7⟩ := m_ask (lw := [23, 9, 14, 20, 5, 18]) (x1 := 23) (x2 := 9) (x3 := 14) (x4 := 20) (x5 := 5) (x6 := 18) hb t6 hn (by decide) (by decide) (fun M => by rfl)
  rw [e7, bsome]
  dsimp only
  rcases r7 with ⟨rfl, y7⟩ | ⟨rfl, n7⟩
  · rw [if_neg z10]
    exact ⟨T7, 6, rfl, ((((((c1.trans c2).trans c3).trans c4).trans c5).trans c6).trans c7), t7, Or.inr ⟨n1, Or.inr ⟨n2, Or.inr ⟨n3, Or.inr ⟨n4, Or.inr ⟨n5, Or.inr ⟨n6, Or.inl ⟨y7, rfl⟩⟩⟩⟩⟩⟩⟩, Or.inr ⟨6, by omega, rfl⟩⟩
  rw [if_pos z00]
  obtain ⟨T8, v8, e8, c8, t8, r8⟩ := m_ask (lw := [1, 7, 1, 9, 14]) (x1 := 1) (x2 := 7) (x3 := 1) (x4 := 9) (x5 := 14) (x6 := 0) hb t7 hn (by decide) (by decide) (fun M => by rfl)
  rw [e8, bsome]
  dsimp only
  rcases r8 with ⟨rfl, y8⟩ | ⟨rfl, n8⟩
  · rw [if_neg z10]
    exact ⟨T8, 7, rfl, (((((((c1.trans c2).trans c3).trans c4).trans c5).trans c6).trans c7).trans c8), t8, Or.inr ⟨n1, Or.inr ⟨n2, Or.inr ⟨n3, Or.inr ⟨n4, Or.inr ⟨n5, Or.inr ⟨n6, Or.inr ⟨n7, Or.inl ⟨y8, rfl⟩⟩⟩⟩⟩⟩⟩⟩, Or.inr ⟨7, by omega, rfl⟩⟩
  · rw [if_pos z00]
    exact ⟨T8, -1, rfl, (((((((c1.trans c2).trans c3).trans c4).trans c5).trans c6).trans c7).trans c8), t8, Or.inr ⟨n1, Or.inr ⟨n2, Or.inr ⟨n3, Or.inr ⟨n4, Or.inr ⟨n5, Or.inr ⟨n6, Or.inr ⟨n7, Or.inr ⟨n8, rfl⟩⟩⟩⟩⟩⟩⟩⟩, Or.inl rfl⟩
/-- how long the word is -/
theorem wsP_len (h9 : fstW b L p wsP 0 v) : v = -1 ∨ (v = 0 ∧ we b L p - p = 2) ∨ (3 ≤ we b L p - p ∧ v ≠ 0 ∧ v ≠ 7) ∨ (v = 7 ∧ we b L p - p = 5) := by
  rcases h9 with ⟨a, rfl⟩ | ⟨-, h9⟩
  · exact Or.inr (Or.inl ⟨rfl, a.1⟩)
  rcases h9 with ⟨a, rfl⟩ | ⟨-, h9⟩
  · have := a.1
    exact Or.inr (Or.inr (Or.inl ⟨by rw [this]; decide, by decide, by decide⟩))
  rcases h9 with ⟨a, rfl⟩ | ⟨-, h9⟩
  · have := a.1
    exact Or.inr (Or.inr (Or.inl ⟨by rw [this]; decide, by decide, by decide⟩))
  rcases h9 with ⟨a, rfl⟩ | ⟨-, h9⟩
  · have := a.1
    exact Or.inr (Or.inr (Or.inl ⟨by rw [this]; decide, by decide, by decide⟩))
  rcases h9 with ⟨a, rfl⟩ | ⟨-, h9⟩
  · have := a.1
    exact Or.inr (Or.inr (Or.inl ⟨by rw [this]; decide, by decide, by decide⟩))
  rcases h9 with ⟨a, rfl⟩ | ⟨-, h9⟩
  · have := a.1
    exact Or.inr (Or.inr (Or.inl ⟨by rw [this]; decide, by decide, by decide⟩))
  rcases h9 with ⟨a, rfl⟩ | ⟨-, h9⟩
  · have := a.1
    exact Or.inr (Or.inr (Or.inl ⟨by rw [this]; decide, by decide, by decide⟩))
  rcases h9 with ⟨a, rfl⟩ | ⟨-, h9⟩
  · exact Or.inr (Or.inr (Or.inr ⟨rfl, a.1⟩))
  exact Or.inl h9
/-! frames -/
def Pf (C C' : Mm) : Prop := Om (fun a => a = 1 ∨ (3 ≤ a ∧ a ≤ 6)) C C' ∧ ∀ i, i < 3 → mi C' 1 i = mi C 1 i
def Pt (T T' : Mm) : Prop := Om (fun a => a = 76 ∨ (136 ≤ a ∧ a ≤ 195)) T T' ∧ ∀ i, (i < 4 ∨ (6 < i ∧ i ≠ 8 ∧ i ≠ 25)) → mi T' 76 i = mi T 76 i
theorem Pf.refl : Pf C C := ⟨Om.refl, fun _ _ => rfl⟩
theorem Pt.refl : Pt T T := ⟨Om.refl, fun _ _ => rfl⟩
theorem Pf.trans {D : Mm} (h1 : Pf C C') (h2 : Pf C' D) : Pf C D := ⟨h1.1.trans h2.1, fun i hi => (h2.2 i hi).trans (h1.2 i hi)⟩
theorem Pt.trans {D : Mm} (h1 : Pt T T') (h2 : Pt T' D) : Pt T D := ⟨h1.1.trans h2.1, fun i hi => (h2.2 i hi).trans (h1.2 i hi)⟩
theorem CFr.pf (h : CFr C C') : Pf C C' := ⟨h.1.mono (fun a ha => Or.inl ha), h.2⟩
theorem TFr.pt (h : TFr T T') : Pt T T' := ⟨h.1.mono (fun a ha => Or.inl ha), fun i hi => h.2 i (by omega)⟩
theorem Pf.s {a i : Nat} {x : Int32} (ha : 3 ≤ a ∧ a ≤ 6) : Pf C (sI C a i x) := ⟨Om.sI (Or.inr ha), fun i _ => by rw [mi_sI_ne (by omega)]⟩
theorem Pt.s {a i : Nat} {x : Int32} (ha : 136 ≤ a ∧ a ≤ 195) : Pt T (sI T a i x) := ⟨Om.sI (Or.inr ha), fun i _ => by rw [mi_sI_ne (by omega)]⟩
theorem pt_h {i : Nat} {x : Int32} (hi : i = 8 ∨ i = 25) : Pt T (sI T 76 i x) := ⟨Om.sI (Or.inl rfl), fun j hj => mi_sI_o (by omega)⟩
theorem Pf.at {a : Nat} (h : Pf C C') (ha : a = 0 ∨ a = 2 ∨ 7 ≤ a) : mi C' a = mi C a := h.1.at (by omega)
theorem Pt.at {a : Nat} (h : Pt T T') (ha : a ≠ 76 ∧ (a < 136 ∨ 195 < a)) : mi T' a = mi T a := h.1.at (by omega)
/-- how many codes the class has, at most 200 -/
def KB6 (C : Mm) : Prop := ∃ c : Nat, c ≤ 200 ∧ mi C 3 4 = Int32.ofNat c
theorem KB6.of (h : KB6 C) (e : mi C' 3 = mi C 3) : KB6 C' := by unfold KB6; rw [e]; exact h
/-! programs on both sides -/
def Blk (K Nn E : Nat → Int32) (S : Nat → Nat → Int32) (w h : Nat) : Nat → Nat → Nat → Nat → Nat → Prop
  | 0, i, i', j, j' => i' = i ∧ j' = j
  | n + 1, i, i', j, j' => (i' = i ∧ j' = j) ∨
      (∃ kd : Nat, kd < 7 ∧ K i = Int32.ofNat kd ∧ S j 0 = Int32.ofNat kd ∧ S j 2 = Int32.ofNat (j + 1) ∧ ((kd = 0 ∨ kd = 1 ∨ kd = 5) → ∃ c : Nat, c % 8 < w ∧ c / 8 < h ∧ Nn i = Int32.ofNat c ∧ S j 1 = Int32.ofNat c) ∧ Blk K Nn E S w h n (i + 1) i' (j + 1) j') ∨
      (∃ N i2 j2 : Nat, N ≤ 20 ∧ (K i = 7 ∧ S j 0 = 7 ∧ Nn i = Int32.ofNat N ∧ S j 1 = Int32.ofNat N ∧ S j 2 = Int32.ofNat j2 ∧ E i = Int32.ofNat i2) ∧ (K i2 = 8 ∧ Nn i2 = Int32.ofNat i) ∧ Blk K Nn E S w h n (i + 1) i2 (j + 1) j2 ∧ Blk K Nn E S w h n (i2 + 1) i' j2 j')
section BK
variable {K Nn E K' Nn' E' : Nat → Int32} {S S' : Nat → Nat → Int32}
theorem blk_nil : Blk K Nn E S w h n i i j j := by
  cases n with
  | zero => exact ⟨rfl, rfl⟩
  | succ n => exact Or.inl ⟨rfl, rfl⟩
theorem blk_le : ∀ n i i' j j', Blk K Nn E S w h n i i' j j' → i ≤ i' ∧ j ≤ j' := by
  intro n
  induction n with
  | zero =>
    rintro i i' j j' ⟨e1, e2⟩
    omega
  | succ n ih =>
    rintro i i' j j' (⟨e1, e2⟩ | ⟨kd, -, -, -, -, -, hb⟩ | ⟨N, i2, j2, -, -, -, h1, h2⟩)
    · omega
    · have := ih _ _ _ _ hb
      omega
    · have a1 := ih _ _ _ _ h1
      have a2 := ih _ _ _ _ h2
      omega
theorem blk_up : ∀ n i i' j j', Blk K Nn E S w h n i i' j j' → Blk K Nn E S w h (n + 1) i i' j j' := by
  intro n
  induction n with
  | zero =>
    rintro i i' j j' ⟨e1, e2⟩
    exact Or.inl ⟨e1, e2⟩
  | succ n ih =>
    rintro i i' j j' (e | ⟨kd, k1, k2, k3, k4, k5, hb⟩ | ⟨N, i2, j2, g1, g2, g3, h1, h2⟩)
    · exact Or.inl e
    · exact Or.inr (Or.inl ⟨kd, k1, k2, k3, k4, k5, ih _ _ _ _ hb⟩)
    · exact Or.inr (Or.inr ⟨N, i2, j2, g1, g2, g3, ih _ _ _ _ h1, ih _ _ _ _ h2⟩)
theorem blk_add (d : Nat) (hB : Blk K Nn E S w h n i i' j j') : Blk K Nn E S w h (n + d) i i' j j' := by
  induction d with
  | zero => exact hB
  | succ d ih => exact blk_up _ _ _ _ _ ih
theorem blk_app {i1 j1 : Nat} : ∀ n i j, Blk K Nn E S w h n i i1 j j1 → Blk K Nn E S w h m i1 i' j1 j' → Blk K Nn E S w h (n + m) i i' j j' := by
  intro n
  induction n with
  | zero =>
    rintro i j ⟨e1, e2⟩ hm
    rw [e1, e2] at hm
    rw [Nat.zero_add]
    exact hm
  | succ n ih =>
    intro i j hn hm
    rw [show n + 1 + m = (n + m) + 1 by omega]
    rcases hn with ⟨e1, e2⟩ | ⟨kd, k1, k2, k3, k4, k5, hb⟩ | ⟨N, i2, j2, g1, g2, g3, h1, h2⟩
    · rw [e1, e2] at hm
      have := blk_add (n + 1) hm
      rw [show m + (n + 1) = n + m + 1 by omega] at this
      exact this
    · exact Or.inr (Or.inl ⟨kd, k1, k2, k3, k4, k5, ih _ _ hb hm⟩)
    · exact Or.inr (Or.inr ⟨N, i2, j2, g1, g2, g3, blk_add m h1, ih _ _ h2 hm⟩)
theorem blk_congr : ∀ n i i' j j', (∀ t, i ≤ t → t < i' → K' t = K t ∧ Nn' t = Nn t ∧ E' t = E t) → (∀ t, j ≤ t → t < j' → S' t = S t) → Blk K Nn E S w h n i i' j j' → Blk K' Nn' E' S' w h n i i' j j' := by
  intro n
  induction n with
  | zero => exact fun _ _ _ _ _ _ hB => hB
  | succ n ih =>
    rintro i i' j j' hc hs (e | ⟨kd, k1, k2, k3, k4, k5, hb⟩ | ⟨N, i2, j2, g1, ⟨g2, g3, g4, g5, g6, g7⟩, ⟨g8, g9⟩, h1, h2⟩)
    · exact Or.inl e
    · have l := blk_le _ _ _ _ _ hb
      obtain ⟨c1, c2, c3⟩ := hc i (by omega) (by omega)
      have c4 := hs j (by omega) (by omega)
      exact Or.inr (Or.inl ⟨kd, k1, c1.trans k2, by rw [c4]; exact k3, by rw [c4]; exact k4, by rw [c2, c4]; exact k5, ih _ _ _ _ (fun t t1 t2 => hc t (by omega) t2) (fun t t1 t2 => hs t (by omega) t2) hb⟩)
    · have l1 := blk_le _ _ _ _ _ h1
      have l2 := blk_le _ _ _ _ _ h2
      obtain ⟨c1, c2, c3⟩ := hc i (by omega) (by omega)
      obtain ⟨d1, d2, d3⟩ := hc i2 (by omega) (by omega)
      have c4 := hs j (by omega) (by omega)
      exact Or.inr (Or.inr ⟨N, i2, j2, g1, ⟨c1.trans g2, by rw [c4]; exact g3, c2.trans g4, by rw [c4]; exact g5, by rw [c4]; exact g6, c3.trans g7⟩, ⟨d1.trans g8, d2.trans g9⟩, ih _ _ _ _ (fun t t1 t2 => hc t (by omega) (by omega)) (fun t t1 t2 => hs t (by omega) (by omega)) h1, ih _ _ _ _ (fun t t1 t2 => hc t (by omega) t2) (fun t t1 t2 => hs t (by omega) t2) h2⟩)
end BK
/-- the program in these memories -/
def BlkM (w h : Nat) (C T : Mm) (n i i' j j' : Nat) : Prop := Blk (mi C 4) (mi C 5) (mi C 6) (fun t => mi T (136 + t)) w h n i i' j j'
/-- what stood before stays -/
def KP (cc ct : Nat) (C C' T T' : Mm) : Prop := (∀ t, t < cc → mi C' 4 t = mi C 4 t ∧ mi C' 5 t = mi C 5 t ∧ mi C' 6 t = mi C 6 t) ∧ ∀ t, t < ct → mi T' (136 + t) = mi T (136 + t)
theorem KP.refl : KP cc ct C C T T := ⟨fun _ _ => ⟨rfl, rfl, rfl⟩, fun _ _ => rfl⟩
theorem KP.trans {c1 t1 : Nat} {C2 T2 : Mm} (h1 : KP cc ct C C' T T') (h2 : KP c1 t1 C' C2 T' T2) (hc : cc ≤ c1) (ht : ct ≤ t1) : KP cc ct C C2 T T2 := ⟨fun t h9 => ⟨(h2.1 t (by omega)).1.trans (h1.1 t h9).1, (h2.1 t (by omega)).2.1.trans (h1.1 t h9).2.1, (h2.1 t (by omega)).2.2.trans (h1.1 t h9).2.2⟩, fun t h9 => (h2.2 t (by omega)).trans (h1.2 t h9)⟩
theorem KP.blk {n i i' j j' : Nat} (h9 : KP cc ct C C' T T') (hc : i' ≤ cc) (ht : j' ≤ ct) (hB : BlkM w h C T n i i' j j') : BlkM w h C' T' n i i' j j' := blk_congr n i i' j j' (fun t _ t2 => h9.1 t (by omega)) (fun t _ t2 => h9.2 t (by omega)) hB
/-! numbers and signs, with how far -/
theorem x_num3 {lo hi : Int32} (hb : TxB b) (g : GX b Q C T L p0) : ∃ v C' v' T', f_X7_readNumber lo hi C = some (v, C') ∧ f_X10_number lo hi T = some (v', T') ∧ CFr C C' ∧ TFr T T' ∧ GX b (Q ∧ v' = v ∧ lo ≤ v ∧ v ≤ hi) C' T' L (p0 + 1) := by
  rcases g with ⟨p, h1, h2, h3⟩ | ⟨f, fa, p, p', hf, x1, x2⟩
  · obtain ⟨v, C', v', T', e1, e2, c1, c2, h9⟩ := y_num (lo := lo) (hi := hi) hb h2
    refine ⟨v, C', v', T', e1, e2, c1, c2, ?_⟩
    rcases h9 with ⟨z1, z2, z3, -, -, p', z4, z5⟩ | ⟨-, z⟩
    · exact Or.inl ⟨p', by omega, z5, h3, z1, z2, z3⟩
    · exact Or.inr z
  · obtain ⟨v, C', p2, e1, c1, t1⟩ := k_num_f (lo := lo) (hi := hi) x1 hf
    exact ⟨v, C', 0, T, e1, m_num_f x2 hf, c1, TFr.refl, Or.inr ⟨f, fa, p2, p', hf, t1, x2⟩⟩
theorem x_sgn3 {x : Int32} (hb : TxB b) (hx : x ≠ -1) (g : GX b Q C T L p0) : ∃ C' T', f_X7_readSign x C = some C' ∧ f_X10_sign x T = some T' ∧ CFr C C' ∧ TFr T T' ∧ GX b Q C' T' L (p0 + 1) := by
  rcases g with ⟨p, h1, h2, h3⟩ | ⟨f, fa, p, p', hf, x1, x2⟩
  · obtain ⟨C', T', e1, e2, c1, c2, h9⟩ := y_sign hb hx h2
    refine ⟨C', T', e1, e2, c1, c2, ?_⟩
    rcases h9 with ⟨p', z4, z5⟩ | z
    · exact Or.inl ⟨p', by omega, z5, h3⟩
    · exact Or.inr z
  · obtain ⟨C', p2, e1, c1, t1⟩ := k_sign_f hx x1 hf
    exact ⟨C', T, e1, m_sign_f x2 hf, c1, TFr.refl, Or.inr ⟨f, fa, p2, p', hf, t1, x2⟩⟩
/-! what is put -/
theorem k_put6 {x y : Int32} (h4 : mi C 3 4 = Int32.ofNat cc) (hc : cc < 200) : f_X6_put x y C = some (sI (sI (sI C 4 cc x) 5 cc y) 3 4 (Int32.ofNat (cc + 1))) := by
  unfold f_X6_put
  rw [h4, if_neg (show ¬ (200 : Int32) ≤ Int32.ofNat cc from nle (n := 200) hc (by omega)), wi_o hc (by omega), bsome, mi_sI_ne (by omega), h4, wi_o hc (by omega), bsome, mi_sI_ne (by omega), mi_sI_ne (by omega), h4, oN_S]
def pu (C : Mm) (cc : Nat) (x y : Int32) : Mm := sI (sI (sI C 4 cc x) 5 cc y) 3 4 (Int32.ofNat (cc + 1))
theorem pu_f {x y : Int32} : Pf C (pu C cc x y) := ((Pf.s (by omega)).trans (Pf.s (by omega))).trans (Pf.s (by omega))
theorem pu_4 {x y : Int32} {t : Nat} : mi (pu C cc x y) 4 t = if t = cc then x else mi C 4 t := by unfold pu; rw [mi_sI_ne (by omega), mi_sI_ne (by omega), mi_sI, u1_at]
theorem pu_5 {x y : Int32} {t : Nat} : mi (pu C cc x y) 5 t = if t = cc then y else mi C 5 t := by unfold pu; rw [mi_sI_ne (by omega), mi_sI, u1_at, mi_sI_ne (by omega)]
theorem pu_6 {x y : Int32} : mi (pu C cc x y) 6 = mi C 6 := by unfold pu; rw [mi_sI_ne (by omega), mi_sI_ne (by omega), mi_sI_ne (by omega)]
theorem pu_n {x y : Int32} : mi (pu C cc x y) 3 4 = Int32.ofNat (cc + 1) := mi_sI_k
theorem pu_o {x y : Int32} {a : Nat} (ha : a < 3 ∨ 6 ≤ a) : mi (pu C cc x y) a = mi C a := by unfold pu; rw [mi_sI_ne (by omega), mi_sI_ne (by omega), mi_sI_ne (by omega)]
theorem k_put6b {x y : Int32} (hk : KB6 C) : ∃ C', f_X6_put x y C = some C' ∧ Pf C C' ∧ KB6 C' ∧ ∀ a, a < 3 → mi C' a = mi C a := by
  obtain ⟨c, c1, c2⟩ := hk
  by_cases h9 : c < 200
  · exact ⟨_, k_put6 c2 h9, pu_f, ⟨c + 1, by omega, pu_n⟩, fun a ha => pu_o (by omega)⟩
  · refine ⟨C, ?_, Pf.refl, ⟨c, c1, c2⟩, fun _ _ => rfl⟩
    unfold f_X6_put
    rw [c2, if_pos (show (200 : Int32) ≤ Int32.ofNat c from (oN_le (i := 200) (by omega) (by omega)).mpr (by omega))]
theorem gx_pu {x y : Int32} {Q' : Prop} (g : GX b Q C T L p0) (hQ : Q → Q') : GX b Q' (pu C cc x y) T L p0 := g.of (fun i _ _ => by rw [pu_o (by omega)]) (pu_o (by omega)) (fun _ _ => rfl) rfl hQ
theorem gx_ts {a i : Nat} {x : Int32} (g : GX b Q C T L p0) (ha : a ≠ 76 ∧ a ≠ 77) : GX b Q C (sI T a i x) L p0 := g.of (fun _ _ _ => rfl) rfl (fun j _ => by rw [mi_sI_ne (by omega)]) (by rw [mi_sI_ne (by omega)]) (fun q => q)
theorem gx_th {i : Nat} {x : Int32} (g : GX b Q C T L p0) (hi : i = 8 ∨ i = 25) : GX b Q C (sI T 76 i x) L p0 := g.of (fun _ _ _ => rfl) rfl (fun j _ => by rw [mi_sI_o (by omega)]) (by rw [mi_sI_ne (by omega)]) (fun q => q)
end SG9
