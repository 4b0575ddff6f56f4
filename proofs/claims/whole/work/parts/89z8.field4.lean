/-! level 3: a field's text: all clauses -/
section FH
variable {k : Nat} {M M2 : Mm} {q : Nat → Nat} {b : Nat → Int32} {C C' T T' N : Mm} {L p p0 p' a0 a2 n i j w h cl : Nat} {f fa lo hi v s x : Int32} {r0 r : Nat → Int32} {Q Q' : Prop}
/-! behind a fault -/
theorem k_j56f (hf : f ≠ 0) (t : TC b C L p f fa) : f_X3_readClause_j56 a0 a2 x C = some C := by
  unfold f_X3_readClause_j56
  rw [k_fine t, bsome, if_neg hf, if_pos z00]
theorem k_j38f {x3 : Int32} (hf : f ≠ 0) (t : TC b C L p f fa) : ∃ C', f_X3_readClause_j38 a0 a2 x3 x C = some C' ∧ CFr C C' ∧ TC b C' L p f fa := by
  unfold f_X3_readClause_j38
  by_cases h0 : x = 0
  · rw [if_pos h0]
    by_cases h1 : x3 ≤ 0
    · rw [if_pos h1, k_j56f hf t]
      exact ⟨C, rfl, CFr.refl, t⟩
    · obtain ⟨C1, e1, t1, c1, -⟩ := k_fail (x1 := 4) (x2 := mi C 1 4) t
      rw [if_neg hf, if_neg hf] at t1
      rw [if_neg h1, e1, bsome, k_j56f hf t1]
      exact ⟨C1, rfl, c1, t1⟩
  · rw [if_neg h0, k_j56f hf t]
    exact ⟨C, rfl, CFr.refl, t⟩
theorem k_j29f {x3 : Int32} (hf : f ≠ 0) (t : TC b C L p f fa) : ∃ C', f_X3_readClause_j29 a0 a2 x3 x C = some C' ∧ CFr C C' ∧ TC b C' L p f fa := by
  unfold f_X3_readClause_j29
  obtain ⟨C1, e1, t1, c1, -⟩ := k_fail (x1 := 3) (x2 := mi C 1 4) t
  rw [if_neg hf, if_neg hf] at t1
  obtain ⟨C2, e2, c2, t2⟩ := k_j38f (a0 := a0) (a2 := a2) (x := x) (x3 := x3) hf t1
  rw [e1, bsome, e2]
  exact ⟨C2, rfl, c1.trans c2, t2⟩
theorem k_j29o {x3 : Int32} (t : TC b C L p 0 (-1)) : ∃ C', f_X3_readClause_j29 a0 a2 x3 x C = some C' ∧ CFr C C' ∧ TC b C' L p 3 (mi C 1 4) := by
  unfold f_X3_readClause_j29
  obtain ⟨C1, e1, t1, c1, -⟩ := k_fail (x1 := 3) (x2 := mi C 1 4) t
  rw [if_pos rfl, if_pos rfl] at t1
  obtain ⟨C2, e2, c2, t2⟩ := k_j38f (a0 := a0) (a2 := a2) (x := x) (x3 := x3) (by decide) t1
  rw [e1, bsome, e2]
  exact ⟨C2, rfl, c1.trans c2, t2⟩
theorem m_j195f (hf : f ≠ 0) (t : TT b T L p f fa) : f_X10_clause_j195 x T = some T := by
  unfold f_X10_clause_j195
  rw [t.1.2.2.2.2.1, if_neg hf]
theorem m_j163o (t : TT b T L p 0 (-1)) : ∃ T', f_X10_clause_j163 x T = some T' ∧ TFr T T' ∧ TT b T' L p 3 (Int32.ofNat p) := by
  unfold f_X10_clause_j163
  obtain ⟨T1, e1, t1, c1⟩ := m_wrong (x1 := 3) (x2 := mi T 76 4) t
  rw [if_pos rfl, if_pos rfl, t.1.2.2.2.1] at t1
  rw [e1, bsome, m_j195f (by decide) t1]
  exact ⟨T1, rfl, c1, t1⟩
/-- a clause of which the word is read -/
theorem y_body (hb : TxB b) (hr : ∀ j, j < 415 → r0 j = 0) (h0 : 2 < a0 ∧ a0 + 1 < a2 ∧ a2 + 7 < 76) (hcl : cl < 60) (hj : j ≤ 5) (hj0 : j = 0 → n = 0) (hj1 : j = 1 → n < 30) (hp : p < we b L p) (t1 : TC b C L (we b L p) 0 (-1)) (u1 : TT b T L p 0 (-1)) (s : FSt a0 a2 r0 cl n w h C T) : ∃ C' T', f_X3_readClause_j56 a0 a2 (Int32.ofNat j) C = some C' ∧ f_X10_clause_j195 (Int32.ofNat j) T = some T' ∧ FcR a0 a2 C C' ∧ FtR T T' ∧ GX b (∃ n' w' h', FSt a0 a2 r0 (cl + 1) n' w' h' C' T') C' T' L p := by
  obtain ⟨T2, e2, t2, c2⟩ := m_skipWord u1
  have e7 : mi T2 76 7 = Int32.ofNat cl := (c2.2 7 (by omega)).trans s.2.2.2.1.2.2
  have s2 : FSt a0 a2 r0 (cl + 1) n w h C (sI T2 76 7 (Int32.ofNat (cl + 1))) := (s.of (C' := C) (T' := T2) (fun _ _ => rfl) (fun a ha => c2.1.at (by omega)) (c2.2 7 (by omega))).cl1
  have g : GX b True C (sI T2 76 7 (Int32.ofNat (cl + 1))) L p := Or.inl ⟨we b L p, hp, ⟨t1, t2.of (fun i hi => mi_sI_o (by omega)) (mi_sI_ne (by omega))⟩, trivial⟩
  have ft : FtR T (sI T2 76 7 (Int32.ofNat (cl + 1))) := c2.ft.trans ⟨Om.sI (Or.inl rfl), fun i hi => mi_sI_o (by omega)⟩
  have fin : ∀ {A B : Option Mm}, (∃ C' T', A = some C' ∧ B = some T' ∧ FcR a0 a2 C C' ∧ FtR (sI T2 76 7 (Int32.ofNat (cl + 1))) T' ∧ GX b (∃ n' w' h', FSt a0 a2 r0 (cl + 1) n' w' h' C' T') C' T' L p) → (∃ C' T', A = some C' ∧ B = some T' ∧ FcR a0 a2 C C' ∧ FtR T T' ∧ GX b (∃ n' w' h', FSt a0 a2 r0 (cl + 1) n' w' h' C' T') C' T' L p) := fun ⟨C', T', z1, z2, z3, z4, z5⟩ => ⟨C', T', z1, z2, z3, ft.trans z4, z5⟩
  unfold f_X3_readClause_j56 f_X10_clause_j195
  rw [k_fine t1, bsome, if_pos rfl, if_neg z10, u1.1.2.2.2.2.1, if_pos rfl, e2, bsome, e7, oN_S]
  have hj9 : j = 0 ∨ j = 1 ∨ j = 2 ∨ j = 3 ∨ j = 4 ∨ j = 5 := by omega
  rcases hj9 with rfl | rfl | rfl | rfl | rfl | rfl
  · rw [if_pos (show Int32.ofNat 0 = 0 from rfl)]
    have hn0 := hj0 rfl
    subst hn0
    exact fin (y_field0 hb h0 s2 g)
  · rw [if_neg (show ¬ Int32.ofNat 1 = 0 by decide), if_pos (show Int32.ofNat 1 = 1 from rfl)]
    exact fin (y_stone hb hr h0 (hj1 rfl) (by have := s.2.2.2.1.2.1; omega) s2 g)
  · rw [if_neg (show ¬ Int32.ofNat 2 = 0 by decide), if_neg (show ¬ Int32.ofNat 2 = 1 by decide), if_pos (show Int32.ofNat 2 = 2 from rfl)]
    exact fin (y_soil hb h0 s2 g)
  · rw [if_neg (show ¬ Int32.ofNat 3 = 0 by decide), if_neg (show ¬ Int32.ofNat 3 = 1 by decide), if_neg (show ¬ Int32.ofNat 3 = 2 by decide), if_pos (show Int32.ofNat 3 = 3 from rfl)]
    exact fin (y_lads hb h0 s2 g)
  · rw [if_neg (show ¬ Int32.ofNat 4 = 0 by decide), if_neg (show ¬ Int32.ofNat 4 = 1 by decide), if_neg (show ¬ Int32.ofNat 4 = 2 by decide), if_neg (show ¬ Int32.ofNat 4 = 3 by decide), if_pos (show Int32.ofNat 4 = 4 from rfl)]
    exact fin (y_sledge hb h0 s2 g)
  · rw [if_neg (show ¬ Int32.ofNat 5 = 0 by decide), if_neg (show ¬ Int32.ofNat 5 = 1 by decide), if_neg (show ¬ Int32.ofNat 5 = 2 by decide), if_neg (show ¬ Int32.ofNat 5 = 3 by decide), if_neg (show ¬ Int32.ofNat 5 = 4 by decide)]
    exact fin (y_bar hb h0 s2 g)
theorem isW_we {lw : List Nat} (hp : p ≤ L) (h : isW b L p lw) (hl : lw.length ≠ 0) : p < we b L p := by
  have h1 := h.1
  have h2 : p ≤ we b L p := skp_ge hp
  omega
theorem fst_we : ∀ ws i v, (∀ lw ∈ ws, lw.length ≠ 0) → p ≤ L → fstW b L p ws i v → v ≠ -1 → p < we b L p := by
  intro ws
  induction ws with
  | nil => exact fun i v _ _ h h2 => absurd h h2
  | cons lw ws ih =>
    intro i v h hp h2 h3
    rcases h2 with ⟨a1, -⟩ | ⟨-, a2⟩
    · exact isW_we hp a1 (h lw (List.mem_cons_self ..))
    · exact ih (i + 1) v (fun l hl => h l (List.mem_cons_of_mem _ hl)) hp a2 h3
theorem y_clause (hb : TxB b) (hr : ∀ j, j < 415 → r0 j = 0) (h0 : 2 < a0 ∧ a0 + 1 < a2 ∧ a2 + 7 < 76) (hcl : cl ≤ 60) (hS : SY b C T L p) (hid : nb b L p = p) (s : FSt a0 a2 r0 cl n w h C T) : ∃ C' T', f_X3_readClause a0 a2 (Int32.ofNat cl) C = some C' ∧ f_X10_clause T = some T' ∧ FcR a0 a2 C C' ∧ FtR T T' ∧ GX b (∃ n' w' h', FSt a0 a2 r0 (cl + 1) n' w' h' C' T') C' T' L p := by
  obtain ⟨ws1, ws2, ws3⟩ := wsF_ok
  have hpL := hS.1.1.2.1
  obtain ⟨v, C1, e1, c1, k4, hw, hv⟩ := k_word (t := 0) (ws := wsF) ws1 ws2 ws3 hS.1
  rw [hid] at k4 hw hv
  obtain ⟨T1, v', g1, d1, u1, hw', hv'⟩ := m_clw hb hS.2 hid
  have hvv := fst_un _ _ _ _ hw hw'
  subst hvv
  have s1 : FSt a0 a2 r0 cl n w h C1 T1 := s.of (fun a ha => c1.1.at (by omega)) (fun a ha => d1.1.at (by omega)) (d1.2 7 (by omega))
  obtain ⟨hVn, hNn, -⟩ := rwT_vr hr s.1.1 n (by have := s.2.2.2.1.1; omega) s.2.2.2.2.1
  have h8 : mi C1 a2 8 = Int32.ofNat n := by
    rw [s1.2.2.2.2.2.1.1.1, rwT_c n (fun j hj => d1.1.at (by have := s.2.2.2.1.1; omega)), hVn.n, hNn]
  have h7 : mi T1 76 7 = Int32.ofNat cl := s1.2.2.2.1.2.2
  have hn30 := s1.2.2.2.1.1
  have hncl := s1.2.2.2.1.2.1
  rw [g1]
  unfold f_X3_readClause f_X10_clause_j120
  rw [e1, bsome]
  dsimp only
  rcases hv' with rfl | ⟨j, hj, rfl⟩
  · -- no word
    have t1 : TC b C1 L (we b L p) 1 (Int32.ofNat p) := by
      rcases hv with ⟨j, j9, z, -⟩ | ⟨-, z⟩
      · exact absurd z (fun z => oN_nn (i := j) (by omega) (by rw [← z]; decide))
      · exact z
    obtain ⟨T2, g2, u2, d2⟩ := m_wrong (x1 := 1) (x2 := mi T1 76 4) u1
    rw [if_pos rfl, if_pos rfl, u1.1.2.2.2.1] at u2
    rw [if_pos (show (-1 : Int32) = -1 from rfl), g2, bsome, m_j195f (by decide) u2, if_neg (show ¬ (-1 : Int32) = 1 by decide)]
    by_cases h6 : (60 : Int32) ≤ Int32.ofNat cl
    · obtain ⟨C2, e2, c2, t2⟩ := k_j29f (a0 := a0) (a2 := a2) (x := -1) (x3 := Int32.ofNat cl) (by decide) t1
      rw [if_pos h6, e2]
      exact ⟨C2, T2, rfl, rfl, (c1.trans c2).fc, (d1.trans d2).ft, Or.inr ⟨1, _, _, _, by decide, t2, u2⟩⟩
    · obtain ⟨C2, e2, c2, t2⟩ := k_j38f (a0 := a0) (a2 := a2) (x := -1) (x3 := Int32.ofNat cl) (by decide) t1
      rw [if_neg h6, e2]
      exact ⟨C2, T2, rfl, rfl, (c1.trans c2).fc, (d1.trans d2).ft, Or.inr ⟨1, _, _, _, by decide, t2, u2⟩⟩
  · have t1 : TC b C1 L (we b L p) 0 (-1) := by
      rcases hv with ⟨j', -, -, z⟩ | ⟨z, -⟩
      · exact z
      · exact absurd z (fun z => oN_nn (i := j) (by omega) (by rw [z]; decide))
    have hne : ¬ Int32.ofNat j = -1 := fun z => oN_nn (i := j) (by omega) (by rw [z]; decide)
    have hwe := fst_we wsF 0 _ (by decide) hpL hw hne
    have hj1 : Int32.ofNat j = 1 ↔ j = 1 := ⟨fun z => (oN_eq (j := 1) (by omega) (by omega)).mp z, fun z => by rw [z]; rfl⟩
    have hj0 : Int32.ofNat j = 0 ↔ j = 0 := ⟨fun z => (oN_eq (j := 0) (by omega) (by omega)).mp z, fun z => by rw [z]; rfl⟩
    -- fault 3 on both sides
    have bad3 : ∃ C' T', f_X3_readClause_j29 a0 a2 (Int32.ofNat cl) (Int32.ofNat j) C1 = some C' ∧ f_X10_clause_j163 (Int32.ofNat j) T1 = some T' ∧ FcR a0 a2 C C' ∧ FtR T T' ∧ GX b (∃ n' w' h', FSt a0 a2 r0 (cl + 1) n' w' h' C' T') C' T' L p := by
      obtain ⟨C2, e2, c2, t2⟩ := k_j29o (a0 := a0) (a2 := a2) (x := Int32.ofNat j) (x3 := Int32.ofNat cl) t1
      obtain ⟨T2, g2, d2, u2⟩ := m_j163o (x := Int32.ofNat j) u1
      rw [k4] at t2
      exact ⟨C2, T2, e2, g2, (c1.trans c2).fc, (d1.trans d2).ft, Or.inr ⟨3, _, _, _, by decide, t2, u2⟩⟩
    -- the next question: the field's place
    have go : cl < 60 → (j = 1 → n < 30) → ∃ C' T', f_X3_readClause_j38 a0 a2 (Int32.ofNat cl) (Int32.ofNat j) C1 = some C' ∧ f_X10_clause_j175 (Int32.ofNat j) T1 = some T' ∧ FcR a0 a2 C C' ∧ FtR T T' ∧ GX b (∃ n' w' h', FSt a0 a2 r0 (cl + 1) n' w' h' C' T') C' T' L p := by
      intro h60 hj30
      unfold f_X3_readClause_j38 f_X10_clause_j175
      rw [h7]
      have ok : (j = 0 → n = 0) → ∃ C' T', f_X3_readClause_j56 a0 a2 (Int32.ofNat j) C1 = some C' ∧ f_X10_clause_j195 (Int32.ofNat j) T1 = some T' ∧ FcR a0 a2 C C' ∧ FtR T T' ∧ GX b (∃ n' w' h', FSt a0 a2 r0 (cl + 1) n' w' h' C' T') C' T' L p := fun hz => by
        obtain ⟨C2, T2, z1, z2, z3, z4, z5⟩ := y_body hb hr h0 h60 hj hz hj30 hwe t1 u1 s1
        exact ⟨C2, T2, z1, z2, c1.fc.trans z3, d1.ft.trans z4, z5⟩
      by_cases hz : j = 0
      · rw [if_pos (hj0.mpr hz), if_pos (hj0.mpr hz)]
        by_cases hc : cl = 0
        · have hle : Int32.ofNat cl ≤ 0 := by rw [hc]; exact le_rf _
          rw [if_pos hle, if_pos hle]
          exact ok (fun _ => by omega)
        · have hle : ¬ Int32.ofNat cl ≤ 0 := nle (i := 0) (by omega) (by omega)
          rw [if_neg hle, if_neg hle]
          obtain ⟨C2, e2, t2, c2, -⟩ := k_fail (x1 := 4) (x2 := mi C1 1 4) t1
          obtain ⟨T2, g2, u2, d2⟩ := m_wrong (x1 := 4) (x2 := mi T1 76 4) u1
          rw [if_pos rfl, if_pos rfl, k4] at t2
          rw [if_pos rfl, if_pos rfl, u1.1.2.2.2.1] at u2
          rw [e2, bsome, k_j56f (by decide) t2, g2, bsome, m_j195f (by decide) u2]
          exact ⟨C2, T2, rfl, rfl, (c1.trans c2).fc, (d1.trans d2).ft, Or.inr ⟨4, _, _, _, by decide, t2, u2⟩⟩
      · rw [if_neg (fun z => hz (hj0.mp z)), if_neg (fun z => hz (hj0.mp z))]
        exact ok (fun z => absurd z hz)
    rw [if_neg hne, h7]
    by_cases h6 : cl = 60
    · rw [if_pos (show (60 : Int32) ≤ Int32.ofNat cl by rw [h6]; exact le_rf _), if_pos (show Int32.ofNat cl = 60 by rw [h6]; rfl)]
      exact bad3
    · rw [if_neg (show ¬ (60 : Int32) ≤ Int32.ofNat cl from nle (n := 60) (by omega) (by omega)), if_neg (show ¬ Int32.ofNat cl = 60 from fun z => h6 ((oN_eq (j := 60) (by omega) (by omega)).mp z))]
      by_cases h1 : j = 1
      · rw [if_pos (hj1.mpr h1), if_pos (hj1.mpr h1), ai_2 (by omega), bsome, s1.1.2.1.2.2, h8]
        by_cases h30 : n < 30
        · rw [if_pos (show Int32.ofNat n < 30 from (oN_lt (j := 30) (by omega) (by omega)).mpr h30), if_neg (show ¬ Int32.ofNat n = 30 from fun z => by have := (oN_eq (j := 30) (by omega) (by omega)).mp z; omega)]
          exact go (by omega) (fun _ => h30)
        · have : n = 30 := by omega
          subst this
          rw [if_neg (show ¬ Int32.ofNat 30 < 30 by decide), if_pos (show Int32.ofNat 30 = 30 from rfl)]
          exact bad3
      · rw [if_neg (fun z => h1 (hj1.mp z)), if_neg (fun z => h1 (hj1.mp z))]
        exact go (by omega) (fun z => absurd z h1)
/-- all clauses -/
theorem y_clauses (hb : TxB b) (hr : ∀ j, j < 415 → r0 j = 0) (h0 : 2 < a0 ∧ a0 + 1 < a2 ∧ a2 + 7 < 76) : ∀ d cl p kc kt C T n w h, cl + d = 60 → d + 2 ≤ kc → d + 2 ≤ kt → TC b C L p 0 (-1) → TT b T L (nb b L p) 0 (-1) → FSt a0 a2 r0 cl n w h C T → ∃ C' T' e, whl kc (f_X3_readField_b10 a0 a2) (Int32.ofNat cl, C) = some C' ∧ whl kt f_X10_field_b42 T = some e ∧ e = T' ∧ FcR a0 a2 C C' ∧ FtR T T' ∧ ((∃ p1 cl' n' w' h', TC b C' L p1 0 (-1) ∧ TT b T' L p1 0 (-1) ∧ FSt a0 a2 r0 cl' n' w' h' C' T') ∨ FL b C' T' L) := by
  intro d
  induction d with
  | zero =>
    intro cl p kc kt C T n w h hd hkc hkt h1 h2 s
    have : cl = 60 := by omega
    subst this
    obtain ⟨kc, rfl⟩ : ∃ k', kc = k' + 2 := ⟨kc - 2, by omega⟩
    obtain ⟨kt, rfl⟩ : ∃ k', kt = k' + 2 := ⟨kt - 2, by omega⟩
    have hid : nb b L (nb b L p) = nb b L p := nb_id h1.1.2.1
    have h60 : ¬ (60 : Int32) < Int32.ofNat 60 := by decide
    obtain ⟨C1, e1, t1, c1, -⟩ := k_next h1
    have s1 : FSt a0 a2 r0 60 n w h C1 T := s.of (fun a ha => c1.1.at (by omega)) (fun _ _ => rfl) rfl
    have hL := h2.1.1
    have hp2 := h2.1.2.1
    by_cases hp : nb b L p < L
    · obtain ⟨C2, T2, z1, z2, z3, z4, z5⟩ := y_clause hb hr h0 (Nat.le_refl 60) ⟨t1, h2⟩ hid s1
      have stepC : f_X3_readField_b10 a0 a2 (Int32.ofNat 60, C) = some (.inl (Int32.ofNat 61, C2)) := by
        unfold f_X3_readField_b10
        dsimp only
        rw [if_neg h60, k_fine h1, bsome, if_pos rfl, if_neg z10, e1, bsome]
        dsimp only
        rw [if_neg (fun z => (bL_1 hb).mp z hp), z1, bsome, oN_S]
      have stop61 : f_X3_readField_b10 a0 a2 (Int32.ofNat 61, C2) = some (.inr C2) := by
        unfold f_X3_readField_b10
        dsimp only
        rw [if_pos (show (60 : Int32) < Int32.ofNat 61 by decide)]
      have hfl : FL b C2 T2 L := by
        rcases z5 with ⟨p3, z6, z7, n', w', h', z8⟩ | z5
        · -- sixty and one cannot stand: the count says so
          exfalso
          have a1 := z8.2.2.2.1.2.2
          obtain ⟨ws1, ws2, ws3⟩ := wsF_ok
          obtain ⟨v, C3, k1, kc3, k4, kw, kv⟩ := k_word (t := 0) (ws := wsF) ws1 ws2 ws3 t1
          rw [hid] at k4
          unfold f_X3_readClause at z1
          rw [k1, bsome] at z1
          dsimp only at z1
          rw [if_pos (show (60 : Int32) ≤ Int32.ofNat 60 by decide)] at z1
          rcases kv with ⟨j, -, -, kt9⟩ | ⟨-, kt9⟩
          · obtain ⟨C4, m1, m2, m3⟩ := k_j29o (a0 := a0) (a2 := a2) (x := v) (x3 := Int32.ofNat 60) kt9
            have := Option.some.inj (m1.symm.trans z1)
            subst this
            exact absurd (m3.1.2.2.2.2.1.symm.trans z7.1.1.2.2.2.2.1) (by decide)
          · rw [if_pos rfl, if_pos rfl] at kt9
            obtain ⟨C4, m1, m2, m3⟩ := k_j29f (a0 := a0) (a2 := a2) (x := v) (x3 := Int32.ofNat 60) (by decide) kt9
            have := Option.some.inj (m1.symm.trans z1)
            subst this
            exact absurd (m3.1.2.2.2.2.1.symm.trans z7.1.1.2.2.2.2.1) (by decide)
        · exact z5
      obtain ⟨f, fa, p3, p4, hf, x1, x2⟩ := hfl
      obtain ⟨T3, g3, u3, d3⟩ := m_blanks hb x2
      refine ⟨C2, T3, T3, ?_, ?_, rfl, c1.fc.trans z3, z4.trans d3.ft, Or.inr ⟨f, fa, p3, _, hf, x1, u3⟩⟩
      · rw [whl_s stepC]
        exact whl_e stop61
      · rw [whl_s (s' := T3) (by
          unfold f_X10_field_b42
          rw [h2.1.2.2.2.2.1, if_pos rfl, h2.1.2.2.1, h2.1.2.2.2.1, if_neg (nle hp (by omega)), z2, bsome, g3, bsome])]
        exact whl_e (by
          unfold f_X10_field_b42
          rw [u3.1.2.2.2.2.1, if_neg hf])
    · have hpe : nb b L p = L := by omega
      refine ⟨C1, T, T, ?_, ?_, rfl, c1.fc, FtR.refl, Or.inl ⟨_, 60, n, w, h, t1, h2, s1⟩⟩
      · refine whl_e ?_
        unfold f_X3_readField_b10
        dsimp only
        rw [if_neg h60, k_fine h1, bsome, if_pos rfl, if_neg z10, e1, bsome]
        dsimp only
        rw [if_pos ((bL_1 hb).mpr hp)]
      · refine whl_e ?_
        unfold f_X10_field_b42
        rw [h2.1.2.2.2.2.1, if_pos rfl, h2.1.2.2.1, h2.1.2.2.2.1, if_pos ((oN_le (by omega) (by omega)).mpr (by omega))]
  | succ d ih =>
    intro cl p kc kt C T n w h hd hkc hkt h1 h2 s
    obtain ⟨kc, rfl⟩ : ∃ k', kc = k' + 1 := ⟨kc - 1, by omega⟩
    obtain ⟨kt, rfl⟩ : ∃ k', kt = k' + 1 := ⟨kt - 1, by omega⟩
    have hid : nb b L (nb b L p) = nb b L p := nb_id h1.1.2.1
    have h60 : ¬ (60 : Int32) < Int32.ofNat cl := fun z => lnle z ((oN_le (i := cl) (j := 60) (by omega) (by omega)).mpr (by omega))
    obtain ⟨C1, e1, t1, c1, -⟩ := k_next h1
    have s1 : FSt a0 a2 r0 cl n w h C1 T := s.of (fun a ha => c1.1.at (by omega)) (fun _ _ => rfl) rfl
    have hL := h2.1.1
    have hp2 := h2.1.2.1
    by_cases hp : nb b L p < L
    · obtain ⟨C2, T2, z1, z2, z3, z4, z5⟩ := y_clause hb hr h0 (show cl ≤ 60 by omega) ⟨t1, h2⟩ hid s1
      have stepC : f_X3_readField_b10 a0 a2 (Int32.ofNat cl, C) = some (.inl (Int32.ofNat (cl + 1), C2)) := by
        unfold f_X3_readField_b10
        dsimp only
        rw [if_neg h60, k_fine h1, bsome, if_pos rfl, if_neg z10, e1, bsome]
        dsimp only
        rw [if_neg (fun z => (bL_1 hb).mp z hp), z1, bsome, oN_S]
      rcases z5 with ⟨p3, z6, z7, n', w', h', z8⟩ | ⟨f, fa, p3, p4, hf, x1, x2⟩
      · obtain ⟨T3, g3, u3, d3⟩ := m_blanks hb z7.2
        obtain ⟨C4, T4, e4, y1, y2, y3, y4, y5, y6⟩ := ih (cl + 1) p3 kc kt C2 T3 n' w' h' (by omega) (by omega) (by omega) z7.1 u3 (z8.of (fun _ _ => rfl) (fun a ha => d3.1.at (by omega)) (d3.2 7 (by omega)))
        refine ⟨C4, T4, e4, ?_, ?_, y3, (c1.fc.trans z3).trans y4, (z4.trans d3.ft).trans y5, y6⟩
        · rw [whl_s stepC]
          exact y1
        · rw [whl_s (s' := T3) (by
            unfold f_X10_field_b42
            rw [h2.1.2.2.2.2.1, if_pos rfl, h2.1.2.2.1, h2.1.2.2.2.1, if_neg (nle hp (by omega)), z2, bsome, g3, bsome])]
          exact y2
      · obtain ⟨T3, g3, u3, d3⟩ := m_blanks hb x2
        obtain ⟨kc, rfl⟩ : ∃ k', kc = k' + 1 := ⟨kc - 1, by omega⟩
        obtain ⟨kt, rfl⟩ : ∃ k', kt = k' + 1 := ⟨kt - 1, by omega⟩
        refine ⟨C2, T3, T3, ?_, ?_, rfl, c1.fc.trans z3, z4.trans d3.ft, Or.inr ⟨f, fa, p3, _, hf, x1, u3⟩⟩
        · rw [whl_s stepC]
          refine whl_e ?_
          unfold f_X3_readField_b10
          dsimp only
          by_cases h9 : (60 : Int32) < Int32.ofNat (cl + 1)
          · rw [if_pos h9]
          · rw [if_neg h9, k_fine x1, bsome, if_neg hf, if_pos z00]
        · rw [whl_s (s' := T3) (by
            unfold f_X10_field_b42
            rw [h2.1.2.2.2.2.1, if_pos rfl, h2.1.2.2.1, h2.1.2.2.2.1, if_neg (nle hp (by omega)), z2, bsome, g3, bsome])]
          exact whl_e (by
            unfold f_X10_field_b42
            rw [u3.1.2.2.2.2.1, if_neg hf])
    · have hpe : nb b L p = L := by omega
      refine ⟨C1, T, T, ?_, ?_, rfl, c1.fc, FtR.refl, Or.inl ⟨_, cl, n, w, h, t1, h2, s1⟩⟩
      · refine whl_e ?_
        unfold f_X3_readField_b10
        dsimp only
        rw [if_neg h60, k_fine h1, bsome, if_pos rfl, if_neg z10, e1, bsome]
        dsimp only
        rw [if_pos ((bL_1 hb).mpr hp)]
      · refine whl_e ?_
        unfold f_X10_field_b42
        rw [h2.1.2.2.2.2.1, if_pos rfl, h2.1.2.2.1, h2.1.2.2.2.1, if_pos ((oN_le (by omega) (by omega)).mpr (by omega))]
end FH
