/-! level 3: the text: reading bytes -/
section TA
variable {b : Nat → Int32} {C C' T T' : Mm} {L p : Nat} {f fa : Int32}
def TxB (b : Nat → Int32) : Prop := ∀ i, ∃ n : Nat, n < 256 ∧ b i = Int32.ofNat n
def TC (b : Nat → Int32) (C : Mm) (L p : Nat) (f fa : Int32) : Prop := (L ≤ 600 ∧ p ≤ L ∧ mi C 1 2 = Int32.ofNat L ∧ mi C 1 3 = Int32.ofNat p ∧ mi C 1 5 = f ∧ mi C 1 6 = fa) ∧ ∀ i, i < 600 → mi C 2 i &&& 255 = b i
def TT (b : Nat → Int32) (T : Mm) (L p : Nat) (f fa : Int32) : Prop := (L ≤ 600 ∧ p ≤ L ∧ mi T 76 2 = Int32.ofNat L ∧ mi T 76 4 = Int32.ofNat p ∧ mi T 76 5 = f ∧ mi T 76 6 = fa) ∧ ∀ i, i < 600 → mi T 77 i = b i
def CFr (C C' : Mm) : Prop := Om (fun a => a = 1) C C' ∧ ∀ j, j < 3 → mi C' 1 j = mi C 1 j
def TFr (T T' : Mm) : Prop := Om (fun a => a = 76) T T' ∧ ∀ j, (j < 4 ∨ 6 < j) → mi T' 76 j = mi T 76 j
theorem CFr.refl : CFr C C := ⟨Om.refl, fun _ _ => rfl⟩
theorem TFr.refl : TFr T T := ⟨Om.refl, fun _ _ => rfl⟩
theorem CFr.trans {D : Mm} (h1 : CFr C C') (h2 : CFr C' D) : CFr C D := ⟨h1.1.trans h2.1, fun j hj => (h2.2 j hj).trans (h1.2 j hj)⟩
theorem TFr.trans {D : Mm} (h1 : TFr T T') (h2 : TFr T' D) : TFr T D := ⟨h1.1.trans h2.1, fun j hj => (h2.2 j hj).trans (h1.2 j hj)⟩
theorem CFr.s {j : Nat} {x : Int32} (hj : 3 ≤ j) : CFr C (sI C 1 j x) := ⟨Om.sI rfl, fun i hi => mi_sI_o (by omega)⟩
theorem TFr.s {j : Nat} {x : Int32} (hj : 4 ≤ j ∧ j ≤ 6) : TFr T (sI T 76 j x) := ⟨Om.sI rfl, fun i hi => mi_sI_o (by omega)⟩
theorem TC.pos {p' : Nat} (h : TC b C L p f fa) (hp : p' ≤ L) : TC b (sI C 1 3 (Int32.ofNat p')) L p' f fa := by
  obtain ⟨⟨h1, h2, h3, h4, h5, h6⟩, h7⟩ := h
  exact ⟨⟨h1, hp, by rw [mi_sI_o (by omega)]; exact h3, mi_sI_k, by rw [mi_sI_o (by omega)]; exact h5, by rw [mi_sI_o (by omega)]; exact h6⟩, fun i hi => by rw [mi_sI_ne (by omega)]; exact h7 i hi⟩
theorem TC.st {x : Int32} (h : TC b C L p f fa) : TC b (sI C 1 4 x) L p f fa := by
  obtain ⟨⟨h1, h2, h3, h4, h5, h6⟩, h7⟩ := h
  exact ⟨⟨h1, h2, by rw [mi_sI_o (by omega)]; exact h3, by rw [mi_sI_o (by omega)]; exact h4, by rw [mi_sI_o (by omega)]; exact h5, by rw [mi_sI_o (by omega)]; exact h6⟩, fun i hi => by rw [mi_sI_ne (by omega)]; exact h7 i hi⟩
theorem TT.pos {p' : Nat} (h : TT b T L p f fa) (hp : p' ≤ L) : TT b (sI T 76 4 (Int32.ofNat p')) L p' f fa := by
  obtain ⟨⟨h1, h2, h3, h4, h5, h6⟩, h7⟩ := h
  exact ⟨⟨h1, hp, by rw [mi_sI_o (by omega)]; exact h3, mi_sI_k, by rw [mi_sI_o (by omega)]; exact h5, by rw [mi_sI_o (by omega)]; exact h6⟩, fun i hi => by rw [mi_sI_ne (by omega)]; exact h7 i hi⟩
/-- what lies apart from the tape may change -/
theorem TC.of (h : TC b C L p f fa) (h1 : ∀ j, 2 ≤ j → j ≤ 6 → mi C' 1 j = mi C 1 j) (h2 : mi C' 2 = mi C 2) : TC b C' L p f fa := by
  unfold TC at h ⊢
  rw [h1 2 (by omega) (by omega), h1 3 (by omega) (by omega), h1 5 (by omega) (by omega), h1 6 (by omega) (by omega), h2]
  exact h
theorem TT.of (h : TT b T L p f fa) (h1 : ∀ j, (j = 2 ∨ j = 4 ∨ j = 5 ∨ j = 6) → mi T' 76 j = mi T 76 j) (h2 : mi T' 77 = mi T 77) : TT b T' L p f fa := by
  unfold TT at h ⊢
  rw [h1 2 (by omega), h1 4 (by omega), h1 5 (by omega), h1 6 (by omega), h2]
  exact h
/-- the byte there, -1 at the end -/
def bL (b : Nat → Int32) (L p : Nat) : Int32 := if p < L then b p else -1
theorem k_byte (h : TC b C L p f fa) {i : Nat} (hi : i < 600) : f_X7_byteAt (Int32.ofNat i) C = some (b i) := by
  unfold f_X7_byteAt
  rw [if_neg (oN_nn (by omega)), if_neg (show ¬ (600 : Int32) ≤ Int32.ofNat i from nle (n := 600) hi (by omega)), ai_o hi (by omega), bsome, h.2 i hi]
theorem m_byte (h : TT b T L p f fa) {i : Nat} (hi : i < 10000) : f_X10_byteAt (Int32.ofNat i) T = some (bL b L i) := by
  have hL := h.1.1
  unfold f_X10_byteAt bL
  rw [h.1.2.2.1]
  by_cases h1 : i < L
  · rw [if_pos ((oN_lt (by omega) (by omega)).mpr h1), ai_o (by omega) (by omega), bsome, h.2 i (by omega), if_pos h1]
  · rw [if_neg (fun z => h1 ((oN_lt (by omega) (by omega)).mp z)), if_neg h1]
theorem b_ne (hb : TxB b) {i : Nat} : ¬ b i = -1 := by
  obtain ⟨n, n1, n2⟩ := hb i
  rw [n2]
  exact fun e => oN_nn (i := n) (by omega) (by rw [e]; decide)
theorem k_bL (h : TC b C L p f fa) : f_X7_next_j37 C = some (bL b L p, C) := by
  have hL := h.1.1
  have hp := h.1.2.1
  unfold f_X7_next_j37 bL
  rw [h.1.2.2.1, h.1.2.2.2.1]
  by_cases h1 : p < L
  · rw [if_neg (nle h1 (by omega)), k_byte h (by omega), bsome, if_pos h1]
  · rw [if_pos ((oN_le (by omega) (by omega)).mpr (by omega)), if_neg h1]
def scn (P : Int32 → Prop) [DecidablePred P] (b : Nat → Int32) : Nat → Nat → Nat
  | 0, p => p
  | d + 1, p => if P (b p) then scn P b d (p + 1) else p
/-- behind all from p on that are P -/
def skp (P : Int32 → Prop) [DecidablePred P] (b : Nat → Int32) (L p : Nat) : Nat := scn P b (L - p) p
section SK
theorem skp_e {P : Int32 → Prop} [DecidablePred P] {L p : Nat} (h : ¬ p < L) : skp P b L p = p := by unfold skp; rw [show L - p = 0 by omega]; rfl
theorem skp_y {P : Int32 → Prop} [DecidablePred P] {L p : Nat} (h : p < L) (hP : P (b p)) : skp P b L p = skp P b L (p + 1) := by
  unfold skp
  rw [show L - p = (L - (p + 1)) + 1 by omega]
  exact if_pos hP
theorem skp_n {P : Int32 → Prop} [DecidablePred P] {L p : Nat} (h : p < L) (hP : ¬ P (b p)) : skp P b L p = p := by
  unfold skp
  rw [show L - p = (L - (p + 1)) + 1 by omega]
  exact if_neg hP
theorem skp_ok {P : Int32 → Prop} [DecidablePred P] {L : Nat} : ∀ d p, L - p = d → p ≤ L → p ≤ skp P b L p ∧ skp P b L p ≤ L ∧ (skp P b L p < L → ¬ P (b (skp P b L p))) ∧ ∀ i, p ≤ i → i < skp P b L p → P (b i) := by
  intro d
  induction d with
  | zero =>
    intro p h1 h2
    rw [skp_e (by omega)]
    exact ⟨Nat.le_refl _, h2, fun z => by omega, fun i h3 h4 => by omega⟩
  | succ d ih =>
    intro p h1 h2
    by_cases hP : P (b p)
    · rw [skp_y (by omega) hP]
      obtain ⟨a, c, e, g⟩ := ih (p + 1) (by omega) (by omega)
      refine ⟨by omega, c, e, fun i h3 h4 => ?_⟩
      by_cases hi : i = p
      · rw [hi]; exact hP
      · exact g i (by omega) h4
    · rw [skp_n (by omega) hP]
      exact ⟨Nat.le_refl _, h2, fun _ => hP, fun i h3 h4 => by omega⟩
theorem skp_le {P : Int32 → Prop} [DecidablePred P] {L p : Nat} (h : p ≤ L) : skp P b L p ≤ L := (skp_ok (L - p) p rfl h).2.1
theorem skp_ge {P : Int32 → Prop} [DecidablePred P] {L p : Nat} (h : p ≤ L) : p ≤ skp P b L p := (skp_ok (L - p) p rfl h).1
theorem skp_at {P : Int32 → Prop} [DecidablePred P] {L p : Nat} (h : p ≤ L) (h2 : skp P b L p < L) : ¬ P (b (skp P b L p)) := (skp_ok (L - p) p rfl h).2.2.1 h2
theorem skp_in {P : Int32 → Prop} [DecidablePred P] {L p : Nat} (h : p ≤ L) : ∀ i, p ≤ i → i < skp P b L p → P (b i) := (skp_ok (L - p) p rfl h).2.2.2
theorem skp_id {P : Int32 → Prop} [DecidablePred P] {L p : Nat} (h : p ≤ L) : skp P b L (skp P b L p) = skp P b L p := by
  by_cases h1 : skp P b L p < L
  · exact skp_n h1 (skp_at h h1)
  · exact skp_e h1
/-- a loop of the class that goes on over P -/
theorem k_scan {P : Int32 → Prop} [DecidablePred P] {F : Mm → Option (Mm ⊕ Mm)} (hE : ∀ C p, TC b C L p f fa → (¬ p < L ∨ ¬ P (b p)) → F C = some (.inr C)) (hY : ∀ C p, TC b C L p f fa → p < L → P (b p) → F C = some (.inl (sI C 1 3 (mi C 1 3 + 1)))) : ∀ d p C k, L - p = d → d < k → TC b C L p f fa → ∃ C', whl k F C = some C' ∧ TC b C' L (skp P b L p) f fa ∧ CFr C C' ∧ mi C' 1 4 = mi C 1 4 := by
  intro d
  induction d with
  | zero =>
    intro p C k h1 h2 h
    obtain ⟨k, rfl⟩ : ∃ k', k = k' + 1 := ⟨k - 1, by omega⟩
    refine ⟨C, whl_e (hE C p h (Or.inl (by omega))), ?_, CFr.refl, rfl⟩
    rw [skp_e (by omega)]
    exact h
  | succ d ih =>
    intro p C k h1 h2 h
    obtain ⟨k, rfl⟩ : ∃ k', k = k' + 1 := ⟨k - 1, by omega⟩
    by_cases hP : P (b p)
    · have e := hY C p h (by omega) hP
      rw [h.1.2.2.2.1, oN_S] at e
      obtain ⟨C', a1, a2, a3, a4⟩ := ih (p + 1) _ k (by omega) (by omega) (h.pos (p' := p + 1) (by omega))
      refine ⟨C', by rw [whl_s e]; exact a1, ?_, (CFr.s (by omega)).trans a3, a4.trans (mi_sI_o (by omega))⟩
      rw [skp_y (by omega) hP]
      exact a2
    · refine ⟨C, whl_e (hE C p h (Or.inr hP)), ?_, CFr.refl, rfl⟩
      rw [skp_n (by omega) hP]
      exact h
theorem m_scan {P : Int32 → Prop} [DecidablePred P] {F : Mm → Option (Mm ⊕ Mm)} (hE : ∀ T p, TT b T L p f fa → (¬ p < L ∨ ¬ P (b p)) → F T = some (.inr T)) (hY : ∀ T p, TT b T L p f fa → p < L → P (b p) → F T = some (.inl (sI T 76 4 (mi T 76 4 + 1)))) : ∀ d p T k, L - p = d → d < k → TT b T L p f fa → ∃ T', whl k F T = some T' ∧ TT b T' L (skp P b L p) f fa ∧ TFr T T' := by
  intro d
  induction d with
  | zero =>
    intro p T k h1 h2 h
    obtain ⟨k, rfl⟩ : ∃ k', k = k' + 1 := ⟨k - 1, by omega⟩
    refine ⟨T, whl_e (hE T p h (Or.inl (by omega))), ?_, TFr.refl⟩
    rw [skp_e (by omega)]
    exact h
  | succ d ih =>
    intro p T k h1 h2 h
    obtain ⟨k, rfl⟩ : ∃ k', k = k' + 1 := ⟨k - 1, by omega⟩
    by_cases hP : P (b p)
    · have e := hY T p h (by omega) hP
      rw [h.1.2.2.2.1, oN_S] at e
      obtain ⟨T', a1, a2, a3⟩ := ih (p + 1) _ k (by omega) (by omega) (h.pos (p' := p + 1) (by omega))
      refine ⟨T', by rw [whl_s e]; exact a1, ?_, (TFr.s (by omega)).trans a3⟩
      rw [skp_y (by omega) hP]
      exact a2
    · refine ⟨T, whl_e (hE T p h (Or.inr hP)), ?_, TFr.refl⟩
      rw [skp_n (by omega) hP]
      exact h
end SK
abbrev isBl (x : Int32) : Prop := x = 32
/-- where the blanks end -/
def nb (b : Nat → Int32) (L p : Nat) : Nat := skp isBl b L p
theorem k_next (h : TC b C L p f fa) : ∃ C', f_X7_next C = some (bL b L (nb b L p), C') ∧ TC b C' L (nb b L p) f fa ∧ CFr C C' ∧ mi C' 1 4 = mi C 1 4 := by
  have hL := h.1.1
  obtain ⟨C', e1, e2, e3, e4⟩ := k_scan (P := isBl) (F := f_X7_next_b0) (L := L) (f := f) (fa := fa) (fun C p h hc => by
    have hL := h.1.1
    have hp := h.1.2.1
    unfold f_X7_next_b0
    rw [h.1.2.2.1, h.1.2.2.2.1]
    by_cases h1 : p < L
    · rw [if_neg (nle h1 (by omega)), k_byte h (by omega), bsome, if_neg (hc.resolve_left (fun z => z h1))]
    · rw [if_pos ((oN_le (by omega) (by omega)).mpr (by omega))]) (fun C p h h1 hP => by
    have hL := h.1.1
    unfold f_X7_next_b0
    rw [h.1.2.2.1, h.1.2.2.2.1, if_neg (nle h1 (by omega)), k_byte h (by omega), bsome, if_pos hP]) (L - p) p C fu rfl (by show L - p < 1000000; omega) h
  unfold f_X7_next
  rw [e1, bsome, k_bL e2]
  exact ⟨C', rfl, e2, e3, e4⟩
theorem m_blanks (hb : TxB b) (h : TT b T L p f fa) : ∃ T', f_X10_blanks T = some T' ∧ TT b T' L (nb b L p) f fa ∧ TFr T T' := by
  have hL := h.1.1
  obtain ⟨T', e1, e2, e3⟩ := m_scan (P := isBl) (F := f_X10_blanks_b0) (L := L) (f := f) (fa := fa) (fun T p h hc => by
    have hL := h.1.1
    have hp := h.1.2.1
    unfold f_X10_blanks_b0
    rw [h.1.2.2.2.1, m_byte h (by omega), bsome]
    unfold bL
    by_cases h1 : p < L
    · rw [if_pos h1, if_neg (hc.resolve_left (fun z => z h1))]
    · rw [if_neg h1, if_neg (show ¬ (-1 : Int32) = 32 by decide)]) (fun T p h h1 hP => by
    have hL := h.1.1
    unfold f_X10_blanks_b0
    rw [h.1.2.2.2.1, m_byte h (by omega), bsome]
    unfold bL
    rw [if_pos h1, if_pos hP]) (L - p) p T fu rfl (by show L - p < 1000000; omega) h
  unfold f_X10_blanks
  rw [e1]
  exact ⟨T', rfl, e2, e3⟩
theorem nb_le (h : p ≤ L) : nb b L p ≤ L := skp_le h
theorem nb_id (h : p ≤ L) : nb b L (nb b L p) = nb b L p := skp_id h
theorem nb_ge (h : p ≤ L) : p ≤ nb b L p := skp_ge h
/-! faults -/
theorem k_fail {x1 x2 : Int32} (h : TC b C L p f fa) : ∃ C', f_X7_fail x1 x2 C = some C' ∧ TC b C' L p (if f = 0 then x1 else f) (if f = 0 then x2 else fa) ∧ CFr C C' ∧ mi C' 1 4 = mi C 1 4 := by
  unfold f_X7_fail
  rw [h.1.2.2.2.2.1]
  by_cases h0 : f = 0
  · rw [if_pos h0, if_pos h0, if_pos h0]
    obtain ⟨⟨h1, h2, h3, h4, h5, h6⟩, h7⟩ := h
    exact ⟨_, rfl, ⟨⟨h1, h2, by rw [mi_sI_o (by omega), mi_sI_o (by omega)]; exact h3, by rw [mi_sI_o (by omega), mi_sI_o (by omega)]; exact h4, by rw [mi_sI_o (by omega), mi_sI_k], mi_sI_k⟩, fun i hi => by rw [mi_sI_ne (by omega), mi_sI_ne (by omega)]; exact h7 i hi⟩, (CFr.s (by omega)).trans (CFr.s (by omega)), by rw [mi_sI_o (by omega), mi_sI_o (by omega)]⟩
  · rw [if_neg h0, if_neg h0, if_neg h0]
    exact ⟨C, rfl, h, CFr.refl, rfl⟩
theorem m_wrong {x1 x2 : Int32} (h : TT b T L p f fa) : ∃ T', f_X10_wrong x1 x2 T = some T' ∧ TT b T' L p (if f = 0 then x1 else f) (if f = 0 then x2 else fa) ∧ TFr T T' := by
  unfold f_X10_wrong
  rw [h.1.2.2.2.2.1]
  by_cases h0 : f = 0
  · rw [if_pos h0, if_pos h0, if_pos h0]
    obtain ⟨⟨h1, h2, h3, h4, h5, h6⟩, h7⟩ := h
    exact ⟨_, rfl, ⟨⟨h1, h2, by rw [mi_sI_o (by omega), mi_sI_o (by omega)]; exact h3, by rw [mi_sI_o (by omega), mi_sI_o (by omega)]; exact h4, by rw [mi_sI_o (by omega), mi_sI_k], mi_sI_k⟩, fun i hi => by rw [mi_sI_ne (by omega), mi_sI_ne (by omega)]; exact h7 i hi⟩, (TFr.s (by omega)).trans (TFr.s (by omega))⟩
  · rw [if_neg h0, if_neg h0, if_neg h0]
    exact ⟨T, rfl, h, TFr.refl⟩
theorem k_fine (h : TC b C L p f fa) : f_X7_isFine C = some (if f = 0 then 1 else 0) := by
  unfold f_X7_isFine g_X7_isFine
  rw [h.1.2.2.2.2.1]
  by_cases h0 : f = 0
  · rw [if_pos h0]
    first | rfl | (rw [if_pos h0]; rfl)
  · rw [if_neg h0]
    first | rfl | (rw [if_neg h0]; rfl)
end TA
