/-! level 3: words of the text -/
section WO
variable {b : Nat → Int32} {C C' T T' : Mm} {L p : Nat} {f fa : Int32} {t : Nat}
abbrev isSm (x : Int32) : Prop := 97 ≤ x ∧ x ≤ 122
/-- where a word ends -/
def we (b : Nat → Int32) (L p : Nat) : Nat := skp isSm b L p
theorem k_wordEnd (h : TC b C L p f fa) : ∃ C', whl fu (f_X7_readWord_b13 t) C = some C' ∧ TC b C' L (we b L p) f fa ∧ CFr C C' ∧ mi C' 1 4 = mi C 1 4 := by
  have hL := h.1.1
  exact k_scan (P := isSm) (F := f_X7_readWord_b13 t) (L := L) (f := f) (fa := fa) (fun C p h hc => by
    have hL := h.1.1
    have hp := h.1.2.1
    unfold f_X7_readWord_b13
    rw [h.1.2.2.1, h.1.2.2.2.1]
    by_cases h1 : p < L
    · have hn := hc.resolve_left (fun z => z h1)
      rw [if_neg (nle h1 (by omega)), k_byte h (by omega), bsome]
      by_cases h2 : b p < 97
      · rw [if_pos h2]
      · rw [if_neg h2, bsome, if_pos (Int32.not_le.mp (fun z => hn ⟨nlt h2, z⟩))]
    · rw [if_pos ((oN_le (by omega) (by omega)).mpr (by omega))]) (fun C p h h1 hP => by
    have hL := h.1.1
    unfold f_X7_readWord_b13
    rw [h.1.2.2.1, h.1.2.2.2.1, if_neg (nle h1 (by omega)), k_byte h (by omega), bsome, if_neg (Int32.not_lt.mpr hP.1), bsome, if_neg (Int32.not_lt.mpr hP.2)]) (L - p) p C fu rfl (by show L - p < 1000000; omega) h
theorem m_isSmall {x : Int32} : f_X10_isSmall x T = some (if isSm x then 1 else 0) := by
  unfold f_X10_isSmall g_X10_isSmall
  rw [arg2]
  by_cases h : isSm x
  · rw [if_pos h, if_pos h]; rfl
  · rw [if_neg h, if_neg h]; rfl
theorem bL_ns (hp : ¬ p < L) : ¬ isSm (bL b L p) := by
  unfold bL
  rw [if_neg hp]
  exact fun z => absurd z.1 (by decide)
theorem m_skipWord (h : TT b T L p f fa) : ∃ T', f_X10_skipWord T = some T' ∧ TT b T' L (we b L p) f fa ∧ TFr T T' := by
  have hL := h.1.1
  obtain ⟨T', e1, e2, e3⟩ := m_scan (P := isSm) (F := f_X10_skipWord_b0) (L := L) (f := f) (fa := fa) (fun T p h hc => by
    have hL := h.1.1
    have hp := h.1.2.1
    unfold f_X10_skipWord_b0
    rw [h.1.2.2.2.1, m_byte h (by omega), bsome, m_isSmall, bsome]
    by_cases h1 : p < L
    · rw [show bL b L p = b p from if_pos h1, if_neg (hc.resolve_left (fun z => z h1)), if_pos z00]
    · rw [if_neg (bL_ns h1), if_pos z00]) (fun T p h h1 hP => by
    have hL := h.1.1
    unfold f_X10_skipWord_b0
    rw [h.1.2.2.2.1, m_byte h (by omega), bsome, m_isSmall, bsome, show bL b L p = b p from if_pos h1, if_pos hP, if_neg z10]) (L - p) p T fu rfl (by show L - p < 1000000; omega) h
  unfold f_X10_skipWord
  rw [e1]
  exact ⟨T', rfl, e2, e3⟩
/-- letters as a number -/
def cF (g : Nat → Nat) : Nat → Nat
  | 0 => 0
  | n + 1 => 27 * cF g n + g n
theorem cF_lt {g : Nat → Nat} : ∀ n, (∀ i, i < n → g i ≤ 26) → cF g n < 27 ^ n := by
  intro n
  induction n with
  | zero => exact fun _ => by show 0 < 1; omega
  | succ n ih =>
    intro h
    have h1 := ih (fun i hi => h i (by omega))
    have h2 := h n (by omega)
    show 27 * cF g n + g n < 27 ^ n * 27
    omega
theorem cF_inj {g g' : Nat → Nat} : ∀ n m, (∀ i, i < n → 1 ≤ g i ∧ g i ≤ 26) → (∀ i, i < m → 1 ≤ g' i ∧ g' i ≤ 26) → cF g n = cF g' m → n = m ∧ ∀ i, i < n → g i = g' i := by
  intro n
  induction n with
  | zero =>
    intro m _ h2 he
    cases m with
    | zero => exact ⟨rfl, fun i hi => by omega⟩
    | succ m =>
      have := h2 m (by omega)
      have he' : 0 = 27 * cF g' m + g' m := he
      omega
  | succ n ih =>
    intro m h1 h2 he
    cases m with
    | zero =>
      have := h1 n (by omega)
      have he' : 27 * cF g n + g n = 0 := he
      omega
    | succ m =>
      have a := h1 n (by omega)
      have c := h2 m (by omega)
      have he' : 27 * cF g n + g n = 27 * cF g' m + g' m := he
      obtain ⟨e1, e2⟩ := ih m (fun i hi => h1 i (by omega)) (fun i hi => h2 i (by omega)) (by omega)
      refine ⟨by omega, fun i hi => ?_⟩
      by_cases e : i = n
      · rw [e]
        have : n = m := e1
        rw [← this] at he' c
        omega
      · exact e2 i (by omega)
theorem cF_congr {g g' : Nat → Nat} : ∀ n, (∀ i, i < n → g i = g' i) → cF g n = cF g' n := by
  intro n
  induction n with
  | zero => exact fun _ => rfl
  | succ n ih =>
    intro h
    show 27 * cF g n + g n = 27 * cF g' n + g' n
    rw [ih (fun i hi => h i (by omega)), h n (by omega)]
/-- the letters of the text -/
def gT (b : Nat → Int32) (p i : Nat) : Nat := (b (p + i)).toNatClampNeg - 96
theorem gT_ok (hb : TxB b) (h : isSm (b (p + t))) : 1 ≤ gT b p t ∧ gT b p t ≤ 26 ∧ b (p + t) = Int32.ofNat (96 + gT b p t) := by
  obtain ⟨n, n1, n2⟩ := hb (p + t)
  rw [n2] at h
  have h1 : 97 ≤ n := (oN_le (i := 97) (by omega) (by omega)).mp h.1
  have h2 : n ≤ 122 := (oN_le (j := 122) (by omega) (by omega)).mp h.2
  have e : gT b p t = n - 96 := by unfold gT; rw [n2, oN_nat (by omega)]
  rw [e, n2]
  exact ⟨by omega, by omega, by rw [show 96 + (n - 96) = n by omega]⟩
/-- what the reference makes of the word there -/
def wdV (b : Nat → Int32) (L p : Nat) : Int32 := if we b L p - p ≤ 6 then Int32.ofNat (cF (gT b p) (we b L p - p)) else -1
theorem m_wordHere (hb : TxB b) (h : TT b T L p f fa) : ∃ T', f_X10_wordHere T = some (wdV b L (nb b L p), T') ∧ TT b T' L (nb b L p) f fa ∧ TFr T T' := by
  obtain ⟨T1, e1, t1, c1⟩ := m_blanks hb h
  have hL := t1.1.1
  have hp := t1.1.2.1
  generalize hq : nb b L p = p1 at t1 hp
  have hge : p1 ≤ we b L p1 := skp_ge hp
  have hle : we b L p1 ≤ L := skp_le hp
  have hsm : ∀ i, i < we b L p1 - p1 → isSm (b (p1 + i)) := fun i hi => skp_in hp (p1 + i) (by omega) (by show p1 + i < we b L p1; omega)
  have e2 := whl_eq (f := f_X10_wordHere_b8 T1) (e := (Int32.ofNat (cF (gT b p1) (min 6 (we b L p1 - p1))), Int32.ofNat (we b L p1 - p1))) (we b L p1 - p1) fu (fun i => (Int32.ofNat (cF (gT b p1) (min 6 i)), Int32.ofNat i)) (by show we b L p1 - p1 < 1000000; omega) (fun i hi => by
    try dsimp only
    obtain ⟨g1, g2, g3⟩ := gT_ok hb (hsm i hi)
    unfold f_X10_wordHere_b8
    dsimp only
    rw [t1.1.2.2.2.1, oN_A, m_byte t1 (by omega), bsome, m_isSmall, bsome, show bL b L (p1 + i) = b (p1 + i) from if_pos (by omega), if_pos (hsm i hi), if_neg z10]
    by_cases h6 : 6 ≤ i
    · rw [if_pos (show (6 : Int32) ≤ Int32.ofNat i from (oN_le (i := 6) (by omega) (by omega)).mpr h6), oN_S, show min 6 (i + 1) = 6 by omega, show min 6 i = 6 by omega]
    · have hc := cF_lt (g := gT b p1) i (fun k hk => (gT_ok hb (hsm k (by omega))).2.1)
      have h27 : (27 : Nat) ^ i ≤ 27 ^ 5 := Nat.pow_le_pow_right (by decide) (by omega)
      have h5 : (27 : Nat) ^ 5 = 14348907 := by decide
      rw [if_neg (show ¬ (6 : Int32) ≤ Int32.ofNat i from nle (n := 6) (by omega) (by omega)), oN_S, show min 6 (i + 1) = i + 1 by omega, show min 6 i = i by omega, bsome, g3]
      rw [show (27 : Int32) * Int32.ofNat (cF (gT b p1) i) = Int32.ofNat (27 * cF (gT b p1) i) from (Int32.ofNat_mul 27 _).symm, oN_A, show Int32.ofNat (27 * cF (gT b p1) i + (96 + gT b p1 i)) - 97 = Int32.ofNat (27 * cF (gT b p1) i + (96 + gT b p1 i) - 97) from oN_sub (b := 97) (by omega) (by omega), oN_S, show 27 * cF (gT b p1) i + (96 + gT b p1 i) - 97 + 1 = cF (gT b p1) (i + 1) from (show _ = 27 * cF (gT b p1) i + gT b p1 i by omega)]) (by
    try dsimp only
    unfold f_X10_wordHere_b8
    dsimp only
    have hend : ¬ isSm (bL b L (p1 + (we b L p1 - p1))) := by
      rw [show p1 + (we b L p1 - p1) = we b L p1 by omega]
      by_cases h1 : we b L p1 < L
      · rw [show bL b L (we b L p1) = b (we b L p1) from if_pos h1]
        exact skp_at hp h1
      · exact bL_ns h1
    rw [t1.1.2.2.2.1, oN_A, m_byte t1 (by omega), bsome, m_isSmall, bsome, if_neg hend, if_pos z00])
  unfold f_X10_wordHere
  rw [e1, bsome, show whl fu (f_X10_wordHere_b8 T1) (0, 0) = _ from e2, bsome]
  dsimp only
  refine ⟨T1, ?_, t1, c1⟩
  unfold wdV
  by_cases h6 : we b L p1 - p1 ≤ 6
  · rw [if_pos (show Int32.ofNat (we b L p1 - p1) ≤ 6 from (oN_le (j := 6) (by omega) (by omega)).mpr h6), if_pos h6, show min 6 (we b L p1 - p1) = we b L p1 - p1 by omega]
  · rw [if_neg (show ¬ Int32.ofNat (we b L p1 - p1) ≤ 6 from nle (i := 6) (by omega) (by omega)), if_neg h6]
theorem m_isWord {x1 x2 x3 x4 x5 x6 v : Int32} (hb : TxB b) (h : TT b T L p 0 fa) (hs : ∀ M, f_X10_six x1 x2 x3 x4 x5 x6 M = some v) : ∃ T', f_X10_isWord x1 x2 x3 x4 x5 x6 T = some (if wdV b L (nb b L p) = v then 1 else 0, T') ∧ TT b T' L (nb b L p) 0 fa ∧ TFr T T' := by
  obtain ⟨T1, e1, t1, c1⟩ := m_wordHere hb h
  unfold f_X10_isWord g_X10_isWord
  rw [h.1.2.2.2.2.1, if_pos rfl, e1, bsome]
  dsimp only
  rw [hs, bsome]
  by_cases hv : wdV b L (nb b L p) = v
  · rw [if_pos hv, if_pos hv]
    exact ⟨T1, rfl, t1, c1⟩
  · rw [if_neg hv, if_neg hv]
    exact ⟨T1, rfl, t1, c1⟩
theorem m_isWord_f {x1 x2 x3 x4 x5 x6 : Int32} (h : TT b T L p f fa) (hf : f ≠ 0) : f_X10_isWord x1 x2 x3 x4 x5 x6 T = some (0, T) := by
  unfold f_X10_isWord g_X10_isWord
  rw [h.1.2.2.2.2.1, if_neg hf]
  rfl
/-- the word there is the one with these letters -/
def isW (b : Nat → Int32) (L p : Nat) (lw : List Nat) : Prop := we b L p - p = lw.length ∧ ∀ i, i < lw.length → b (p + i) = Int32.ofNat (96 + lw.getD i 0)
theorem isW_code (hb : TxB b) (hp : p ≤ L) {lw : List Nat} (h1 : lw.length ≤ 6) (h2 : ∀ i, i < lw.length → 1 ≤ lw.getD i 0 ∧ lw.getD i 0 ≤ 26) : isW b L p lw ↔ wdV b L p = Int32.ofNat (cF (fun i => lw.getD i 0) lw.length) := by
  have hge : p ≤ we b L p := skp_ge hp
  have hsm : ∀ i, i < we b L p - p → isSm (b (p + i)) := fun i hi => skp_in hp (p + i) (by omega) (by show p + i < we b L p; omega)
  have big : ∀ (g : Nat → Nat) n, n ≤ 6 → (∀ i, i < n → g i ≤ 26) → cF g n < 2147483648 := fun g n hn hg => by
    have := cF_lt n hg
    have h27 : (27 : Nat) ^ n ≤ 27 ^ 6 := Nat.pow_le_pow_right (by decide) hn
    have h5 : (27 : Nat) ^ 6 = 387420489 := by decide
    omega
  unfold isW wdV
  constructor
  · rintro ⟨e1, e2⟩
    rw [if_pos (by omega), e1]
    refine congrArg Int32.ofNat (cF_congr _ (fun i hi => ?_))
    have := gT_ok hb (hsm i (by omega))
    have e3 := e2 i hi
    have h3 := h2 i hi
    rw [this.2.2] at e3
    have := (oN_eq (by omega) (by omega)).mp e3
    omega
  · intro e
    by_cases h6 : we b L p - p ≤ 6
    · rw [if_pos h6] at e
      have hg : ∀ i, i < we b L p - p → 1 ≤ gT b p i ∧ gT b p i ≤ 26 := fun i hi => ⟨(gT_ok hb (hsm i hi)).1, (gT_ok hb (hsm i hi)).2.1⟩
      have e' := (oN_eq (big _ _ h6 (fun i hi => (hg i hi).2)) (big _ _ h1 (fun i hi => (h2 i hi).2))).mp e
      obtain ⟨a1, a2⟩ := cF_inj _ _ hg h2 e'
      exact ⟨a1, fun i hi => by rw [(gT_ok hb (hsm i (by omega))).2.2, a2 i (by omega)]⟩
    · rw [if_neg h6] at e
      exact absurd e.symm (fun z => oN_nn (i := cF (fun i => lw.getD i 0) lw.length) (big _ _ h1 (fun i hi => (h2 i hi).2)) (by rw [z]; decide))
/-! the class's words -/
def scN (t x : Nat) : Int32 := (strB.getD t []).getD x 0
def slN (t : Nat) : Nat := strL.getD t 0
theorem sch_o {x : Nat} (h : x < slN t) (h2 : x < 1000000) : sch t (Int32.ofNat x) = some (scN t x) := by
  unfold sch
  rw [oN_nat (by omega), if_neg]
  · rfl
  · rintro (z | z)
    · exact oN_nn (by omega) z
    · unfold slN at h; omega
/-- letters from a on, so many, are those of lw -/
def ltr (t a : Nat) (lw : List Nat) : Bool := (List.range lw.length).all (fun i => decide (a + i < slN t) && decide (scN t (a + i) = Int32.ofNat (96 + lw.getD i 0)) && decide (lw.getD i 0 ≤ 26) && decide (1 ≤ lw.getD i 0))
theorem ltr_at {a : Nat} {lw : List Nat} (h : ltr t a lw = true) {i : Nat} (hi : i < lw.length) : a + i < slN t ∧ scN t (a + i) = Int32.ofNat (96 + lw.getD i 0) ∧ lw.getD i 0 ≤ 26 ∧ 1 ≤ lw.getD i 0 := by
  unfold ltr at h
  rw [List.all_eq_true] at h
  have := h i (List.mem_range.mpr hi)
  rw [Bool.and_eq_true, Bool.and_eq_true, Bool.and_eq_true, decide_eq_true_iff, decide_eq_true_iff, decide_eq_true_iff, decide_eq_true_iff] at this
  exact ⟨this.1.1.1, this.1.1.2, this.1.2, this.2⟩
theorem k_isWord {a p0 : Nat} {lw : List Nat} (h : TC b C L (we b L p0) f fa) (hp0 : p0 ≤ L) (h4 : mi C 1 4 = Int32.ofNat p0) (hl : ltr t a lw = true) (hs : slN t ≤ 1000) : ∃ v, f_X7_isWord t (Int32.ofNat a) (Int32.ofNat (a + lw.length)) C = some v ∧ ((v = 1 ∧ isW b L p0 lw) ∨ (v = 0 ∧ ¬ isW b L p0 lw)) := by
  have hge : p0 ≤ we b L p0 := skp_ge hp0
  have hL := h.1.1
  have hle := h.1.2.1
  have hlen : lw.length ≤ 1000 := by
    cases hn : lw.length with
    | zero => omega
    | succ n =>
      have := (ltr_at hl (i := n) (by omega)).1
      omega
  have ha : lw.length = 0 ∨ a ≤ 1000 := by
    cases hn : lw.length with
    | zero => exact Or.inl rfl
    | succ n =>
      have := (ltr_at hl (i := n) (by omega)).1
      exact Or.inr (by omega)
  have e0 : Int32.ofNat (a + lw.length) - Int32.ofNat a = Int32.ofNat lw.length := by
    rw [Int32.ofNat_add, Int32.add_comm, Int32.add_sub_cancel]
  unfold f_X7_isWord g_X7_isWord
  rw [e0, h.1.2.2.2.1, h4, oN_sub hge (by omega)]
  by_cases hn : lw.length = we b L p0 - p0
  · rw [if_pos (show Int32.ofNat lw.length = Int32.ofNat (we b L p0 - p0) by rw [hn])]
    rcases ha with ha | ha
    · have e1 : whl fu (f_X7_isWord_b20 t (Int32.ofNat a) (Int32.ofNat (a + lw.length)) C) (Int32.ofNat a) = some (Sum.inr ()) := by
        show whl (999999 + 1) _ _ = _
        refine whl_e ?_
        unfold f_X7_isWord_b20
        rw [ha, Nat.add_zero, if_pos (le_rf _)]
      rw [e1, bsome]
      exact ⟨1, rfl, Or.inl ⟨rfl, hn.symm, fun i hi => by omega⟩⟩
    · obtain ⟨e, e1, e2⟩ := whl_ex (f := f_X7_isWord_b20 t (Int32.ofNat a) (Int32.ofNat (a + lw.length)) C) (fun i st => st = Int32.ofNat (a + i) ∧ ∀ k, k < i → b (p0 + k) = Int32.ofNat (96 + lw.getD k 0)) (fun e => (e = Sum.inr () ∧ ∀ k, k < lw.length → b (p0 + k) = Int32.ofNat (96 + lw.getD k 0)) ∨ (e = Sum.inl () ∧ ¬ ∀ k, k < lw.length → b (p0 + k) = Int32.ofNat (96 + lw.getD k 0))) lw.length fu (Int32.ofNat a) (by show lw.length < 1000000; omega) ⟨rfl, fun k hk => by omega⟩ (by
        rintro i st hi ⟨rfl, hq⟩
        obtain ⟨l1, l2, l3, l4⟩ := ltr_at hl hi
        have e5 : Int32.ofNat p0 + Int32.ofNat (a + i) - Int32.ofNat a = Int32.ofNat (p0 + i) := by
          rw [oN_A, oN_sub (by omega) (by omega), show p0 + (a + i) - a = p0 + i by omega]
        unfold f_X7_isWord_b20
        rw [if_neg (nle (by omega) (by omega)), show sln t = Int32.ofNat (slN t) from rfl, if_neg (nle l1 (by omega)), sch_o l1 (by omega), bsome, h4, e5, k_byte h (by omega), bsome, l2]
        by_cases hc : Int32.ofNat (96 + lw.getD i 0) = b (p0 + i)
        · rw [if_pos hc, oN_S]
          refine Or.inl ⟨_, rfl, rfl, fun k hk => ?_⟩
          by_cases e : k = i
          · rw [e]; exact hc.symm
          · exact hq k (by omega)
        · rw [if_neg hc]
          exact Or.inr ⟨_, rfl, Or.inr ⟨rfl, fun z => hc (z i hi).symm⟩⟩) (by
        rintro st ⟨rfl, hq⟩
        refine ⟨_, ?_, Or.inl ⟨rfl, hq⟩⟩
        unfold f_X7_isWord_b20
        rw [if_pos (le_rf _)])
      rw [e1, bsome]
      rcases e2 with ⟨rfl, h9⟩ | ⟨rfl, h9⟩
      · exact ⟨1, rfl, Or.inl ⟨rfl, hn.symm, h9⟩⟩
      · exact ⟨0, rfl, Or.inr ⟨rfl, fun z => h9 z.2⟩⟩
  · rw [if_neg (fun z => hn ((oN_eq (by omega) (by omega)).mp z)), bsome]
    exact ⟨0, rfl, Or.inr ⟨rfl, fun z => hn z.1.symm⟩⟩
/-- the first of the words that stands there -/
def fstW (b : Nat → Int32) (L p : Nat) : List (List Nat) → Nat → Int32 → Prop
  | [], _, v => v = -1
  | lw :: ws, i, v => (isW b L p lw ∧ v = Int32.ofNat i) ∨ (¬ isW b L p lw ∧ fstW b L p ws (i + 1) v)
/-- the words of t from a on -/
def wfT (t : Nat) : List (List Nat) → Nat → Bool
  | [], a => decide (a = slN t + 1)
  | lw :: ws, a => ltr t a lw && ((decide (a + lw.length < slN t) && decide (scN t (a + lw.length) = 32)) || decide (a + lw.length = slN t)) && wfT t ws (a + lw.length + 1)
def wlen : List (List Nat) → Nat
  | [] => 0
  | lw :: ws => lw.length + 1 + wlen ws
theorem k_seg {x2 : Int32} {a0 : Nat} {lw : List Nat} (hs : slN t ≤ 1000) (hl : ltr t a0 lw = true) : ∀ n, n ≤ lw.length → ∀ K, whl (K + n) (f_X7_indexAmong_b7 t C) (x2, Int32.ofNat a0, Int32.ofNat a0) = whl K (f_X7_indexAmong_b7 t C) (x2, Int32.ofNat a0, Int32.ofNat (a0 + n)) := by
  intro n
  induction n with
  | zero => exact fun _ K => rfl
  | succ n ih =>
    intro hn K
    obtain ⟨l1, l2, l3, l4⟩ := ltr_at hl (i := n) (by omega)
    rw [show K + (n + 1) = (K + 1) + n by omega, ih (by omega) (K + 1)]
    refine whl_s ?_
    unfold f_X7_indexAmong_b7
    dsimp only
    rw [show sln t = Int32.ofNat (slN t) from rfl, if_neg (show ¬ Int32.ofNat (slN t) < Int32.ofNat (a0 + n) from fun z => lnle z ((oN_le (by omega) (by omega)).mpr (by omega))), if_neg (show ¬ Int32.ofNat (a0 + n) = Int32.ofNat (slN t) from fun z => by have := (oN_eq (by omega) (by omega)).mp z; omega), sch_o l1 (by omega), bsome, l2, if_neg (show ¬ Int32.ofNat (96 + lw.getD n 0) = 32 from fun z => by have := (oN_eq (j := 32) (by omega) (by omega)).mp z; omega), oN_S]
    rfl
theorem k_index {p0 : Nat} (h : TC b C L (we b L p0) f fa) (hp0 : p0 ≤ L) (h4 : mi C 1 4 = Int32.ofNat p0) (hs : slN t ≤ 1000) : ∀ ws i a K, i + ws.length < 1000 → wfT t ws a = true → wlen ws + 1 ≤ K → ∃ e v, whl K (f_X7_indexAmong_b7 t C) (Int32.ofNat i, Int32.ofNat a, Int32.ofNat a) = some e ∧ fstW b L p0 ws i v ∧ ((e = Sum.inl v ∧ ∃ j, j < 1000 ∧ v = Int32.ofNat j) ∨ (e = Sum.inr () ∧ v = -1)) := by
  intro ws
  induction ws with
  | nil =>
    intro i a K hi hw hK
    obtain ⟨K, rfl⟩ : ∃ k', K = k' + 1 := ⟨K - 1, by omega⟩
    have ha : a = slN t + 1 := by
      unfold wfT at hw
      exact decide_eq_true_iff.mp hw
    refine ⟨Sum.inr (), -1, whl_e ?_, rfl, Or.inr ⟨rfl, rfl⟩⟩
    unfold f_X7_indexAmong_b7
    dsimp only
    rw [show sln t = Int32.ofNat (slN t) from rfl, if_pos ((oN_lt (by omega) (by omega)).mpr (by omega))]
  | cons lw ws ih =>
    intro i a K hi hw hK
    unfold wfT at hw
    rw [Bool.and_eq_true, Bool.and_eq_true] at hw
    obtain ⟨⟨hl, he⟩, hr⟩ := hw
    have hKe : wlen (lw :: ws) = lw.length + 1 + wlen ws := rfl
    obtain ⟨K1, hK1⟩ : ∃ k', K = (k' + 1) + lw.length := ⟨K - lw.length - 1, by omega⟩
    subst hK1
    rw [k_seg hs hl lw.length (Nat.le_refl _) (K1 + 1)]
    have hend : a + lw.length ≤ slN t := by
      rw [Bool.or_eq_true, Bool.and_eq_true, decide_eq_true_iff, decide_eq_true_iff, decide_eq_true_iff] at he
      omega
    obtain ⟨v, e1, e2⟩ := k_isWord h hp0 h4 hl hs
    have hbody : f_X7_indexAmong_b7 t C (Int32.ofNat i, Int32.ofNat a, Int32.ofNat (a + lw.length)) = f_X7_indexAmong_j36 t (Int32.ofNat i) (Int32.ofNat a) (Int32.ofNat (a + lw.length)) C := by
      unfold f_X7_indexAmong_b7
      dsimp only
      rw [show sln t = Int32.ofNat (slN t) from rfl, if_neg (show ¬ Int32.ofNat (slN t) < Int32.ofNat (a + lw.length) from fun z => lnle z ((oN_le (by omega) (by omega)).mpr (by omega)))]
      by_cases hq : a + lw.length = slN t
      · rw [if_pos (show Int32.ofNat (a + lw.length) = Int32.ofNat (slN t) by rw [hq])]
      · rw [if_neg (fun z => hq ((oN_eq (by omega) (by omega)).mp z))]
        rw [Bool.or_eq_true, Bool.and_eq_true, decide_eq_true_iff, decide_eq_true_iff, decide_eq_true_iff] at he
        have he' := he.resolve_right hq
        rw [sch_o he'.1 (by omega), bsome, he'.2, if_pos rfl]
    rcases e2 with ⟨rfl, hy⟩ | ⟨rfl, hn⟩
    · refine ⟨Sum.inl (Int32.ofNat i), Int32.ofNat i, whl_e ?_, Or.inl ⟨hy, rfl⟩, Or.inl ⟨rfl, i, by omega, rfl⟩⟩
      rw [hbody]
      unfold f_X7_indexAmong_j36
      rw [e1, bsome, if_neg z10]
    · rw [List.length_cons] at hi
      obtain ⟨e, v, w1, w2, w3⟩ := ih (i + 1) (a + lw.length + 1) K1 (by omega) hr (by omega)
      refine ⟨e, v, ?_, Or.inr ⟨hn, w2⟩, w3⟩
      rw [whl_s (s' := (Int32.ofNat (i + 1), Int32.ofNat (a + lw.length + 1), Int32.ofNat (a + lw.length + 1))) (by
        rw [hbody]
        unfold f_X7_indexAmong_j36
        rw [e1, bsome, if_pos z00, oN_S, oN_S])]
      exact w1
/-- a word read: its place among the words of t, or a fault -/
theorem k_word {ws : List (List Nat)} (hs : slN t ≤ 1000) (hw : wfT t ws 0 = true) (hl : wlen ws < 1000 ∧ ws.length < 1000) (h : TC b C L p f fa) : ∃ v C', f_X7_readWord t C = some (v, C') ∧ CFr C C' ∧ mi C' 1 4 = Int32.ofNat (nb b L p) ∧ fstW b L (nb b L p) ws 0 v ∧ ((∃ j : Nat, j < 1000 ∧ v = Int32.ofNat j ∧ TC b C' L (we b L (nb b L p)) f fa) ∨ (v = -1 ∧ TC b C' L (we b L (nb b L p)) (if f = 0 then 1 else f) (if f = 0 then Int32.ofNat (nb b L p) else fa))) := by
  obtain ⟨C1, e1, t1, c1, -⟩ := k_next h
  obtain ⟨C2, e2, t2, c2, s2⟩ := k_wordEnd (t := t) (t1.st (x := Int32.ofNat (nb b L p)))
  have h4 : mi C2 1 4 = Int32.ofNat (nb b L p) := s2.trans mi_sI_k
  obtain ⟨e, v, g1, g2, g3⟩ := k_index (t := t) t2 t1.1.2.1 h4 hs ws 0 0 fu (by omega) hw (by show wlen ws + 1 ≤ 1000000; omega)
  have cc := (c1.trans (CFr.s (j := 4) (x := Int32.ofNat (nb b L p)) (by omega))).trans c2
  unfold f_X7_readWord
  rw [e1, bsome]
  dsimp only
  rw [t1.1.2.2.2.1, e2, bsome]
  unfold f_X7_readWord_j63 f_X7_indexAmong
  rw [show whl fu (f_X7_indexAmong_b7 t C2) (0, 0, 0) = some e from g1, bsome]
  rcases g3 with ⟨rfl, j, j1, rfl⟩ | ⟨rfl, rfl⟩
  · dsimp only
    rw [bsome, if_neg (show ¬ Int32.ofNat j = -1 from fun z => oN_nn (i := j) (by omega) (by rw [z]; decide))]
    exact ⟨_, C2, rfl, cc, h4, g2, Or.inl ⟨j, j1, rfl, t2⟩⟩
  · obtain ⟨C3, e3, t3, c3, s3⟩ := k_fail (x1 := 1) (x2 := mi C2 1 4) t2
    rw [h4] at t3
    dsimp only
    rw [bsome, if_pos rfl, e3, bsome]
    exact ⟨_, C3, rfl, cc.trans c3, s3.trans h4, g2, Or.inr ⟨rfl, t3⟩⟩
end WO
