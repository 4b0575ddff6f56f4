/-! level 3: first: the tables -/
section FB
variable {k : Nat} {M : Mm} {q : Nat → Nat} {w h : Nat} {r : Nat → Int32} {C C' T N : Mm}
def frm (a : Nat) : Prop := 225 ≤ a ∧ a ≤ 273
theorem ar_224 {c : Nat} (hc : c < 49) : ar 224 49 (Int32.ofNat c) = some (225 + c) := by
  rw [ar_o hc (by omega)]
theorem m_fill {X : Nat} {x2 : Int32} (hX : X ≤ 999) : ∃ N', whl fu (f_X10_first_b43 (Int32.ofNat X) x2) (0, N) = some N' ∧ Om frm N N' ∧ ∀ s, s ≤ X → mi N' 225 s = if s = 0 then 0 else -1 := by
  exact whl_ex (f := f_X10_first_b43 (Int32.ofNat X) x2) (fun s st => ∃ N1, st = (Int32.ofNat s, N1) ∧ Om frm N N1 ∧ ∀ u, u < s → mi N1 225 u = if u = 0 then 0 else -1) (fun N1 => Om frm N N1 ∧ ∀ s, s ≤ X → mi N1 225 s = if s = 0 then 0 else -1) (X + 1) fu (0, N) (by show X + 1 < 1000000; omega) ⟨N, rfl, Om.refl, fun u hu => by omega⟩ (by
    rintro s st hs ⟨N1, rfl, hO, hq⟩
    unfold f_X10_first_b43
    dsimp only
    rw [if_neg (show ¬ Int32.ofNat X < Int32.ofNat s from fun z => lnle z ((oN_le (by omega) (by omega)).mpr (by omega))), show ar 224 49 0 = some 225 from ar_224 (c := 0) (by omega), bsome, wi_o (by omega) (by omega), bsome, oN_S]
    refine Or.inl ⟨_, rfl, _, rfl, om_si hO (by unfold frm; omega), fun u hu => ?_⟩
    rw [mi_sI, u1_at]
    by_cases e : u = s
    · rw [if_pos e]
      by_cases h0 : s = 0
      · rw [if_pos (show Int32.ofNat s = 0 by rw [h0]; rfl), if_pos (by omega)]
      · rw [if_neg (show ¬ Int32.ofNat s = 0 from fun e => h0 ((oN_eq (i := s) (j := 0) (by omega) (by omega)).mp e)), if_neg (by omega)]
    · rw [if_neg e]
      exact hq u (by omega)) (by
    rintro st ⟨N1, rfl, hO, hq⟩
    refine ⟨N1, ?_, hO, fun s hs => hq s (by omega)⟩
    unfold f_X10_first_b43
    dsimp only
    rw [if_pos ((oN_lt (by omega) (by omega)).mpr (by omega))])
variable {cf : Nat → Nat} {sf : Nat → Int32}
/-- one cell more -/
theorem m_row {X c : Nat} {x2 : Int32} (hX : X ≤ 999) (hc : c < 48) (hco : cf c ≤ 20000) (hs : ∀ c, c < 48 → ∃ n : Nat, n ≤ 99 ∧ sf c = Int32.ofNat n) (h82 : mi N 82 c = sf c) (hq : ∀ s, s ≤ X → mi N (225 + c) s = fF cf sf c s) : ∃ N', whl fu (f_X10_first_b89 (Int32.ofNat X) x2 (Int32.ofNat c) (Int32.ofNat (cf c))) (0, N) = some N' ∧ Om (fun a => a = 225 + (c + 1)) N N' ∧ ∀ s, s ≤ X → mi N' (225 + (c + 1)) s = fF cf sf (c + 1) s := by
  have hok := fF_ok (cf := cf) hs c (by omega)
  have hnl : ∀ s, (if fF cf sf c s ≤ -1 then (-1 : Int32) else fF cf sf c s) = fF cf sf c s := fun s => neg_le ((hok s).elim Or.inl (fun ⟨n, n1, n2⟩ => Or.inr ⟨n, by omega, n2⟩))
  exact whl_ex (f := f_X10_first_b89 (Int32.ofNat X) x2 (Int32.ofNat c) (Int32.ofNat (cf c))) (fun s st => ∃ N1, st = (Int32.ofNat s, N1) ∧ Om (fun a => a = 225 + (c + 1)) N N1 ∧ ∀ u, u < s → mi N1 (225 + (c + 1)) u = fF cf sf (c + 1) u) (fun N1 => Om (fun a => a = 225 + (c + 1)) N N1 ∧ ∀ s, s ≤ X → mi N1 (225 + (c + 1)) s = fF cf sf (c + 1) s) (X + 1) fu (0, N) (by show X + 1 < 1000000; omega) ⟨N, rfl, Om.refl, fun u hu => by omega⟩ (by
    rintro s st hs9 ⟨N1, rfl, hO, hq1⟩
    have ec : ∀ u, u ≤ X → mi N1 (225 + c) u = fF cf sf c u := fun u hu => by rw [hO.at (by omega)]; exact hq u hu
    have j146 : ∀ v : Int32, f_X10_first_j146 (Int32.ofNat X) x2 (Int32.ofNat c) (Int32.ofNat (cf c)) (Int32.ofNat s) v N1 = some (.inl (Int32.ofNat (s + 1), sI N1 (225 + (c + 1)) s (if fF cf sf c s ≤ v then v else fF cf sf c s))) := fun v => by
      unfold f_X10_first_j146 f_X10_more
      rw [oN_S, ar_224 (show c + 1 < 49 by omega), bsome, ar_224 (show c < 49 by omega), bsome, ai_o (by omega) (by omega), bsome, ec s (by omega), bsome, wi_o (by omega) (by omega), bsome, oN_S]
    have fin : ∀ v : Int32, (if fF cf sf c s ≤ v then v else fF cf sf c s) = fF cf sf (c + 1) s → ∃ s', f_X10_first_j146 (Int32.ofNat X) x2 (Int32.ofNat c) (Int32.ofNat (cf c)) (Int32.ofNat s) v N1 = some (.inl s') ∧ ∃ N2, s' = (Int32.ofNat (s + 1), N2) ∧ Om (fun a => a = 225 + (c + 1)) N N2 ∧ ∀ u, u < s + 1 → mi N2 (225 + (c + 1)) u = fF cf sf (c + 1) u := fun v hv => by
      rw [j146, hv]
      refine ⟨_, rfl, _, rfl, om_si hO rfl, fun u hu => ?_⟩
      rw [mi_sI, u1_at]
      by_cases e : u = s
      · rw [if_pos e, e]
      · rw [if_neg e]
        exact hq1 u (by omega)
    refine Or.inl ?_
    unfold f_X10_first_b89 f_X10_first_j123
    dsimp only
    rw [if_neg (show ¬ Int32.ofNat X < Int32.ofNat s from fun z => lnle z ((oN_le (by omega) (by omega)).mpr (by omega)))]
    by_cases h0 : cf c = 0
    · rw [if_pos (show Int32.ofNat (cf c) = 0 by rw [h0]; rfl)]
      exact fin _ (by rw [hnl, fF_s, if_pos (Or.inl h0)])
    · rw [if_neg (show ¬ Int32.ofNat (cf c) = 0 from fun e => h0 ((oN_eq (i := cf c) (j := 0) (by omega) (by omega)).mp e))]
      by_cases h1 : s < cf c
      · rw [if_pos ((oN_lt (by omega) (by omega)).mpr h1)]
        exact fin _ (by rw [hnl, fF_s, if_pos (Or.inr (Or.inl h1))])
      · rw [if_neg (fun z => h1 ((oN_lt (by omega) (by omega)).mp z)), ar_224 (show c < 49 by omega), bsome, oN_sub (by omega) (by omega), ai_o (by omega) (by omega), bsome, ec (s - cf c) (by omega)]
        by_cases h2 : fF cf sf c (s - cf c) = -1
        · rw [if_pos h2]
          exact fin _ (by rw [hnl, fF_s, if_pos (Or.inr (Or.inr h2))])
        · rw [if_neg h2, bsome, ai_o (by omega) (by omega), bsome, ec (s - cf c) (by omega), show ai N1 82 48 (Int32.ofNat c) = some (mi N1 82 c) from ai_o hc (by omega), bsome, hO.at (by omega), h82]
          exact fin _ (by rw [fF_s, if_neg (show ¬ (cf c = 0 ∨ s < cf c ∨ fF cf sf c (s - cf c) = -1) from fun z => z.elim h0 (fun z => z.elim h1 h2))])) (by
    rintro st ⟨N1, rfl, hO, hq1⟩
    refine ⟨N1, ?_, hO, fun s hs => hq1 s (by omega)⟩
    unfold f_X10_first_b89
    dsimp only
    rw [if_pos ((oN_lt (by omega) (by omega)).mpr (by omega))])
theorem m_table {X : Nat} {x2 : Int32} (hX : X ≤ 999) (hT : RGt N) (hV : VR w h (mi N 196)) (h82 : ∀ c, c < 48 → rg (mi N 82 c) 0 99) : ∃ N', (whl fu (f_X10_first_b43 (Int32.ofNat X) x2) (0, N)).bind (fun M10 => whl fu (f_X10_first_b73 (Int32.ofNat X) x2) (0, M10)) = some N' ∧ Om frm N N' ∧ ∀ c, c ≤ 48 → ∀ s, s ≤ X → mi N' (225 + c) s = fF (co N (mi N 196)) (mi N 82) c s := by
  have h6 := hV.n60
  obtain ⟨N1, e1, o1, q1⟩ := m_fill (N := N) (x2 := x2) hX
  have hs : ∀ c, c < 48 → ∃ n : Nat, n ≤ 99 ∧ mi N 82 c = Int32.ofNat n := fun c hc => by
    obtain ⟨n, -, n2, n3⟩ := h82 c hc
    exact ⟨n, n2, n3⟩
  rw [e1, bsome]
  obtain ⟨N2, e2, o2, q2⟩ := whl_ex (f := f_X10_first_b73 (Int32.ofNat X) x2) (fun c st => ∃ N2, st = (Int32.ofNat c, N2) ∧ Om frm N N2 ∧ ∀ d, d ≤ c → ∀ s, s ≤ X → mi N2 (225 + d) s = fF (co N (mi N 196)) (mi N 82) d s) (fun N2 => Om frm N N2 ∧ ∀ d, d ≤ 48 → ∀ s, s ≤ X → mi N2 (225 + d) s = fF (co N (mi N 196)) (mi N 82) d s) 48 fu (0, N1) (by decide) ⟨N1, rfl, o1, fun d hd s hs => by
      have : d = 0 := by omega
      subst this
      exact q1 s hs⟩ (by
    rintro c st hc ⟨N2, rfl, hO, hq⟩
    have e196 : mi N2 196 = mi N 196 := hO.at (by unfold frm; omega)
    have e80 : mi N2 80 = mi N 80 := hO.at (by unfold frm; omega)
    have hco : co N2 (mi N2 196) c = co N (mi N 196) c := by
      rw [e196]
      unfold co
      have : ∀ n, coN N2 (mi N 196) c n = coN N (mi N 196) c n := by
        intro n
        induction n with
        | zero => rfl
        | succ n ih => rw [coN_s, coN_s, ih, show clN N2 (mi N 196) n = clN N (mi N 196) n by unfold clN clrO; rw [e80]]
      exact this _
    have hcle : co N (mi N 196) c ≤ 20000 := by
      have := coN_le hT hV (c := c) (rN (mi N 196)) (Nat.le_refl _)
      unfold co
      omega
    obtain ⟨N3, p1, p2, p3⟩ := m_row (N := N2) (cf := co N (mi N 196)) (sf := mi N 82) (x2 := x2) hX hc hcle hs (by rw [hO.at (by unfold frm; omega)]) (hq c (by omega))
    unfold f_X10_first_b73
    dsimp only
    rw [if_neg (show ¬ (48 : Int32) ≤ Int32.ofNat c from nle (n := 48) hc (by omega)), m_clearsIn (RGt_of e80 hT) (by rw [e196]; exact hV) hc, bsome, hco, p1, bsome, oN_S]
    refine Or.inl ⟨_, rfl, N3, rfl, hO.trans (p2.mono (fun a ha => by unfold frm; omega)), fun d hd s hs => ?_⟩
    by_cases e : d = c + 1
    · rw [e]
      exact p3 s hs
    · rw [p2.at (by omega)]
      exact hq d (by omega) s hs) (by
    rintro st ⟨N2, rfl, hO, hq⟩
    refine ⟨N2, ?_, hO, hq⟩
    unfold f_X10_first_b73
    dsimp only
    rw [if_pos (show (48 : Int32) ≤ Int32.ofNat 48 from le_rf _)])
  exact ⟨N2, e2, o2, q2⟩
/-- which minutes -/
def zF (cf : Nat → Nat) (sf : Nat → Int32) : Nat → Nat
  | 0 => 0
  | t + 1 => if fF cf sf 48 (t + 1) ≤ fF cf sf 48 (zF cf sf t) then zF cf sf t else t + 1
theorem zF_s {t : Nat} : zF cf sf (t + 1) = if fF cf sf 48 (t + 1) ≤ fF cf sf 48 (zF cf sf t) then zF cf sf t else t + 1 := rfl
theorem zF_le : ∀ t, zF cf sf t ≤ t := by
  intro t
  induction t with
  | zero => exact Nat.le_refl _
  | succ t ih =>
    rw [zF_s]
    by_cases h1 : fF cf sf 48 (t + 1) ≤ fF cf sf 48 (zF cf sf t)
    · rw [if_pos h1]; omega
    · rw [if_neg h1]; exact Nat.le_refl _
theorem m_best {X : Nat} {x2 : Int32} (hX : X ≤ 999) (hq : ∀ s, s ≤ X → mi N (225 + 48) s = fF cf sf 48 s) : whl fu (f_X10_first_b190 (Int32.ofNat X) x2 N) (0, 1) = some (Int32.ofNat (zF cf sf X)) := by
  refine whl_eq (f := f_X10_first_b190 (Int32.ofNat X) x2 N) (e := Int32.ofNat (zF cf sf X)) X fu (fun t => (Int32.ofNat (zF cf sf t), Int32.ofNat (t + 1))) (by show X < 1000000; omega) (fun t ht => ?_) ?_
  · try dsimp only
    have hz := zF_le (cf := cf) (sf := sf) t
    unfold f_X10_first_b190
    dsimp only
    rw [if_neg (show ¬ Int32.ofNat X < Int32.ofNat (t + 1) from fun z => lnle z ((oN_le (by omega) (by omega)).mpr (by omega))), show ar 224 49 48 = some (225 + 48) from ar_224 (c := 48) (by omega), bsome, ai_o (by omega) (by omega), bsome, bsome, ai_o (by omega) (by omega), bsome, hq _ (by omega), hq _ (by omega), oN_S, zF_s]
    by_cases h1 : fF cf sf 48 (t + 1) ≤ fF cf sf 48 (zF cf sf t)
    · rw [if_pos h1, if_pos h1]
    · rw [if_neg h1, if_neg h1]
  · try dsimp only
    unfold f_X10_first_b190
    dsimp only
    rw [if_pos ((oN_lt (by omega) (by omega)).mpr (by omega))]
theorem m_trace {X s0 : Nat} (hX : X ≤ 999) (hs0 : s0 ≤ X) (hT : RGt N) (hV : VR w h (mi N 196)) (hq : ∀ c, c ≤ 48 → ∀ s, s ≤ X → mi N (225 + c) s = fF (co N (mi N 196)) sf c s) : whl fu (f_X10_first_b266 N) (0, Int32.ofNat s0, 47) = some (bF (co N (mi N 196)) sf 48 s0) := by
  obtain ⟨e, e1, rfl⟩ := whl_ex (f := f_X10_first_b266 N) (fun t st => ∃ (y : Int64) (s : Nat), st = (y, Int32.ofNat s, if t = 48 then -1 else Int32.ofNat (47 - t)) ∧ s ≤ X ∧ y ||| bF (co N (mi N 196)) sf (48 - t) s = bF (co N (mi N 196)) sf 48 s0) (fun e => e = bF (co N (mi N 196)) sf 48 s0) 48 fu (0, Int32.ofNat s0, 47) (by decide) ⟨0, s0, rfl, hs0, Int64.zero_or⟩ (by
    rintro t st ht ⟨y, s, rfl, hs, hy⟩
    have hc : 47 - t < 48 := by omega
    have e48 : 48 - t = 47 - t + 1 := by omega
    rw [e48] at hy
    have hnx : (Int32.ofNat (47 - t) + (-1 : Int32)) = if t + 1 = 48 then -1 else Int32.ofNat (47 - (t + 1)) := by
      by_cases e : t + 1 = 48
      · rw [if_pos e, show 47 - t = 0 by omega]; rfl
      · rw [if_neg e, am1 (by omega), show 47 - t - 1 = 47 - (t + 1) by omega]
    refine Or.inl ?_
    unfold f_X10_first_b266
    dsimp only
    rw [if_neg (show ¬ t = 48 by omega), if_neg (oN_nn (by omega)), ar_224 (show 47 - t < 49 by omega), bsome, ai_o (by omega) (by omega), bsome, oN_S, ar_224 (show 47 - t + 1 < 49 by omega), bsome, ai_o (by omega) (by omega), bsome, hq (47 - t) (by omega) s hs, hq (47 - t + 1) (by omega) s hs, hnx]
    rw [bF_s] at hy
    by_cases h1 : fF (co N (mi N 196)) sf (47 - t) s = fF (co N (mi N 196)) sf (47 - t + 1) s
    · rw [if_pos h1]
      rw [if_pos h1.symm] at hy
      exact ⟨_, rfl, y, s, rfl, hs, by rw [show 48 - (t + 1) = 47 - t by omega]; exact hy⟩
    · rw [if_neg h1]
      rw [if_neg (fun z => h1 z.symm)] at hy
      have hge : co N (mi N 196) (47 - t) ≤ s := by
        by_cases hlt : s < co N (mi N 196) (47 - t)
        · exact absurd (by rw [fF_s, if_pos (Or.inr (Or.inl hlt))]) h1
        · omega
      rw [m_clearsIn hT hV hc, bsome, oN_sub hge (by omega)]
      refine ⟨_, rfl, _, s - co N (mi N 196) (47 - t), rfl, by omega, ?_⟩
      rw [show 48 - (t + 1) = 47 - t by omega, Int64.or_assoc, Int64.or_comm (_ <<< _), ← hy]) (by
    rintro st ⟨y, s, rfl, hs, hy⟩
    refine ⟨y, ?_, ?_⟩
    · unfold f_X10_first_b266
      dsimp only
      rw [if_pos rfl, if_pos (show (-1 : Int32) < 0 by decide)]
    · rw [← hy]
      exact Int64.or_zero.symm)
  exact e1
/-! the class -/
def okT (C : Mm) (cf : Nat → Nat) (sf : Nat → Int32) (c s : Nat) : Prop := mi C 15 s = fF cf sf c s ∧ (fF cf sf c s ≠ -1 → ml C 16 s = bF cf sf c s)
def k1516 (a : Nat) : Prop := a = 15 ∨ a = 16
theorem k_spendOn {X c : Nat} (hX : X ≤ 999) (hc : c < 48) (hco : 1 ≤ cf c ∧ cf c ≤ 20000) (hq : ∀ s, s ≤ X → okT C cf sf c s) : ∃ C', f_X0_spendOn (Int32.ofNat c) (Int32.ofNat (cf c)) (sf c) (Int32.ofNat X) C = some C' ∧ Oml k1516 C C' ∧ ∀ s, s ≤ X → okT C' cf sf (c + 1) s := by
  have same : ∀ s, s < cf c → fF cf sf (c + 1) s = fF cf sf c s ∧ bF cf sf (c + 1) s = bF cf sf c s := fun s hs => by
    have e : fF cf sf (c + 1) s = fF cf sf c s := by rw [fF_s, if_pos (Or.inr (Or.inl hs))]
    exact ⟨e, by rw [bF_s, if_pos e]⟩
  have h9 : mmin (Int32.ofNat X) 999 = Int32.ofNat X := by
    unfold mmin
    rw [if_neg]
    exact fun z => lnle z ((oN_le (j := 999) (by omega) (by omega)).mpr hX)
  obtain ⟨C', e1, e2, e3⟩ := whl_ex (f := f_X0_spendOn_b10 (Int32.ofNat c) (Int32.ofNat (cf c)) (sf c)) (fun t st => ∃ C1, st = (Int32.ofNat (X - t), C1) ∧ Oml k1516 C C1 ∧ ∀ s, s ≤ X → (X - t < s → okT C1 cf sf (c + 1) s) ∧ (¬ X - t < s → okT C1 cf sf c s)) (fun C1 => Oml k1516 C C1 ∧ ∀ s, s ≤ X → okT C1 cf sf (c + 1) s) (X + 1 - cf c) fu (Int32.ofNat X, C) (by show X + 1 - cf c < 1000000; omega) ⟨C, rfl, Oml.refl, fun s hs => ⟨fun z => by omega, fun _ => hq s hs⟩⟩ (by
    rintro t st ht ⟨C1, rfl, hO, hq1⟩
    generalize hu : X - t = u at hq1
    have hu1 : cf c ≤ u := by omega
    have huX : u ≤ X := by omega
    have hnx : Int32.ofNat u + (-1 : Int32) = Int32.ofNat (X - (t + 1)) := by rw [am1 (by omega), show u - 1 = X - (t + 1) by omega]
    have hb := (hq1 (u - cf c) (by omega)).2 (by omega)
    have hcu := (hq1 u huX).2 (by omega)
    have stay : okT C1 cf sf (c + 1) u → ∀ s, s ≤ X → (X - (t + 1) < s → okT C1 cf sf (c + 1) s) ∧ (¬ X - (t + 1) < s → okT C1 cf sf c s) := fun h1 s hs => by
      refine ⟨fun z => ?_, fun z => (hq1 s hs).2 (by omega)⟩
      by_cases e : s = u
      · rw [e]; exact h1
      · exact (hq1 s hs).1 (by omega)
    refine Or.inl ?_
    unfold f_X0_spendOn_b10
    dsimp only
    rw [if_neg (fun z => lnle z ((oN_le (by omega) (by omega)).mpr hu1)), if_neg (show ¬ Int32.ofNat (cf c) ≤ 0 from nle (n := cf c) (i := 0) (by omega) (by omega)), oN_sub hu1 (by omega), ai_o (by omega) (by omega), bsome, hb.1, hnx]
    by_cases h1 : fF cf sf c (u - cf c) = -1
    · rw [if_pos h1]
      have e : fF cf sf (c + 1) u = fF cf sf c u := by rw [fF_s, if_pos (Or.inr (Or.inr h1))]
      exact ⟨_, rfl, C1, rfl, hO, stay (by unfold okT; rw [bF_s, if_pos e, e]; exact hcu)⟩
    · have hn : ¬ (cf c = 0 ∨ u < cf c ∨ fF cf sf c (u - cf c) = -1) := fun z => z.elim (fun z => by omega) (fun z => z.elim (fun z => by omega) h1)
      rw [if_neg h1, bsome, ai_o (by omega) (by omega), bsome, hcu.1]
      by_cases h2 : fF cf sf c (u - cf c) + sf c ≤ fF cf sf c u
      · rw [if_pos h2]
        have e : fF cf sf (c + 1) u = fF cf sf c u := by
          rw [fF_s, if_neg hn]
          by_cases h3 : fF cf sf c u ≤ fF cf sf c (u - cf c) + sf c
          · rw [if_pos h3]; exact Int32.le_antisymm h2 h3
          · rw [if_neg h3]
        exact ⟨_, rfl, C1, rfl, hO, stay (by unfold okT; rw [bF_s, if_pos e, e]; exact hcu)⟩
      · have e : fF cf sf (c + 1) u = fF cf sf c (u - cf c) + sf c := by rw [fF_s, if_neg hn, if_pos (Int32.le_of_lt (Int32.not_le.mp h2))]
        have ne : ¬ fF cf sf (c + 1) u = fF cf sf c u := fun z => h2 (by rw [← e, z]; exact Int32.le_refl _)
        rw [if_neg h2, bsome, wi_o (by omega) (by omega), bsome, show al (sI C1 15 u (fF cf sf c (u - cf c) + sf c)) 16 1000 (Int32.ofNat (u - cf c)) = some (ml C1 16 (u - cf c)) from al_o (by omega) (by omega), bsome, wl_o (by omega) (by omega), bsome, hb.2 h1]
        refine ⟨_, rfl, _, rfl, oml_sl (oml_si hO (Or.inl rfl)) (Or.inr rfl), fun s hs => ?_⟩
        have m15 : ∀ s, mi (sL (sI C1 15 u (fF cf sf c (u - cf c) + sf c)) 16 u (bF cf sf c (u - cf c) ||| ((1 : Int64) <<< ((Int32.ofNat c).toInt64 &&& 63)))) 15 s = if s = u then fF cf sf c (u - cf c) + sf c else mi C1 15 s := fun s => by
          show mi (sI C1 15 u _) 15 s = _
          rw [mi_sI, u1_at]
        have m16 : ∀ s, s ≠ u → ml (sL (sI C1 15 u (fF cf sf c (u - cf c) + sf c)) 16 u (bF cf sf c (u - cf c) ||| ((1 : Int64) <<< ((Int32.ofNat c).toInt64 &&& 63)))) 16 s = ml C1 16 s := fun s hs => ml_sL_o hs
        by_cases es : s = u
        · subst es
          refine ⟨fun _ => ⟨by rw [m15, if_pos rfl, e], fun _ => ?_⟩, fun z => by omega⟩
          rw [bF_s, if_neg ne]
          exact ml_sL_k
        · refine ⟨fun z => ?_, fun z => ?_⟩
          · unfold okT
            rw [m15, if_neg es, m16 s es]
            exact (hq1 s hs).1 (by omega)
          · unfold okT
            rw [m15, if_neg es, m16 s es]
            exact (hq1 s hs).2 (by omega)) (by
    rintro st ⟨C1, rfl, hO, hq1⟩
    refine ⟨C1, ?_, hO, fun s hs => ?_⟩
    · unfold f_X0_spendOn_b10
      dsimp only
      rw [if_pos ((oN_lt (by omega) (by omega)).mpr (by omega))]
    · by_cases hs2 : X - (X + 1 - cf c) < s
      · exact (hq1 s hs).1 hs2
      · have := same s (by omega)
        unfold okT
        rw [this.1, this.2]
        exact (hq1 s hs).2 hs2)
  unfold f_X0_spendOn
  rw [h9, show whl fu (f_X0_spendOn_b10 (Int32.ofNat c) (Int32.ofNat (cf c)) (sf c)) (Int32.ofNat X, C) = some C' from e1]
  exact ⟨C', rfl, e2, e3⟩
end FB
