/-! level 3: the reference's law worked off; damage, rise -/
theorem om_si {S : Nat → Prop} {A M : Mm} {a k : Nat} {x : Int32} (h : Om S A M) (hs : S a) : Om S A (sI M a k x) := h.trans (Om.sI hs)
section LM
variable {T : Mm} {c nm : Nat → Int32} {n : Nat}
theorem tw2 {j : Nat} : (2 : Int32) * Int32.ofNat j = Int32.ofNat (2 * j) := by rw [Int32.ofNat_mul]; rfl
theorem m_code {M : Mm} {w i d : Nat} {S : Nat → Int32} (hw : w = 0 ∨ w = 1) (h3 : mi M 114 w = Int32.ofNat n) (hn : n ≤ 150) (hi : i < n) (hd : d ≤ i) (hc : cdE (c i) (mi M (118 + w) (2 * i)) (mi M (118 + w) (2 * i + 1))) (ho : dpOk (mi M (118 + w) (2 * i)) d) (hS : ∀ j, j < d → mi M 115 j = S j) (hm : ∀ j, j < 7 → mi M 116 j = nm j) :
    ∃ M', f_X10_byLaw_b30 (Int32.ofNat w) (Int32.ofNat d, Int32.ofNat i, M) = some (.inl (Int32.ofNat (dpS (mi M (118 + w) (2 * i)) d), Int32.ofNat (i + 1), M')) ∧ Om (fun a => a = 115) M M' ∧ ∀ j, j < dpS (mi M (118 + w) (2 * i)) d → mi M' 115 j = evS nm (mi M (118 + w) (2 * i)) (mi M (118 + w) (2 * i + 1)) d S j := by
  unfold f_X10_byLaw_b30
  dsimp only
  have hq : ar 117 2 (Int32.ofNat w) = some (118 + w) := by rw [ar_o (by omega) (by omega), show 117 + 1 + w = 118 + w by omega]
  have e21 : Int32.ofNat (2 * i) + 1 = Int32.ofNat (2 * i + 1) := oN_S
  rw [ai_o (by omega) (by omega), bsome, h3, if_neg (nle hi (by omega)), hq, bsome, tw2, ai_o (by omega) (by omega), bsome, bsome, e21, ai_o (by omega) (by omega), bsome]
  generalize mi M (118 + w) (2 * i) = how at hc ho
  generalize mi M (118 + w) (2 * i + 1) = v at hc
  have push : ∀ x : Int32, ∃ M', f_X10_byLaw_j94 (Int32.ofNat w) (Int32.ofNat d) (Int32.ofNat i) (Int32.ofNat d) x M = some (.inl (Int32.ofNat (d + 1), Int32.ofNat (i + 1), M')) ∧ Om (fun a => a = 115) M M' ∧ ∀ j, j < d + 1 → mi M' 115 j = u1 S d x j := fun x => by
    refine ⟨sI M 115 d x, ?_, Om.sI rfl, fun j hj => ?_⟩
    · unfold f_X10_byLaw_j94
      rw [wi_o (by omega) (by omega), bsome, oN_S, oN_S]
    · rw [mi_sI, u1_at, u1_at]
      by_cases e : j = d
      · rw [if_pos e, if_pos e]
      · rw [if_neg e, if_neg e]; exact hS j (by omega)
  by_cases k0 : how = 0
  · have h2 : ¬ (2 : Int32) ≤ how := by rw [k0]; decide
    rw [if_neg h2, if_pos k0]
    obtain ⟨M', p1, p2, p3⟩ := push v
    have e1 : dpS how d = d + 1 := if_pos (Or.inl k0)
    rw [e1]
    refine ⟨M', p1, p2, fun j hj => (p3 j hj).trans ?_⟩
    unfold evS
    rw [if_pos k0]
  by_cases k1 : how = 1
  · have hv : rg v 0 6 := by
      rcases hc with ⟨e, -⟩ | ⟨-, a, b⟩ | ⟨e, -⟩ | ⟨e, -⟩ | ⟨e, -⟩ | ⟨e, -⟩ | ⟨e, -⟩ | ⟨e, -⟩ <;> first | exact a | (rw [k1] at e; exact absurd e (by decide))
    obtain ⟨m, -, hm9, hm2⟩ := hv
    have h2 : ¬ (2 : Int32) ≤ how := by rw [k1]; decide
    rw [if_neg h2, if_neg k0, hm2, ai_o (by omega) (by omega), bsome, hm m (by omega)]
    obtain ⟨M', p1, p2, p3⟩ := push (nm m)
    have e1 : dpS how d = d + 1 := if_pos (Or.inr k1)
    rw [e1]
    refine ⟨M', p1, p2, fun j hj => (p3 j hj).trans ?_⟩
    unfold evS
    rw [if_neg k0, if_pos k1, oN_nat (by omega)]
  have h2 : (2 : Int32) ≤ how := by
    rcases hc with ⟨e, -⟩ | ⟨e, -⟩ | ⟨e, -⟩ | ⟨e, -⟩ | ⟨e, -⟩ | ⟨e, -⟩ | ⟨e, -⟩ | ⟨e, -⟩ <;> first | exact absurd e k0 | exact absurd e k1 | (rw [e]; decide)
  rw [if_pos h2]
  by_cases k7 : how = 7
  · have hd3 : 3 ≤ d := by
      rcases ho with (o | o) | ⟨-, o⟩ | ⟨-, -, -, o⟩
      · exact absurd o k0
      · exact absurd o k1
      · exact o
      · exact absurd k7 o
    rw [if_pos k7, am2 (by omega), sb1 (by omega), ai_o (i := d - 2 - 1) (by omega) (by omega), bsome, show d - 2 - 1 = d - 3 by omega, hS _ (by omega), oN_S, show d - 2 + 1 = d - 1 by omega, ai_o (i := d - 1) (by omega) (by omega), ai_o (i := d - 2) (by omega) (by omega), hS _ (by omega), hS _ (by omega), bsome, bsome]
    have e1 : dpS how d = d - 2 := by unfold dpS; rw [if_neg (fun p => p.elim k0 k1), if_pos k7]
    rw [e1]
    have fin : ∀ x : Int32, f_X10_byLaw_j146 (Int32.ofNat w) (Int32.ofNat (d - 2)) (Int32.ofNat i) (Int32.ofNat (d - 3)) x M = some (.inl (Int32.ofNat (d - 2), Int32.ofNat (i + 1), sI M 115 (d - 3) x)) := fun x => by
      unfold f_X10_byLaw_j146
      rw [wi_o (by omega) (by omega), bsome, oN_S]
    refine ⟨sI M 115 (d - 3) (if S (d - 3) ≤ 0 then S (d - 1) else S (d - 2)), ?_, Om.sI rfl, fun j hj => ?_⟩
    · by_cases s0 : S (d - 3) ≤ 0
      · rw [if_pos s0, if_pos s0, fin]
      · rw [if_neg s0, if_neg s0, fin]
    · unfold evS
      rw [if_neg k0, if_neg k1, if_pos k7, mi_sI, u1_at, u1_at]
      by_cases e : j = d - 3
      · rw [if_pos e, if_pos e]
      · rw [if_neg e, if_neg e]; exact hS j (by omega)
  · have hd2 : 2 ≤ d := by
      rcases ho with (o | o) | ⟨o, -⟩ | ⟨o, -⟩
      · exact absurd o k0
      · exact absurd o k1
      · exact absurd o k7
      · exact o
    have e1 : dpS how d = d - 1 := by unfold dpS; rw [if_neg (fun p => p.elim k0 k1), if_neg k7]
    rw [if_neg k7, am1 (by omega), sb1 (by omega), show d - 1 - 1 = d - 2 by omega, ai_o (i := d - 2) (by omega) (by omega), bsome, ai_o (i := d - 1) (by omega) (by omega), bsome, hS _ (by omega), hS _ (by omega), m_by, bsome, wi_o (by omega) (by omega), bsome, oN_S, e1]
    refine ⟨_, rfl, Om.sI rfl, fun j hj => ?_⟩
    unfold evS
    rw [if_neg k0, if_neg k1, if_neg k7, mi_sI, u1_at, u1_at]
    by_cases e : j = d - 2
    · rw [if_pos e, if_pos e]
    · rw [if_neg e, if_neg e]; exact hS j (by omega)
theorem m_codes {M : Mm} {w : Nat} (hw : w = 0 ∨ w = 1) (h3 : mi M 114 w = Int32.ofNat n) (hn : n ≤ 150) (hE : lwE c (mi M (118 + w)) n) (hm : ∀ j, j < 7 → mi M 116 j = nm j) :
    ∃ M', whl fu (f_X10_byLaw_b30 (Int32.ofNat w)) (0, 0, M) = some M' ∧ Om (fun a => a = 115) M M' ∧ ∀ j, j < dp (mi M (118 + w)) n → mi M' 115 j = evN nm (mi M (118 + w)) n j := by
  refine whl_ex (f := f_X10_byLaw_b30 (Int32.ofNat w)) (fun i s => ∃ M1, s = (Int32.ofNat (dp (mi M (118 + w)) i), Int32.ofNat i, M1) ∧ i ≤ n ∧ Om (fun a => a = 115) M M1 ∧ ∀ j, j < dp (mi M (118 + w)) i → mi M1 115 j = evN nm (mi M (118 + w)) i j) (fun M' => Om (fun a => a = 115) M M' ∧ ∀ j, j < dp (mi M (118 + w)) n → mi M' 115 j = evN nm (mi M (118 + w)) n j) n fu (0, 0, M) (by show n < 1000000; omega) ⟨M, rfl, Nat.zero_le _, Om.refl, fun j hj => absurd hj (Nat.not_lt_zero _)⟩ ?_ ?_
  · rintro i s hi ⟨M1, rfl, -, hO, hS⟩
    have e8 : mi M1 (118 + w) = mi M (118 + w) := hO.at (by omega)
    obtain ⟨M2, p1, p2, p3⟩ := m_code (c := c) (nm := nm) (M := M1) (n := n) (w := w) (i := i) (d := dp (mi M (118 + w)) i) (S := evN nm (mi M (118 + w)) i) hw (by rw [hO.at (show ¬ 114 = 115 by omega)]; exact h3) hn hi (dp_le i) (by rw [e8]; exact (hE i hi).1) (by rw [e8]; exact (hE i hi).2) hS (fun j hj => by rw [hO.at (show ¬ 116 = 115 by omega)]; exact hm j hj)
    rw [e8] at p1 p3
    exact Or.inl ⟨_, p1, M2, rfl, hi, hO.trans p2, p3⟩
  · rintro s ⟨M1, rfl, -, hO, hS⟩
    refine ⟨M1, ?_, hO, hS⟩
    unfold f_X10_byLaw_b30
    dsimp only
    rw [ai_o (by omega) (by omega), bsome, hO.at (show ¬ 114 = 115 by omega), h3, if_pos (le_rf _)]
/-- a law's value -/
def lawV (T : Mm) (i : Nat) (nm : Nat → Int32) : Int32 := if mi T 114 i = 0 then (if i = 0 then 2 * nm 0 else 0) else evN nm (mi T (118 + i)) (mi T 114 i).toNatClampNeg 0
theorem m_byLaw {C M : Mm} {l w : Nat} (hw : w = 0 ∨ w = 1) (hR : RLaw C M l w) (hm : ∀ j, j < 7 → mi M 116 j = nm j) : ∃ M', f_X10_byLaw (Int32.ofNat w) M = some (lawV M w nm, M') ∧ Om (fun a => a = 115) M M' := by
  unfold f_X10_byLaw lawV
  rw [ai_o (by omega) (by omega), bsome]
  rcases hR with ⟨h0, -⟩ | ⟨n, hn0, hn, -, h3, hE, hd⟩
  · rw [if_pos h0, if_pos h0]
    rcases hw with rfl | rfl
    · rw [if_pos (by decide), if_pos rfl, show ai M 116 7 0 = some (mi M 116 0) from ai_o (i := 0) (by omega) (by omega), bsome, hm 0 (by omega)]
      exact ⟨M, rfl, Om.refl⟩
    · rw [if_neg (by decide), if_neg (by decide)]
      exact ⟨M, rfl, Om.refl⟩
  · have hz : ¬ mi M 114 w = 0 := by
      rw [h3]
      intro e
      have := (oN_eq (j := 0) (by omega) (by omega)).mp e
      omega
    obtain ⟨M', p1, p2, p3⟩ := m_codes (c := mi C (l + 1)) hw h3 hn hE hm
    rw [if_neg hz, if_neg hz, p1, bsome, show ai M' 115 160 0 = some (mi M' 115 0) from ai_o (i := 0) (by omega) (by omega), bsome, h3, oN_nat (by omega), p3 0 (by omega)]
    exact ⟨M', rfl, p2⟩
def nmN (T : Mm) (r : Nat → Int32) (c : Nat) (size year all : Int32) : Nat → Int32
  | 0 => size
  | 1 => mi T 82 c
  | 2 => year
  | 3 => lyIn r c
  | 4 => Int32.ofNat (c % 8)
  | 5 => Int32.ofNat (c / 8)
  | _ => all
theorem k_valueFor {C T : Mm} {l w : Nat} (hR : RLaw C T l w) {x1 x2 x3 x4 x6 : Int32} {c9 : Nat} (hc : c9 < 48) (hn : nm 0 = x1 ∧ nm 1 = x2 ∧ nm 2 = x3 ∧ nm 3 = x4 ∧ nm 4 = Int32.ofNat (c9 % 8) ∧ nm 5 = Int32.ofNat (c9 / 8) ∧ nm 6 = x6) : ∃ C', f_X4_valueFor l x1 x2 x3 x4 (Int32.ofNat c9) x6 C = some (lawV T w nm, C') ∧ Om (fun a => a = l + 2 ∨ a = l + 3) C C' := by
  obtain ⟨n0, n1, n2, n3, n4, n5, n6⟩ := hn
  unfold f_X4_valueFor
  rw [show ∀ (N : Mm) (x : Int32), wi N (l + 3) 7 0 x = some (sI N (l + 3) 0 x) from fun N x => wi_o (i := 0) (by omega) (by omega), bsome,
    show ∀ (N : Mm) (x : Int32), wi N (l + 3) 7 1 x = some (sI N (l + 3) 1 x) from fun N x => wi_o (i := 1) (by omega) (by omega), bsome,
    show ∀ (N : Mm) (x : Int32), wi N (l + 3) 7 2 x = some (sI N (l + 3) 2 x) from fun N x => wi_o (i := 2) (by omega) (by omega), bsome,
    show ∀ (N : Mm) (x : Int32), wi N (l + 3) 7 3 x = some (sI N (l + 3) 3 x) from fun N x => wi_o (i := 3) (by omega) (by omega), bsome, k_column hc, bsome,
    show ∀ (N : Mm) (x : Int32), wi N (l + 3) 7 4 x = some (sI N (l + 3) 4 x) from fun N x => wi_o (i := 4) (by omega) (by omega), bsome, k_row hc, bsome,
    show ∀ (N : Mm) (x : Int32), wi N (l + 3) 7 5 x = some (sI N (l + 3) 5 x) from fun N x => wi_o (i := 5) (by omega) (by omega), bsome,
    show ∀ (N : Mm) (x : Int32), wi N (l + 3) 7 6 x = some (sI N (l + 3) 6 x) from fun N x => wi_o (i := 6) (by omega) (by omega), bsome]
  generalize hN : sI (sI (sI (sI (sI (sI (sI C (l + 3) 0 x1) (l + 3) 1 x2) (l + 3) 2 x3) (l + 3) 3 x4) (l + 3) 4 (Int32.ofNat (c9 % 8))) (l + 3) 5 (Int32.ofNat (c9 / 8))) (l + 3) 6 x6 = N
  have hO : Om (fun a => a = l + 3) C N := by
    rw [← hN]
    exact om_si (om_si (om_si (om_si (om_si (om_si (om_si Om.refl rfl) rfl) rfl) rfl) rfl) rfl) rfl
  have hm : ∀ j, j < 7 → mi N (l + 3) j = nm j := by
    intro j hj
    rw [← hN]
    have h9 : j = 0 ∨ j = 1 ∨ j = 2 ∨ j = 3 ∨ j = 4 ∨ j = 5 ∨ j = 6 := by omega
    rcases h9 with rfl | rfl | rfl | rfl | rfl | rfl | rfl
    · rw [mi_sI_o (by omega), mi_sI_o (by omega), mi_sI_o (by omega), mi_sI_o (by omega), mi_sI_o (by omega), mi_sI_o (by omega), mi_sI_k, n0]
    · rw [mi_sI_o (by omega), mi_sI_o (by omega), mi_sI_o (by omega), mi_sI_o (by omega), mi_sI_o (by omega), mi_sI_k, n1]
    · rw [mi_sI_o (by omega), mi_sI_o (by omega), mi_sI_o (by omega), mi_sI_o (by omega), mi_sI_k, n2]
    · rw [mi_sI_o (by omega), mi_sI_o (by omega), mi_sI_o (by omega), mi_sI_k, n3]
    · rw [mi_sI_o (by omega), mi_sI_o (by omega), mi_sI_k, n4]
    · rw [mi_sI_o (by omega), mi_sI_k, n5]
    · rw [mi_sI_k, n6]
  have e0 : mi N l = mi C l := hO.at (by omega)
  have e1 : mi N (l + 1) = mi C (l + 1) := hO.at (by omega)
  have run : ∀ (f : Nat → Int32) (n : Nat), mi C l 3 = Int32.ofNat n → n ≤ 150 → lwE (mi C (l + 1)) f n → dp f n = 1 → ∃ C', (whl fu (f_X4_valueFor_b66 l) (0, 0, N)).bind (fun M45 => (ai M45 (l + 2) 150 0).bind fun v47 => some (v47, M45)) = some (evN nm f n 0, C') ∧ Om (fun a => a = l + 2 ∨ a = l + 3) C C' := by
    intro f n g3 gn gE gd
    obtain ⟨M', p1, p2, p3⟩ := k_codes (l := l) (f := f) (nm := nm) (M := N) (n := n) (by rw [e0]; exact g3) gn (by rw [e1]; exact gE) hm
    refine ⟨M', ?_, (hO.mono (fun a h => Or.inr h)).trans (p2.mono (fun a h => Or.inl h))⟩
    rw [p1, bsome, show ai M' (l + 2) 150 0 = some (mi M' (l + 2) 0) from ai_o (i := 0) (by omega) (by omega), bsome, p3 0 (by omega)]
  unfold lawV
  rcases hR with ⟨h0, ⟨hw, g3, a0, a1, a2⟩ | ⟨hw, g3, a0⟩⟩ | ⟨n, hn0, hn, g3, h3, hE, hd⟩
  · subst hw
    rw [if_pos h0, if_pos rfl]
    obtain ⟨C', p1, p2⟩ := run (fun j => ([1, 0, 0, 2, 4, 0] : List Int32).getD j 0) 3 g3 (by omega) (by
      intro j hj
      have h9 : j = 0 ∨ j = 1 ∨ j = 2 := by omega
      rcases h9 with rfl | rfl | rfl
      · rw [a0]; exact ⟨Or.inr (Or.inl ⟨rfl, ⟨0, by omega, by omega, rfl⟩, rfl⟩), Or.inl (Or.inr rfl)⟩
      · rw [a1]; exact ⟨Or.inl ⟨rfl, rfl, ⟨2, by omega, by omega, rfl⟩⟩, Or.inl (Or.inl rfl)⟩
      · rw [a2]; exact ⟨Or.inr (Or.inr (Or.inr (Or.inr (Or.inl ⟨rfl, rfl⟩)))), Or.inr (Or.inr ⟨by decide, by decide, by decide, by decide⟩)⟩) (by decide)
    refine ⟨C', p1.trans ?_, p2⟩
    rw [Int32.mul_comm 2 (nm 0)]
    rfl
  · subst hw
    rw [if_pos h0, if_neg (by decide)]
    obtain ⟨C', p1, p2⟩ := run (fun j => 0) 1 g3 (by omega) (by
      intro j hj
      have h9 : j = 0 := by omega
      subst h9
      rw [a0]
      exact ⟨Or.inl ⟨rfl, rfl, ⟨0, by omega, by omega, rfl⟩⟩, Or.inl (Or.inl rfl)⟩) (by decide)
    exact ⟨C', p1, p2⟩
  · have hz : ¬ mi T 114 w = 0 := by
      rw [h3]
      intro e
      have := (oN_eq (j := 0) (by omega) (by omega)).mp e
      omega
    rw [if_neg hz, h3, oN_nat (by omega)]
    exact run _ n g3 hn hE hd
/-- between low and high -/
def clp (hi v : Int32) : Int32 := if 0 ≤ (if v ≤ hi then v else hi) then (if v ≤ hi then v else hi) else 0
theorem k_within {C : Mm} {v hi : Int32} : f_X9_within v 0 hi C = some (clp hi v) := by
  unfold f_X9_within clp mmax mmin
  have e : (if v < hi then v else hi) = if v ≤ hi then v else hi := by
    by_cases h1 : v < hi
    · rw [if_pos h1, if_pos (Int32.le_of_lt h1)]
    · rw [if_neg h1]
      by_cases h2 : v ≤ hi
      · rw [if_pos h2]; exact Int32.le_antisymm (nlt h1) h2
      · rw [if_neg h2]
  rw [e]
  generalize (if v ≤ hi then v else hi) = z
  by_cases h1 : 0 < z
  · rw [if_pos h1, if_pos (Int32.le_of_lt h1)]
  · rw [if_neg h1]
    by_cases h2 : 0 ≤ z
    · rw [if_pos h2]; exact congrArg some (Int32.le_antisymm h2 (nlt h1))
    · rw [if_neg h2]
theorem m_within {N : Mm} {v hi : Int32} : (f_X10_less hi v N).bind (fun v3 => f_X10_more 0 v3 N) = some (clp hi v) := rfl
end LM
