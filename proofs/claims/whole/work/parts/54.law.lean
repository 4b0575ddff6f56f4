/-! level 3: a law worked off -/
/-- only ints of the things in S may differ -/
def Om (S : Nat → Prop) (M M' : Mm) : Prop := M'.1 = M.1 ∧ sh M' = sh M ∧ ln M' = ln M ∧ ml M' = ml M ∧ mr M' = mr M ∧ ∀ a, ¬ S a → mi M' a = mi M a
theorem Om.refl {S : Nat → Prop} {M : Mm} : Om S M M := ⟨rfl, rfl, rfl, rfl, rfl, fun _ _ => rfl⟩
theorem Om.trans {S : Nat → Prop} {A B C : Mm} (h1 : Om S A B) (h2 : Om S B C) : Om S A C := ⟨h2.1.trans h1.1, h2.2.1.trans h1.2.1, h2.2.2.1.trans h1.2.2.1, h2.2.2.2.1.trans h1.2.2.2.1, h2.2.2.2.2.1.trans h1.2.2.2.2.1, fun a ha => (h2.2.2.2.2.2 a ha).trans (h1.2.2.2.2.2 a ha)⟩
theorem Om.mono {S S' : Nat → Prop} {A B : Mm} (h : Om S A B) (hs : ∀ a, S a → S' a) : Om S' A B := ⟨h.1, h.2.1, h.2.2.1, h.2.2.2.1, h.2.2.2.2.1, fun a ha => h.2.2.2.2.2 a (fun p => ha (hs a p))⟩
theorem Om.sI {S : Nat → Prop} {M : Mm} {a k : Nat} {x : Int32} (h : S a) : Om S M (sI M a k x) := ⟨rfl, rfl, rfl, rfl, rfl, fun _ hj => mi_sI_ne (fun e => hj (by rw [e]; exact h))⟩
theorem Om.sA {S : Nat → Prop} {M : Mm} {a : Nat} {f : Nat → Int32} (h : S a) : Om S M (sA M a f) := ⟨rfl, rfl, rfl, rfl, rfl, fun _ hj => mi_sA_ne (fun e => hj (by rw [e]; exact h))⟩
theorem Om.at {S : Nat → Prop} {A B : Mm} (h : Om S A B) {a : Nat} (ha : ¬ S a) : mi B a = mi A a := h.2.2.2.2.2 a ha
theorem am1 {d : Nat} (h : 1 ≤ d) : Int32.ofNat d + -1 = Int32.ofNat (d - 1) := by
  rw [← Int32.sub_eq_add_neg, Int32.ofNat_sub _ _ h]; rfl
theorem am2 {d : Nat} (h : 2 ≤ d) : Int32.ofNat d + -2 = Int32.ofNat (d - 2) := by
  rw [← Int32.sub_eq_add_neg, Int32.ofNat_sub _ _ h]; rfl
theorem sb1 {d : Nat} (h : 1 ≤ d) : Int32.ofNat d - 1 = Int32.ofNat (d - 1) := by
  rw [Int32.ofNat_sub _ _ h]; rfl
theorem div_m1 (x : Int32) : x / -1 = -x := by
  apply Int32.toInt_inj.mp
  rw [Int32.toInt_div, show (-1 : Int32).toInt = -1 from rfl, Int.tdiv_neg, Int.tdiv_one, Int32.toInt_neg]
def jn (how x y : Int32) : Int32 := if how = 2 then x + y else if how = 3 then x - y else if how = 4 then x * y else if how = 5 then (if y = 0 then 0 else x / y) else (if y = 0 then 0 else x - x / y * y)
theorem m_by {N : Mm} {how x y : Int32} : f_X10_by how x y N = some (jn how x y) := by
  unfold f_X10_by jn
  by_cases h2 : how = 2
  · rw [if_pos h2, if_pos h2]
  by_cases h3 : how = 3
  · rw [if_neg h2, if_neg h2, if_pos h3, if_pos h3]
  by_cases h4 : how = 4
  · rw [if_neg h2, if_neg h2, if_neg h3, if_neg h3, if_pos h4, if_pos h4]
  rw [if_neg h2, if_neg h2, if_neg h3, if_neg h3, if_neg h4, if_neg h4]
  by_cases h5 : how = 5
  · rw [if_pos h5, if_pos h5]
    by_cases y0 : y = 0
    · rw [if_pos y0, if_pos y0]
    · rw [if_neg y0, if_neg y0]
      by_cases y1 : y = -1
      · rw [if_pos y1, y1, div_m1, if_neg (by decide)]
      · rw [if_neg y1, if_neg y0]
  · rw [if_neg h5, if_neg h5]
    by_cases y0 : y = 0
    · rw [if_pos y0, if_pos y0]
    · rw [if_neg y0, if_neg y0]
      by_cases y1 : y = -1
      · rw [if_pos y1, y1, div_m1, Int32.mul_neg, Int32.mul_one, Int32.neg_neg, Int32.sub_self, if_neg (by decide)]
      · rw [if_neg y1, if_neg y0]
theorem jn2 (x y : Int32) : jn 2 x y = x + y := rfl
theorem jn3 (x y : Int32) : jn 3 x y = x - y := rfl
theorem jn4 (x y : Int32) : jn 4 x y = x * y := rfl
theorem jn5 (x y : Int32) : jn 5 x y = if y = 0 then 0 else x / y := rfl
theorem jn6 (x y : Int32) : jn 6 x y = if y = 0 then 0 else x - x / y * y := rfl
/-- how a class's sign joins -/
theorem k_joined {C : Mm} {c how v x y : Int32} (h : cdE c how v) (hn : how ≠ 0 ∧ how ≠ 1 ∧ how ≠ 7) : f_X4_joined (-c) x y C = some (jn how x y) := by
  unfold cdE at h
  obtain ⟨n0, n1, n7⟩ := hn
  unfold f_X4_joined
  rcases h with ⟨e, -⟩ | ⟨e, -⟩ | ⟨e, rfl⟩ | ⟨e, rfl⟩ | ⟨e, rfl⟩ | ⟨e, rfl⟩ | ⟨e, rfl⟩ | ⟨e, -⟩
  · exact absurd e n0
  · exact absurd e n1
  · subst e; rw [if_neg (by decide), if_pos (by decide), jn2]
  · subst e; rw [if_neg (by decide), if_neg (by decide), if_pos (by decide), jn3]
  · subst e; rw [if_pos (by decide), jn4]
  · subst e
    rw [if_neg (by decide), if_neg (by decide), if_neg (by decide), if_pos (by decide), jn5]
    by_cases y0 : y = 0
    · rw [if_pos y0, if_pos y0]
    · rw [if_neg y0, if_neg y0, if_neg y0]
  · subst e
    rw [if_neg (by decide), if_neg (by decide), if_neg (by decide), if_neg (by decide), jn6]
    by_cases y0 : y = 0
    · rw [if_pos y0, if_pos y0]
    · rw [if_neg y0, if_neg y0, if_neg y0]
  · exact absurd e n7
/-- one code on the stack S of height d -/
def evS (nm : Nat → Int32) (how v : Int32) (d : Nat) (S : Nat → Int32) : Nat → Int32 :=
  if how = 0 then u1 S d v else if how = 1 then u1 S d (nm v.toNatClampNeg) else if how = 7 then u1 S (d - 3) (if S (d - 3) ≤ 0 then S (d - 1) else S (d - 2)) else u1 S (d - 2) (jn how (S (d - 2)) (S (d - 1)))
def evN (nm f : Nat → Int32) : Nat → Nat → Int32
  | 0 => fun _ => 0
  | n + 1 => evS nm (f (2 * n)) (f (2 * n + 1)) (dp f n) (evN nm f n)
theorem dp_le {f : Nat → Int32} : ∀ n, dp f n ≤ n := by
  intro n
  induction n with
  | zero => exact Nat.le_refl _
  | succ n ih =>
    unfold dp dpS
    split
    · omega
    · split <;> omega
theorem u1_at {f : Nat → Int32} {i j : Nat} {x : Int32} : u1 f i x j = if j = i then x else f j := rfl
section LE
variable {C T : Mm} {l : Nat} {c f nm : Nat → Int32} {n : Nat}
/-- the class's turn over a code -/
theorem k_code {M : Mm} {i d : Nat} {S : Nat → Int32} (h3 : mi M l 3 = Int32.ofNat n) (hn : n ≤ 150) (hi : i < n) (hd : d ≤ i) (hc : cdE (mi M (l + 1) i) (f (2 * i)) (f (2 * i + 1))) (ho : dpOk (f (2 * i)) d) (hS : ∀ j, j < d → mi M (l + 2) j = S j) (hm : ∀ j, j < 7 → mi M (l + 3) j = nm j) :
    ∃ M', f_X4_valueFor_b66 l (Int32.ofNat d, Int32.ofNat i, M) = some (.inl (Int32.ofNat (dpS (f (2 * i)) d), Int32.ofNat (i + 1), M')) ∧ Om (fun a => a = l + 2) M M' ∧ ∀ j, j < dpS (f (2 * i)) d → mi M' (l + 2) j = evS nm (f (2 * i)) (f (2 * i + 1)) d S j := by
  have h150 : ¬ (150 : Int32) ≤ Int32.ofNat d := nle (n := 150) (by omega) (by omega)
  unfold f_X4_valueFor_b66
  dsimp only
  rw [h3, if_neg (nle hi (by omega)), if_neg h150, ai_o (by omega) (by omega), bsome]
  generalize hcc : mi M (l + 1) i = cc at hc
  have push : ∀ x : Int32, ∃ M', f_X4_valueFor_j126 l (Int32.ofNat d) (Int32.ofNat i) (l + 2) (Int32.ofNat d) x M = some (.inl (Int32.ofNat (d + 1), Int32.ofNat (i + 1), M')) ∧ Om (fun a => a = l + 2) M M' ∧ ∀ j, j < d + 1 → mi M' (l + 2) j = u1 S d x j := fun x => by
    refine ⟨sI M (l + 2) d x, ?_, Om.sI rfl, fun j hj => ?_⟩
    · unfold f_X4_valueFor_j126
      rw [wi_o (by omega) (by omega), bsome, oN_S, oN_S]
    · rw [mi_sI, u1_at, u1_at]
      by_cases e : j = d
      · rw [if_pos e, if_pos e]
      · rw [if_neg e, if_neg e]; exact hS j (by omega)
  by_cases k0 : f (2 * i) = 0
  · have hv : f (2 * i + 1) = cc ∧ rg (f (2 * i + 1)) 0 999 := by
      rcases hc with ⟨-, a, b⟩ | ⟨e, -⟩ | ⟨e, -⟩ | ⟨e, -⟩ | ⟨e, -⟩ | ⟨e, -⟩ | ⟨e, -⟩ | ⟨e, -⟩ <;> first | exact ⟨a, b⟩ | (rw [k0] at e; exact absurd e (by decide))
    obtain ⟨v1, m, -, hm9, hm2⟩ := hv
    rw [v1] at hm2
    rw [hm2, if_neg (oN_nn (by omega)), if_neg (show ¬ (1000 : Int32) ≤ Int32.ofNat m from nle (n := 1000) (by omega) (by omega))]
    obtain ⟨M', p1, p2, p3⟩ := push (Int32.ofNat m)
    have e1 : dpS (f (2 * i)) d = d + 1 := if_pos (Or.inl k0)
    rw [e1]
    refine ⟨M', p1, p2, fun j hj => (p3 j hj).trans ?_⟩
    unfold evS
    rw [if_pos k0, v1, hm2]
  by_cases k1 : f (2 * i) = 1
  · have hv : rg (f (2 * i + 1)) 0 6 ∧ cc = 1000 + f (2 * i + 1) := by
      rcases hc with ⟨e, -⟩ | ⟨-, a, b⟩ | ⟨e, -⟩ | ⟨e, -⟩ | ⟨e, -⟩ | ⟨e, -⟩ | ⟨e, -⟩ | ⟨e, -⟩ <;> first | exact ⟨a, b⟩ | (rw [k1] at e; exact absurd e (by decide))
    obtain ⟨⟨m, -, hm9, hm2⟩, v2⟩ := hv
    have e9 : cc = Int32.ofNat (1000 + m) := by rw [v2, hm2, Int32.ofNat_add]; rfl
    have e8 : Int32.ofNat (1000 + m) - 1000 = Int32.ofNat m := by
      rw [show (1000 : Int32) = Int32.ofNat 1000 from rfl, ← Int32.ofNat_sub _ _ (by omega), show 1000 + m - 1000 = m by omega]
    have h7 : ¬ (7 : Int32) ≤ Int32.ofNat m := nle (n := 7) (by omega) (by omega)
    have e7 : f_X4_nameAt l (Int32.ofNat m) M = some (nm m) := by
      unfold f_X4_nameAt
      rw [if_neg (oN_nn (by omega)), if_neg h7, ai_o (by omega) (by omega), hm m (by omega)]
      rfl
    rw [e9, if_neg (oN_nn (by omega)), if_pos (show (1000 : Int32) ≤ Int32.ofNat (1000 + m) from lle (n := 1000) (by omega) (by omega)), e8, e7, bsome]
    obtain ⟨M', p1, p2, p3⟩ := push (nm m)
    have e1 : dpS (f (2 * i)) d = d + 1 := if_pos (Or.inr k1)
    rw [e1]
    refine ⟨M', p1, p2, fun j hj => (p3 j hj).trans ?_⟩
    unfold evS
    rw [if_neg k0, if_pos k1, hm2, oN_nat (by omega)]
  by_cases k7 : f (2 * i) = 7
  · have hv : cc = -63 := by
      rcases hc with ⟨e, -⟩ | ⟨e, -⟩ | ⟨e, -⟩ | ⟨e, -⟩ | ⟨e, -⟩ | ⟨e, -⟩ | ⟨e, -⟩ | ⟨-, a⟩ <;> first | exact a | (rw [k7] at e; exact absurd e (by decide))
    have hd3 : 3 ≤ d := by
      rcases ho with (o | o) | ⟨-, o⟩ | ⟨-, -, -, o⟩
      · exact absurd o k0
      · exact absurd o k1
      · exact o
      · exact absurd k7 o
    have h3' : ¬ Int32.ofNat d < (3 : Int32) := lenl (show Int32.ofNat 3 ≤ Int32.ofNat d from lle hd3 (by omega))
    rw [hv, if_pos (by decide), if_pos rfl, if_neg h3', am2 (by omega), sb1 (by omega), ai_o (i := d - 2 - 1) (by omega) (by omega), bsome, show d - 2 - 1 = d - 3 by omega, hS _ (by omega), oN_S, show d - 2 + 1 = d - 1 by omega, ai_o (i := d - 1) (by omega) (by omega), ai_o (i := d - 2) (by omega) (by omega), hS _ (by omega), hS _ (by omega), bsome, bsome]
    have e1 : dpS (f (2 * i)) d = d - 2 := by unfold dpS; rw [if_neg (fun p => p.elim k0 k1), if_pos k7]
    rw [e1]
    have fin : ∀ x : Int32, f_X4_valueFor_j188 l (Int32.ofNat (d - 2)) (Int32.ofNat i) (l + 2) (Int32.ofNat (d - 3)) x M = some (.inl (Int32.ofNat (d - 2), Int32.ofNat (i + 1), sI M (l + 2) (d - 3) x)) := fun x => by
      unfold f_X4_valueFor_j188
      rw [wi_o (by omega) (by omega), bsome, oN_S]
    refine ⟨sI M (l + 2) (d - 3) (if S (d - 3) ≤ 0 then S (d - 1) else S (d - 2)), ?_, Om.sI rfl, fun j hj => ?_⟩
    · by_cases s0 : S (d - 3) ≤ 0
      · rw [if_pos s0, if_pos s0, fin]
      · rw [if_neg s0, if_neg s0, fin]
    · unfold evS
      rw [if_neg k0, if_neg k1, if_pos k7, mi_sI, u1_at, u1_at]
      by_cases e : j = d - 3
      · rw [if_pos e, if_pos e]
      · rw [if_neg e, if_neg e]; exact hS j (by omega)
  · have hd2 : 2 ≤ d := by
      rcases ho with (o | o) | ⟨o, -⟩ | ⟨o, -⟩
      · exact absurd o k0
      · exact absurd o k1
      · exact absurd o k7
      · exact o
    have hv : cc < 0 ∧ ¬ cc = -63 := by
      rcases hc with ⟨e, -⟩ | ⟨e, -⟩ | ⟨e, rfl⟩ | ⟨e, rfl⟩ | ⟨e, rfl⟩ | ⟨e, rfl⟩ | ⟨e, rfl⟩ | ⟨e, -⟩ <;> first | exact absurd e k0 | exact absurd e k1 | exact absurd e k7 | exact ⟨by decide, by decide⟩
    have h2' : ¬ Int32.ofNat d < (2 : Int32) := lenl (show Int32.ofNat 2 ≤ Int32.ofNat d from lle hd2 (by omega))
    rw [if_pos hv.1, if_neg hv.2]
    unfold f_X4_valueFor_j192
    have e1 : dpS (f (2 * i)) d = d - 1 := by unfold dpS; rw [if_neg (fun p => p.elim k0 k1), if_neg k7]
    rw [if_neg h2', am1 (by omega), sb1 (by omega), show d - 1 - 1 = d - 2 by omega, ai_o (i := d - 2) (by omega) (by omega), bsome, ai_o (i := d - 1) (by omega) (by omega), bsome, hS _ (by omega), hS _ (by omega), k_joined hc ⟨k0, k1, k7⟩, bsome, wi_o (by omega) (by omega), bsome, oN_S, e1]
    refine ⟨_, rfl, Om.sI rfl, fun j hj => ?_⟩
    unfold evS
    rw [if_neg k0, if_neg k1, if_neg k7, mi_sI, u1_at, u1_at]
    by_cases e : j = d - 2
    · rw [if_pos e, if_pos e]
    · rw [if_neg e, if_neg e]; exact hS j (by omega)
theorem k_codes {M : Mm} (h3 : mi M l 3 = Int32.ofNat n) (hn : n ≤ 150) (hE : lwE (mi M (l + 1)) f n) (hm : ∀ j, j < 7 → mi M (l + 3) j = nm j) :
    ∃ M', whl fu (f_X4_valueFor_b66 l) (0, 0, M) = some M' ∧ Om (fun a => a = l + 2) M M' ∧ ∀ j, j < dp f n → mi M' (l + 2) j = evN nm f n j := by
  refine whl_ex (f := f_X4_valueFor_b66 l) (fun i s => ∃ M1, s = (Int32.ofNat (dp f i), Int32.ofNat i, M1) ∧ i ≤ n ∧ Om (fun a => a = l + 2) M M1 ∧ ∀ j, j < dp f i → mi M1 (l + 2) j = evN nm f i j) (fun M' => Om (fun a => a = l + 2) M M' ∧ ∀ j, j < dp f n → mi M' (l + 2) j = evN nm f n j) n fu (0, 0, M) (by show n < 1000000; omega) ⟨M, rfl, Nat.zero_le _, Om.refl, fun j hj => absurd hj (Nat.not_lt_zero _)⟩ ?_ ?_
  · rintro i s hi ⟨M1, rfl, -, hO, hS⟩
    obtain ⟨M2, p1, p2, p3⟩ := k_code (l := l) (f := f) (nm := nm) (M := M1) (n := n) (i := i) (d := dp f i) (S := evN nm f i) (by rw [hO.at (show ¬ l = l + 2 by omega)]; exact h3) hn hi (dp_le i) (by rw [hO.at (show ¬ l + 1 = l + 2 by omega)]; exact (hE i hi).1) (hE i hi).2 hS (fun j hj => by rw [hO.at (show ¬ l + 3 = l + 2 by omega)]; exact hm j hj)
    exact Or.inl ⟨_, p1, M2, rfl, hi, hO.trans p2, p3⟩
  · rintro s ⟨M1, rfl, -, hO, hS⟩
    refine ⟨M1, ?_, hO, hS⟩
    unfold f_X4_valueFor_b66
    dsimp only
    rw [hO.at (show ¬ l = l + 2 by omega), h3, if_pos (le_rf _)]
end LE
