/-! level 3: heaps: how far the stones are carried -/
theorem sum_loopA {b : (Int32 × Int32) → Option ((Int32 × Int32) ⊕ Int32)} (n : Nat) (F : Nat → Int32) (a0 : Int32) (hn : n < 1000000) (hs : ∀ i, i < n → ∀ s, b (s, Int32.ofNat i) = some (.inl (s + F i, Int32.ofNat i + 1))) (he : ∀ s, b (s, Int32.ofNat n) = some (.inr s)) : whl fu b (a0, 0) = some (a0 + sm n F) := by
  have h := whl_eq (f := b) (e := a0 + sm n F) n fu (fun i => (a0 + sm i F, Int32.ofNat i)) hn (fun i hi => by
    show b (a0 + sm i F, Int32.ofNat i) = _
    rw [hs i hi, oN_S, Int32.add_assoc]
    rfl) (he _)
  have h2 : whl fu b (a0 + 0, 0) = some (a0 + sm n F) := h
  rw [Int32.add_zero] at h2
  exact h2
section HP
variable {k : Nat} {M : Mm} {q : Nat → Nat}
def toW (r : Nat → Int32) (i : Nat) : Int32 := Int32.ofNat (rC r i % 8) + 1
def hwc (r : Nat → Int32) (c i : Nat) : Int32 := if c < 48 then mmin (toW r i) (fr (rC r i) c) else toW r i
def cnt (r : Nat → Int32) : Nat → Nat
  | 0 => 0
  | i + 1 => if Th r i then cnt r i + 1 else cnt r i
theorem cnt_le {r : Nat → Int32} : ∀ i, cnt r i ≤ i := by
  intro i
  induction i with
  | zero => exact Nat.le_refl _
  | succ i ih => unfold cnt; split <;> omega
theorem cnt_lt {r : Nat → Int32} {j i : Nat} (h : j < i) (hT : Th r j) : cnt r j < cnt r i := by
  induction i with
  | zero => omega
  | succ i ih =>
    by_cases e : j = i
    · subst e
      rw [show cnt r (j + 1) = cnt r j + 1 from if_pos hT]
      omega
    · have := ih (by omega)
      have e9 : cnt r i ≤ cnt r (i + 1) := by
        rw [show cnt r (i + 1) = if Th r i then cnt r i + 1 else cnt r i from rfl]
        split <;> omega
      omega
theorem sm_cnt {r : Nat → Int32} {G H : Nat → Int32} : ∀ n, (∀ j, j < n → Th r j → G (cnt r j) = H j) → sm (cnt r n) G = sm n (fun i => if Th r i then H i else 0) := by
  intro n
  induction n with
  | zero => intro _; rfl
  | succ n ih =>
    intro h
    have h1 := ih (fun j hj => h j (by omega))
    show sm (cnt r (n + 1)) G = sm n _ + (if Th r n then H n else 0)
    by_cases hT : Th r n
    · rw [show cnt r (n + 1) = cnt r n + 1 from if_pos hT, if_pos hT]
      show sm (cnt r n) G + G (cnt r n) = _
      rw [h1, h n (by omega) hT]
    · rw [show cnt r (n + 1) = cnt r n from if_neg hT, if_neg hT, h1, Int32.add_zero]
theorem k_measureCarry {C : Mm} {r : Nat → Int32} {i t : Nat} (hc : rC r i < 48) (ht : t < 60) (e5 : mi C 12 5 = Int32.ofNat t) : ∃ C', f_X0_measureCarry (Int32.ofNat (rC r i)) C = some C' ∧ Om (fun a => a = 17) C C' ∧ (∀ c, c ≤ 48 → mi C' 17 (c * 60 + t) = hwc r c i) ∧ (∀ c t', c ≤ 48 → t' < 60 → t' ≠ t → mi C' 17 (c * 60 + t') = mi C 17 (c * 60 + t')) := by
  unfold f_X0_measureCarry
  rw [k_column hc, bsome]
  obtain ⟨C1, e1, hO, p1, p2⟩ := whl_ex (f := f_X0_measureCarry_b9 (Int32.ofNat (rC r i)) (Int32.ofNat (rC r i % 8) + 1)) (fun j st => ∃ C1, st = (Int32.ofNat j, C1) ∧ Om (fun a => a = 17) C C1 ∧ (∀ c, c < j → mi C1 17 (c * 60 + t) = hwc r c i) ∧ (∀ c t', c ≤ 48 → t' < 60 → t' ≠ t → mi C1 17 (c * 60 + t') = mi C 17 (c * 60 + t'))) (fun C1 => Om (fun a => a = 17) C C1 ∧ (∀ c, c < 48 → mi C1 17 (c * 60 + t) = hwc r c i) ∧ (∀ c t', c ≤ 48 → t' < 60 → t' ≠ t → mi C1 17 (c * 60 + t') = mi C 17 (c * 60 + t'))) 48 fu (0, C) (by decide) ⟨C, rfl, Om.refl, fun c hc => absurd hc (by omega), fun _ _ _ _ _ => rfl⟩ (by
    rintro j st hj ⟨C1, rfl, hO, p1, p2⟩
    have h48 : ¬ (48 : Int32) ≤ Int32.ofNat j := nle (n := 48) hj (by omega)
    have ix : Int32.ofNat j * (60 : Int32) + Int32.ofNat t = Int32.ofNat (j * 60 + t) := by rw [Int32.ofNat_add, Int32.ofNat_mul]; rfl
    refine Or.inl ⟨_, ?_, sI C1 17 (j * 60 + t) (hwc r j i), rfl, om_si hO rfl, fun c hc => ?_, fun c t' h1 h2 h3 => ?_⟩
    · unfold f_X0_measureCarry_b9
      dsimp only
      rw [if_neg h48, k_far hc hj, bsome, hO.at (show ¬ 12 = 17 by omega), e5, ix, wi_o (by omega) (by omega), bsome, oN_S]
      unfold hwc toW
      rw [if_pos hj]
    · rw [mi_sI, u1_at]
      by_cases e : c * 60 + t = j * 60 + t
      · rw [if_pos e, show c = j by omega]
      · rw [if_neg e]; exact p1 c (by omega)
    · rw [mi_sI, u1_at, if_neg (by omega)]
      exact p2 c t' h1 h2 h3) (by
    rintro st ⟨C1, rfl, hO, p1, p2⟩
    refine ⟨C1, ?_, hO, p1, p2⟩
    unfold f_X0_measureCarry_b9
    dsimp only
    rw [if_pos (show (48 : Int32) ≤ Int32.ofNat 48 from le_rf _)])
  have ix : (2880 : Int32) + Int32.ofNat t = Int32.ofNat (2880 + t) := by rw [Int32.ofNat_add]; rfl
  rw [e1, bsome, hO.at (show ¬ 12 = 17 by omega), e5, ix, wi_o (by omega) (by omega), bsome]
  refine ⟨_, rfl, om_si hO rfl, fun c hc => ?_, fun c t' h1 h2 h3 => ?_⟩
  · rw [mi_sI, u1_at]
    by_cases e : c * 60 + t = 2880 + t
    · rw [if_pos e]
      unfold hwc toW
      rw [if_neg (by omega)]
    · rw [if_neg e]; exact p1 c (by omega)
  · rw [mi_sI, u1_at, if_neg (by omega)]
    exact p2 c t' h1 h2 h3
theorem k_measureCarries {C : Mm} {w w9 h9 : Nat} {r : Nat → Int32} (hW : RW C w r) (hV : VR w9 h9 r) (hw : ∀ a, (a = 12 ∨ a = 17) → ¬ (w ≤ a ∧ a ≤ w + 7)) : ∃ C', f_X0_measureCarries w C = some C' ∧ Om (fun a => a = 12 ∨ a = 17) C C' ∧ mi C' 12 5 = Int32.ofNat (cnt r (rN r)) ∧ ∀ j, j < rN r → Th r j → ∀ c, c ≤ 48 → mi C' 17 (c * 60 + cnt r j) = hwc r c j := by
  have h6 := hV.n60
  have st : ∀ C1, Om (fun a => a = 12 ∨ a = 17) C C1 → RW C1 w r := fun C1 hO => hW.frame (fun j hj => hO.at (fun hs => hw _ hs (by omega)))
  obtain ⟨C1, e1, hO, p1, p2⟩ := whl_ex (f := f_X0_measureCarries_b7 w) (fun i s => ∃ C1, s = (Int32.ofNat i, C1) ∧ i ≤ rN r ∧ Om (fun a => a = 12 ∨ a = 17) C C1 ∧ mi C1 12 5 = Int32.ofNat (cnt r i) ∧ ∀ j, j < i → Th r j → ∀ c, c ≤ 48 → mi C1 17 (c * 60 + cnt r j) = hwc r c j) (fun C1 => Om (fun a => a = 12 ∨ a = 17) C C1 ∧ mi C1 12 5 = Int32.ofNat (cnt r (rN r)) ∧ ∀ j, j < rN r → Th r j → ∀ c, c ≤ 48 → mi C1 17 (c * 60 + cnt r j) = hwc r c j) (rN r) fu (0, sI C 12 5 0) (by show rN r < 1000000; omega) ⟨_, rfl, by omega, Om.sI (Or.inl rfl), mi_sI_k, fun j hj => absurd hj (by omega)⟩ (by
    rintro i s hi ⟨C1, rfl, -, hO, p1, p2⟩
    have hW1 := st C1 hO
    have hcl := cnt_le (r := r) i
    have h60 : ¬ (60 : Int32) ≤ Int32.ofNat (cnt r i) := nle (n := 60) (by omega) (by omega)
    refine Or.inl ?_
    unfold f_X0_measureCarries_b7
    dsimp only
    rw [hW1.n, hV.n, if_neg (nle hi hV.n1), p1, if_neg h60, k_isAsked hV hW1 hi, bsome]
    by_cases hT : Th r i
    · rw [if_pos hT, if_neg z10, k_cellOf hV hW1 hi, bsome]
      obtain ⟨C2, m1, m2, m3, m4⟩ := k_measureCarry (r := r) (i := i) (t := cnt r i) (hV.c48 hi) (by omega) p1
      rw [m1, bsome, m2.at (show ¬ 12 = 17 by omega), p1, oN_S, oN_S]
      have e9 : cnt r (i + 1) = cnt r i + 1 := if_pos hT
      refine ⟨_, rfl, _, rfl, hi, om_si (hO.trans (m2.mono (fun a ha => Or.inr ha))) (Or.inl rfl), by rw [mi_sI_k, e9], fun j hj hTj c hc => ?_⟩
      rw [mi_sI_ne (by omega)]
      by_cases e : j = i
      · subst e; exact m3 c hc
      · have := cnt_lt (r := r) (show j < i by omega) hTj
        rw [m4 c _ hc (by omega) (by omega)]
        exact p2 j (by omega) hTj c hc
    · rw [if_neg hT, if_pos z00, oN_S]
      have e9 : cnt r (i + 1) = cnt r i := if_neg hT
      refine ⟨_, rfl, C1, rfl, hi, hO, by rw [e9]; exact p1, fun j hj hTj c hc => ?_⟩
      by_cases e : j = i
      · subst e; exact absurd hTj hT
      · exact p2 j (by omega) hTj c hc) (by
    rintro s ⟨C1, rfl, -, hO, p1, p2⟩
    refine ⟨C1, ?_, hO, p1, p2⟩
    unfold f_X0_measureCarries_b7
    dsimp only
    rw [(st C1 hO).n, hV.n, if_pos (le_rf _)])
  unfold f_X0_measureCarries
  rw [e1, bsome]
  exact ⟨C1, rfl, hO, p1, p2⟩
def hs (r : Nat → Int32) (a b : Nat) : Int32 := sm (rN r) (fun i => if Th r i then mmin (hwc r a i) (hwc r b i) else 0)
theorem k_carriedBy {C : Mm} {r : Nat → Int32} {a b w h : Nat} (hV : VR w h r) (ha : a ≤ 48) (hb : b ≤ 48) (e5 : mi C 12 5 = Int32.ofNat (cnt r (rN r))) (hC : ∀ j, j < rN r → Th r j → ∀ c, c ≤ 48 → mi C 17 (c * 60 + cnt r j) = hwc r c j) : f_X0_carriedBy (Int32.ofNat a) (Int32.ofNat b) C = some (hs r a b) := by
  have h6 := hV.n60
  have hc := cnt_le (r := r) (rN r)
  have e := sum_loop (b := f_X0_carriedBy_b5 (Int32.ofNat a) (Int32.ofNat b) C) (cnt r (rN r)) (fun t => mmin (mi C 17 (a * 60 + t)) (mi C 17 (b * 60 + t))) (by omega) (by
    intro i hi s
    have ix : ∀ c : Nat, Int32.ofNat c * (60 : Int32) + Int32.ofNat i = Int32.ofNat (c * 60 + i) := fun c => by rw [Int32.ofNat_add, Int32.ofNat_mul]; rfl
    unfold f_X0_carriedBy_b5
    dsimp only
    rw [e5, if_neg (nle hi (by omega)), ix, ix, ai_o (by omega) (by omega), bsome, ai_o (by omega) (by omega), bsome]) (by
    intro s
    unfold f_X0_carriedBy_b5
    dsimp only
    rw [e5, if_pos (le_rf _)])
  unfold f_X0_carriedBy
  rw [e, bsome, sm_cnt (r := r) (H := fun i => mmin (hwc r a i) (hwc r b i)) (rN r) (fun j hj hT => by rw [hC j hj hT a ha, hC j hj hT b hb])]
  rfl
end HP
