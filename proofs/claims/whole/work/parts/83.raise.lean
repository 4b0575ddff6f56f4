/-! level 3: stones rise: the class -/
section RI
variable {w h : Nat} {r : Nat → Int32}
theorem clp_2 {v : Int32} : ∃ n : Nat, n ≤ 2 ∧ clp 2 v = Int32.ofNat n := by
  unfold clp
  by_cases h1 : v ≤ 2
  · rw [if_pos h1]
    by_cases h2 : 0 ≤ v
    · rw [if_pos h2]
      obtain ⟨n, -, n2, n3⟩ := (in_nat (lo := 0) (hi := 2) (by omega) (by omega)).mp ⟨h2, h1⟩
      exact ⟨n, n2, n3⟩
    · rw [if_neg h2]
      exact ⟨0, by omega, rfl⟩
  · rw [if_neg h1]
    exact ⟨2, by omega, rfl⟩
def risN (T : Mm) (r : Nat → Int32) (yr all : Int32) (c : Nat) : Nat := if kpt T r c then (risO T r c yr all).toNatClampNeg else 0
theorem risN_2 {T : Mm} {yr all : Int32} {c : Nat} : risN T r yr all c ≤ 2 := by
  unfold risN
  by_cases hk : kpt T r c
  · rw [if_pos hk]
    obtain ⟨n, n1, n2⟩ := clp_2 (v := lawV T 1 (nmN T r c 0 yr all))
    unfold risO
    rw [n2, oN_nat (by omega)]
    exact n1
  · rw [if_neg hk]; omega
theorem risN_k {T : Mm} {yr all : Int32} {c : Nat} (hk : kpt T r c) : Int32.ofNat (risN T r yr all c) = risO T r c yr all := by
  unfold risN
  rw [if_pos hk]
  obtain ⟨n, n1, n2⟩ := clp_2 (v := lawV T 1 (nmN T r c 0 yr all))
  unfold risO
  rw [n2, oN_nat (by omega)]
theorem risN_n {T : Mm} {yr all : Int32} {c : Nat} (hk : ¬ kpt T r c) : risN T r yr all c = 0 := if_neg hk
def szY (yr : Int32) (c j : Nat) : Int32 := (1 : Int32) + ((((((3 : Int32) * Int32.ofNat (c % 8)) + ((5 : Int32) * Int32.ofNat (c / 8))) + ((7 : Int32) * yr)) + Int32.ofNat j) - (((((3 : Int32) * Int32.ofNat (c % 8)) + ((5 : Int32) * Int32.ofNat (c / 8))) + ((7 : Int32) * yr)) + Int32.ofNat j) / (9 : Int32) * (9 : Int32))
theorem szY_ok {m c j : Nat} (hm : m ≤ 10000000) (hc : c < 48) (hj : j ≤ 2) : ∃ s : Nat, 1 ≤ s ∧ s ≤ 9 ∧ szY (Int32.ofNat m) c j = Int32.ofNat s := by
  have e : (((((3 : Int32) * Int32.ofNat (c % 8)) + ((5 : Int32) * Int32.ofNat (c / 8))) + ((7 : Int32) * Int32.ofNat m)) + Int32.ofNat j) = Int32.ofNat (3 * (c % 8) + 5 * (c / 8) + 7 * m + j) := by
    rw [Int32.ofNat_add, Int32.ofNat_add, Int32.ofNat_add, Int32.ofNat_mul, Int32.ofNat_mul, Int32.ofNat_mul]
    rfl
  have hz : 3 * (c % 8) + 5 * (c / 8) + 7 * m + j < 2147483648 := by omega
  unfold szY
  rw [e]
  generalize 3 * (c % 8) + 5 * (c / 8) + 7 * m + j = z at hz
  have h1 : z / 9 * 9 ≤ z := Nat.div_mul_le_self z 9
  refine ⟨1 + (z - z / 9 * 9), by omega, by omega, ?_⟩
  rw [show Int32.ofNat z / 9 = Int32.ofNat (z / 9) from oN_div (b := 9) hz (by omega), show Int32.ofNat (z / 9) * 9 = Int32.ofNat (z / 9 * 9) from (Int32.ofNat_mul (z / 9) 9).symm, oN_sub h1 hz, Int32.ofNat_add]
  rfl
def upI (yr : Int32) (c : Nat) (r : Nat → Int32) : Nat → (Nat → Int32)
  | 0 => r
  | j + 1 => come2 (upI yr c r j) (c % 8) (c / 8) (szY yr c j)
def upO (V : Nat → Nat) (yr : Int32) (r : Nat → Int32) : Nat → (Nat → Int32)
  | 0 => r
  | c + 1 => upI yr c (upO V yr r c) (V c)
theorem upI_gt {yr : Int32} {c j : Nat} (hj : 360 < j) : ∀ n, upI yr c r n j = r j := by
  intro n
  induction n with
  | zero => rfl
  | succ n ih => exact (show upI yr c r (n + 1) j = upI yr c r n j from come2_gt hj).trans ih
theorem upO_gt {V : Nat → Nat} {yr : Int32} {j : Nat} (hj : 360 < j) : ∀ n, upO V yr r n j = r j := by
  intro n
  induction n with
  | zero => rfl
  | succ n ih => exact (show upO V yr r (n + 1) j = upO V yr r n j from upI_gt hj (V n)).trans ih
theorem upI_vr {m c : Nat} (hm : m ≤ 10000000) (hc : c < 48) (hV : VR w h r) (hx : c % 8 < w) (hy : c / 8 < h) : ∀ n, n ≤ 3 → VR w h (upI (Int32.ofNat m) c r n) := by
  intro n
  induction n with
  | zero => exact fun _ => hV
  | succ n ih => exact fun hn => come2_vr (ih (by omega)) hx hy (szY_ok hm hc (by omega))
theorem upO_vr {V : Nat → Nat} {m : Nat} (hm : m ≤ 10000000) (hV : VR w h r) (h1 : ∀ c, V c ≤ 2) (h2 : ∀ c, ¬ (c % 8 < w ∧ c / 8 < h) → V c = 0) : ∀ n, n ≤ 48 → VR w h (upO V (Int32.ofNat m) r n) := by
  intro n
  induction n with
  | zero => exact fun _ => hV
  | succ n ih =>
    intro hn
    by_cases hk : n % 8 < w ∧ n / 8 < h
    · exact upI_vr hm (by omega) (ih (by omega)) hk.1 hk.2 _ (by have := h1 n; omega)
    · show VR w h (upI (Int32.ofNat m) n (upO V (Int32.ofNat m) r n) (V n))
      rw [h2 n hk]
      exact ih (by omega)
theorem come2_ly {x y : Nat} {s : Int32} (hV : VR w h r) (hx : x < 8) (hy : y < 6) {c : Nat} (hc : c ≠ 8 * y + x) : lyIn (come2 r x y s) c = lyIn r c := by
  unfold come2
  by_cases hn : rN r < 60
  · rw [if_pos hn, come_lyIn hV hn hx hy, if_neg hc]
  · rw [if_neg hn]
theorem upI_ly {m c c2 : Nat} (hm : m ≤ 10000000) (hc : c < 48) (hV : VR w h r) (hx : c % 8 < w) (hy : c / 8 < h) (hne : c2 ≠ c) : ∀ n, n ≤ 3 → lyIn (upI (Int32.ofNat m) c r n) c2 = lyIn r c2 := by
  intro n
  induction n with
  | zero => exact fun _ => rfl
  | succ n ih => exact fun hn => (come2_ly (upI_vr hm hc hV hx hy n (by omega)) (by omega) (by omega) (by omega)).trans (ih (by omega))
theorem upO_ly {V : Nat → Nat} {m c2 : Nat} (hm : m ≤ 10000000) (hV : VR w h r) (h1 : ∀ c, V c ≤ 2) (h2 : ∀ c, ¬ (c % 8 < w ∧ c / 8 < h) → V c = 0) : ∀ n, n ≤ 48 → n ≤ c2 → lyIn (upO V (Int32.ofNat m) r n) c2 = lyIn r c2 := by
  intro n
  induction n with
  | zero => exact fun _ _ => rfl
  | succ n ih =>
    intro hn hn2
    show lyIn (upI (Int32.ofNat m) n (upO V (Int32.ofNat m) r n) (V n)) c2 = _
    rw [← ih (by omega) (by omega)]
    by_cases hk : n % 8 < w ∧ n / 8 < h
    · exact upI_ly hm (by omega) (upO_vr hm hV h1 h2 n (by omega)) hk.1 hk.2 (by omega) _ (by have := h1 n; omega)
    · rw [h2 n hk]
      rfl
theorem upI_full {yr : Int32} {c : Nat} (hn : ¬ rN r < 60) : ∀ n, upI yr c r n = r := by
  intro n
  induction n with
  | zero => rfl
  | succ n ih =>
    show come2 (upI yr c r n) _ _ _ = r
    rw [ih]
    exact if_neg hn
theorem upO_full {V : Nat → Nat} {yr : Int32} {n : Nat} (hn : ¬ rN (upO V yr r n) < 60) : ∀ d, upO V yr r (n + d) = upO V yr r n := by
  intro d
  induction d with
  | zero => rfl
  | succ d ih =>
    show upI yr (n + d) (upO V yr r (n + d)) (V (n + d)) = _
    rw [ih]
    exact upI_full hn _
def yrR (r : Nat → Int32) : Nat → Int32 := u1 r 363 (r 363 + 1)
theorem yrR_o {j : Nat} (hj : j ≠ 363) : yrR r j = r j := u1_ne hj
theorem yrR_k : yrR r 363 = r 363 + 1 := u1_same _ _ _
theorem yrR_rq : Rq r (yrR r) := fun j _ h2 => yrR_o (by omega)
/-- only the year changed -/
theorem rw_yr {C : Mm} {a : Nat} (hV : VR w h r) (hW : RW C a r) : RW (sI C a 9 (r 363 + 1)) a (yrR r) := by
  obtain ⟨⟨w8, w9, w10, w12, w13, w14, w7⟩, hS, hC⟩ := id hW
  have h6 := hV.n60
  have e0 : ∀ b, b ≠ a → mi (sI C a 9 (r 363 + 1)) b = mi C b := fun b hb => mi_sI_ne hb
  have e1 : ∀ j, j ≠ 9 → mi (sI C a 9 (r 363 + 1)) a j = mi C a j := fun j hj => mi_sI_o hj
  refine ⟨⟨?_, ?_, ?_, ?_, ?_, ?_, ?_⟩, fun k hk => ?_, fun c hc => ?_⟩
  · rw [e1 _ (by omega), yrR_o (by omega)]; exact w8
  · rw [mi_sI_k, yrR_k]
  · rw [e1 _ (by omega), yrR_o (by omega), yrR_o (by omega)]; exact w10
  · rw [e1 _ (by omega), yrR_o (by omega)]; exact w12
  · rw [e1 _ (by omega), yrR_o (by omega)]; exact w13
  · rw [e1 _ (by omega), yrR_o (by omega)]; exact w14
  · rw [e1 _ (by omega), rq_lyN yrR_rq h6]; exact w7
  · rw [yrR_rq.n] at hk
    rw [e0 _ (by omega), e0 _ (by omega), e0 _ (by omega), e0 _ (by omega), yrR_rq.c (by omega), yrR_o (by omega), yrR_o (by omega), yrR_o (by omega)]
    exact hS k hk
  · rw [e0 _ (by omega), e0 _ (by omega), yrR_o (by omega), rq_lyIn yrR_rq h6]
    exact hC c hc
theorem k_raise {C T : Mm} {g l a m : Nat} (hG : RGd C T g) (hV : VR (tw T) (th T) r) (hW : RW C a r) (hl : rd C g 2 = l) (hR : RLaw C T l 1) (hy : r 363 = Int32.ofNat m) (hm : m < 10000000) (hS : ∀ b, ((a ≤ b ∧ b ≤ a + 7) ∨ b = l + 2 ∨ b = l + 3) → b ≠ g ∧ b ≠ g + 1 ∧ b ≠ l ∧ b ≠ l + 1) (hD : ∀ b, (b = l + 2 ∨ b = l + 3) → ¬ (a ≤ b ∧ b ≤ a + 7)) : ∃ C', f_X8_raiseStones a g C = some C' ∧ Om (fun b => (a ≤ b ∧ b ≤ a + 7) ∨ b = l + 2 ∨ b = l + 3) C C' ∧ RW C' a (upO (risN T (yrR r) (r 363 + 1) (lyN r)) (r 363 + 1) (yrR r) 48) := by
  have h6 := hV.n60
  have ey : r 363 + 1 = Int32.ofNat (m + 1) := by rw [hy, oN_S]
  have hV1 : VR (tw T) (th T) (yrR r) := yrR_rq.vr hV
  generalize hVn : risN T (yrR r) (r 363 + 1) (lyN r) = V
  have v2 : ∀ c, V c ≤ 2 := fun c => by rw [← hVn]; exact risN_2
  have vn : ∀ c, ¬ (c % 8 < tw T ∧ c / 8 < th T) → V c = 0 := fun c hc => by rw [← hVn]; exact risN_n (fun z => hc z.1)
  have hW1 := rw_yr hV hW
  have hVc : ∀ c, c ≤ 48 → VR (tw T) (th T) (upO V (r 363 + 1) (yrR r) c) := fun c hc => by rw [ey]; exact upO_vr (by omega) hV1 v2 vn c hc
  have hg9 : ∀ c, upO V (r 363 + 1) (yrR r) c 363 = r 363 + 1 := fun c => (upO_gt (by omega) c).trans yrR_k
  have fr : ∀ {C1 : Mm}, Om (fun b => (a ≤ b ∧ b ≤ a + 7) ∨ b = l + 2 ∨ b = l + 3) C C1 → RGd C1 T g ∧ rd C1 g 2 = l ∧ RLaw C1 T l 1 := fun {C1} hO => by
    have s : ∀ b, b = g ∨ b = g + 1 ∨ b = l ∨ b = l + 1 → mi C1 b = mi C b := fun b hb => hO.at (fun hs => by have := hS b hs; omega)
    refine ⟨hG.frame (s g (by omega)) (s (g + 1) (by omega)) KT.refl, ?_, hR.frame (Or.inr rfl) (by rw [s l (by omega)]) (s (l + 1) (by omega)) KT.refl⟩
    rw [← hl]
    unfold rd
    rw [hO.2.2.2.2.1]
  obtain ⟨C', e1, e2, e3⟩ := whl_ex (f := f_X8_raiseStones_b17 a g (lyN r)) (fun c st => ∃ C1, st = (Int32.ofNat c, C1) ∧ Om (fun b => (a ≤ b ∧ b ≤ a + 7) ∨ b = l + 2 ∨ b = l + 3) C C1 ∧ RW C1 a (upO V (r 363 + 1) (yrR r) c)) (fun C1 => Om (fun b => (a ≤ b ∧ b ≤ a + 7) ∨ b = l + 2 ∨ b = l + 3) C C1 ∧ RW C1 a (upO V (r 363 + 1) (yrR r) 48)) 48 fu (0, sI C a 9 (r 363 + 1)) (by decide) ⟨_, rfl, om_si Om.refl (by omega), hW1⟩ (by
    rintro c st hc ⟨C1, rfl, hO, hWc⟩
    obtain ⟨hG1, hl1, hR1⟩ := fr hO
    have hVn1 := hVc c (by omega)
    unfold f_X8_raiseStones_b17
    dsimp only
    rw [if_neg (show ¬ (48 : Int32) ≤ Int32.ofNat c from nle (n := 48) hc (by omega)), hWc.1.1, hVn1.n]
    by_cases hn : rN (upO V (r 363 + 1) (yrR r) c) < 60
    · rw [if_neg (show ¬ (60 : Int32) ≤ Int32.ofNat _ from nle (n := 60) hn (by omega)), k_hasCell hG1 hc, bsome]
      refine Or.inl ?_
      by_cases hf : inF T c
      · rw [if_pos hf, if_neg z10]
        obtain ⟨C2, p1, p2⟩ := k_risingIn (yr := mi C1 a 9) (all := lyN r) hG1 hVn1 hWc hl1 hR1 hc
        have hv : (if upO V (r 363 + 1) (yrR r) c (367 + c) = 1 then (0 : Int32) else risO T (upO V (r 363 + 1) (yrR r) c) c (mi C1 a 9) (lyN r)) = Int32.ofNat (V c) := by
          rw [hWc.1.2.1, hg9, upO_gt (by omega)]
          by_cases hlost : yrR r (367 + c) = 1
          · rw [if_pos hlost, ← hVn, risN_n (fun z => z.2 hlost)]
            rfl
          · rw [if_neg hlost, ← hVn, risN_k ⟨hf, hlost⟩, hVn]
            refine risO_of rfl rfl rfl ?_
            rw [ey]
            exact upO_ly (by omega) hV1 v2 vn c (by omega) (by omega)
        rw [p1, hv, bsome]
        dsimp only
        have hO2 := hO.trans (p2.mono (fun b hb => Or.inr hb))
        have hW2 : RW C2 a (upO V (r 363 + 1) (yrR r) c) := hWc.frame (fun j hj => p2.at (fun hs => hD _ hs ⟨by omega, by omega⟩))
        obtain ⟨C4, q1, q2, q3⟩ := whl_ex (f := f_X8_raiseStones_b56 a g (lyN r) (Int32.ofNat c) (Int32.ofNat (V c))) (fun j st => ∃ C3, st = (Int32.ofNat j, C3) ∧ Om (fun b => (a ≤ b ∧ b ≤ a + 7) ∨ b = l + 2 ∨ b = l + 3) C C3 ∧ RW C3 a (upI (r 363 + 1) c (upO V (r 363 + 1) (yrR r) c) j)) (fun C3 => Om (fun b => (a ≤ b ∧ b ≤ a + 7) ∨ b = l + 2 ∨ b = l + 3) C C3 ∧ RW C3 a (upO V (r 363 + 1) (yrR r) (c + 1))) (V c) fu (0, C2) (by have := v2 c; show V c < 1000000; omega) ⟨C2, rfl, hO2, hW2⟩ (by
          rintro j st hj ⟨C3, rfl, hO3, hW3⟩
          have v2c := v2 c
          have hV3 : VR (tw T) (th T) (upI (r 363 + 1) c (upO V (r 363 + 1) (yrR r) c) j) := by
            have := upI_vr (m := m + 1) (c := c) (by omega) hc hVn1 hf.1 hf.2 j (by omega)
            rw [← ey] at this
            exact this
          have y9 : mi C3 a 9 = r 363 + 1 := by rw [hW3.1.2.1, upI_gt (by omega)]; exact hg9 c
          obtain ⟨C5, t1, t2, t3, -⟩ := k_addStone (s := szY (r 363 + 1) c j) (x := c % 8) (y := c / 8) hV3 hW3 (by omega) (by omega)
          refine Or.inl ?_
          unfold f_X8_raiseStones_b56
          dsimp only
          rw [if_neg (nle hj (by omega)), k_column hc, bsome, k_row hc, bsome, y9]
          rw [show 8 * (c / 8) + c % 8 = c by omega] at t1
          have t1' : f_X8_addStone a (Int32.ofNat c) ((1 : Int32) + ((((((3 : Int32) * Int32.ofNat (c % 8)) + ((5 : Int32) * Int32.ofNat (c / 8))) + ((7 : Int32) * (r 363 + 1))) + Int32.ofNat j) - (((((3 : Int32) * Int32.ofNat (c % 8)) + ((5 : Int32) * Int32.ofNat (c / 8))) + ((7 : Int32) * (r 363 + 1))) + Int32.ofNat j) / (9 : Int32) * (9 : Int32))) C3 = some C5 := t1
          rw [t1', bsome, oN_S]
          exact ⟨_, rfl, C5, rfl, hO3.trans (t2.mono (fun b hb => Or.inl hb)), t3⟩) (by
          rintro st ⟨C3, rfl, hO3, hW3⟩
          refine ⟨C3, ?_, hO3, hW3⟩
          unfold f_X8_raiseStones_b56
          dsimp only
          rw [if_pos (le_rf _)])
        rw [show whl fu (f_X8_raiseStones_b56 a g (lyN r) (Int32.ofNat c) (Int32.ofNat (V c))) (0, C2) = some C4 from q1, bsome, oN_S]
        exact ⟨_, rfl, C4, rfl, q2, q3⟩
      · rw [if_neg hf, if_pos z00, oN_S]
        refine ⟨_, rfl, C1, rfl, hO, ?_⟩
        show RW C1 a (upI (r 363 + 1) c (upO V (r 363 + 1) (yrR r) c) (V c))
        rw [vn c hf]
        exact hWc
    · have n6 := hVn1.n60
      rw [if_pos (show (60 : Int32) ≤ Int32.ofNat (rN (upO V (r 363 + 1) (yrR r) c)) by rw [show rN (upO V (r 363 + 1) (yrR r) c) = 60 by omega]; exact le_rf _)]
      refine Or.inr ⟨C1, rfl, hO, ?_⟩
      have := upO_full hn (48 - c)
      rw [show c + (48 - c) = 48 by omega] at this
      rw [this]
      exact hWc) (by
    rintro st ⟨C1, rfl, hO, hWc⟩
    refine ⟨C1, ?_, hO, hWc⟩
    unfold f_X8_raiseStones_b17
    dsimp only
    rw [if_pos (show (48 : Int32) ≤ Int32.ofNat 48 from le_rf _)])
  unfold f_X8_raiseStones
  rw [hW.1.2.1, mi_sI_o (by omega), hW.1.2.2.2.2.2.2, show whl fu (f_X8_raiseStones_b17 a g (lyN r)) (0, sI C a 9 (r 363 + 1)) = some C' from e1, bsome]
  exact ⟨C', rfl, e2, e3⟩
end RI
