/-! level 3: heaps tried -/
section HQ
variable {k : Nat} {M : Mm} {q : Nat → Nat}
def les (x y : Int32) : Int32 := if y ≤ x then y else x
theorem mmin_les {x y : Int32} : mmin x y = les x y := by
  unfold mmin les
  by_cases h1 : y < x
  · rw [if_pos h1, if_pos (Int32.le_of_lt h1)]
  · rw [if_neg h1]
    by_cases h2 : y ≤ x
    · rw [if_pos h2]; exact Int32.le_antisymm (nlt h1) h2
    · rw [if_neg h2]
theorem les_le1 {x y : Int32} : les x y ≤ x := by unfold les; split; assumption; exact Int32.le_refl _
theorem les_le2 {x y : Int32} : les x y ≤ y := by
  unfold les
  by_cases h : y ≤ x
  · rw [if_pos h]; exact Int32.le_refl _
  · rw [if_neg h]; exact Int32.le_of_lt (nle' h)
theorem les_ge {x y z : Int32} (h1 : z ≤ x) (h2 : z ≤ y) : z ≤ les x y := by unfold les; split; exact h2; exact h1
theorem les_self {x : Int32} : les x x = x := by unfold les; rw [if_pos (Int32.le_refl _)]
theorem les3 {w a b : Int32} : les (les w a) (les w b) = les (les w a) b := Int32.le_antisymm (les_ge les_le1 (Int32.le_trans les_le2 les_le2)) (les_ge les_le1 (les_ge (Int32.le_trans les_le1 les_le1) les_le2))
def soN (T : Mm) (o : Option Nat) (y : Int32) : Int32 := match o with | none => 0 | some a => mi T 82 a * y
def bop (o : Option Nat) (c : Nat) (x : Int32) : Int32 := match o with | none => x | some b => les x (fr c b)
def lst (r : Nat → Int32) (oa ob : Option Nat) (i : Nat) : Int32 := bop ob (rC r i) (bop oa (rC r i) (toW r i))
def hbO (T : Mm) (r : Nat → Int32) (oa ob : Option Nat) (y : Int32) : Int32 := (soN T oa y + soN T ob y) + sm (rN r) (fun i => if Th r i then mi T 80 7 * lst r oa ob i else 0)
theorem enc_ne {a : Nat} (h : a < 48) : ¬ enc (some a) = -1 := fun e => oN_nn (i := a) (by omega) (by rw [show Int32.ofNat a = -1 from e]; decide)
theorem m_heapsBy {N : Mm} {w h : Nat} {oa ob : Option Nat} {y : Int32} (hV : VR w h (mi N 196)) (ha : ∀ a, oa = some a → a < 48) (hb : ∀ b, ob = some b → b < 48) : f_X10_heapsBy (enc oa) (enc ob) y N = some (hbO N (mi N 196) oa ob y) := by
  have h6 := hV.n60
  have e := sum_loopA (b := f_X10_heapsBy_b40 (enc oa) (enc ob) N) (rN (mi N 196)) (fun i => if Th (mi N 196) i then mi N 80 7 * lst (mi N 196) oa ob i else 0) (soN N oa y + soN N ob y) (by omega) (by
    intro i hi s
    have h48 := hV.c48 hi
    unfold f_X10_heapsBy_b40
    dsimp only
    rw [show ai N 196 415 360 = some (mi N 196 360) from ai_o (i := 360) (by omega) (by omega), bsome, hV.n, if_neg (nle hi hV.n1), m_isThere LN196 hV hi, bsome]
    by_cases hT : Th (mi N 196) i
    · rw [if_pos hT, if_neg z10, m_of0 LN196 (by omega), bsome, m_of1 LN196 (by omega), bsome, (hV.xy hi).1, (hV.xy hi).2, if_pos hT]
      have j160 : ∀ x, f_X10_heapsBy_j160 (enc oa) (enc ob) s (Int32.ofNat i) x N = some (.inl (s + mi N 80 7 * x, Int32.ofNat i + 1)) := fun x => by
        unfold f_X10_heapsBy_j160
        rw [show ai N 80 10 7 = some (mi N 80 7) from ai_o (i := 7) (by omega) (by omega), bsome]
      have j128 : ∀ x, f_X10_heapsBy_j128 (enc oa) (enc ob) s (Int32.ofNat i) (Int32.ofNat (rC (mi N 196) i % 8)) (Int32.ofNat (rC (mi N 196) i / 8)) x N = some (.inl (s + mi N 80 7 * bop ob (rC (mi N 196) i) x, Int32.ofNat i + 1)) := fun x => by
        unfold f_X10_heapsBy_j128
        cases ob with
        | none => rw [if_pos (show enc none = -1 from rfl), j160]; rfl
        | some b =>
          have hb48 := hb b rfl
          rw [if_neg (enc_ne hb48), show enc (some b) = Int32.ofNat b from rfl, kmod b hb48, kdiv b hb48, m_far_c h48 hb48, bsome]
          exact j160 _
      cases oa with
      | none => rw [if_pos (show enc none = -1 from rfl)]; exact j128 _
      | some a =>
        have ha48 := ha a rfl
        rw [if_neg (enc_ne ha48), show enc (some a) = Int32.ofNat a from rfl, kmod a ha48, kdiv a ha48, m_far_c h48 ha48, bsome]
        exact j128 _
    · rw [if_neg hT, if_pos z00, if_neg hT, Int32.add_zero]) (by
    intro s
    unfold f_X10_heapsBy_b40
    dsimp only
    rw [show ai N 196 415 360 = some (mi N 196 360) from ai_o (i := 360) (by omega) (by omega), bsome, hV.n, if_pos (le_rf _)])
  have j34 : f_X10_heapsBy_j34 (enc oa) (enc ob) (soN N oa y) (soN N ob y) N = some (hbO N (mi N 196) oa ob y) := by
    unfold f_X10_heapsBy_j34
    rw [e]
    rfl
  have j17 : f_X10_heapsBy_j17 (enc oa) (enc ob) y (soN N oa y) N = some (hbO N (mi N 196) oa ob y) := by
    unfold f_X10_heapsBy_j17
    cases ob with
    | none => rw [if_pos (show enc none = -1 from rfl)]; exact j34
    | some b =>
      have hb48 := hb b rfl
      rw [if_neg (enc_ne hb48), show ai N 82 48 (enc (some b)) = some (mi N 82 b) from ai_o hb48 (by omega), bsome]
      exact j34
  unfold f_X10_heapsBy
  cases oa with
  | none => rw [if_pos (show enc none = -1 from rfl)]; exact j17
  | some a =>
    have ha48 := ha a rfl
    rw [if_neg (enc_ne ha48), show ai N 82 48 (enc (some a)) = some (mi N 82 a) from ai_o ha48 (by omega), bsome]
    exact j17
theorem sm_scale {n : Nat} {c : Int32} {P : Nat → Prop} [DecidablePred P] {f : Nat → Int32} : sm n (fun i => if P i then c * f i else 0) = c * sm n (fun i => if P i then f i else 0) := by
  rw [← sm_mul]
  refine sm_congr (fun i _ => ?_)
  by_cases h : P i
  · rw [if_pos h, if_pos h]
  · rw [if_neg h, if_neg h, Int32.mul_zero]
theorem hb0 {T : Mm} {r : Nat → Int32} {y : Int32} : mi T 80 7 * hs r 48 48 = hbO T r none none y := by
  unfold hbO hs
  rw [sm_scale, show soN T none y + soN T none y = 0 from rfl, Int32.zero_add]
  refine congrArg _ (sm_congr (fun i _ => ?_))
  rw [show hwc r 48 i = toW r i from if_neg (by omega), mmin_les, les_self]
  rfl
theorem hb1 {T : Mm} {r : Nat → Int32} {a : Nat} {y : Int32} (ha : a < 48) : mi T 80 7 * hs r a a + y * mi T 82 a = hbO T r (some a) none y := by
  unfold hbO hs
  rw [sm_scale, show soN T (some a) y + soN T none y = mi T 82 a * y + 0 from rfl, Int32.add_zero, Int32.add_comm, Int32.mul_comm y]
  refine congrArg _ (congrArg _ (sm_congr (fun i _ => ?_)))
  rw [show hwc r a i = mmin (toW r i) (fr (rC r i) a) from if_pos ha, mmin_les, mmin_les, les_self]
  rfl
theorem hb2 {T : Mm} {r : Nat → Int32} {a b : Nat} {y : Int32} (ha : a < 48) (hb : b < 48) : mi T 80 7 * hs r a b + y * (mi T 82 a + mi T 82 b) = hbO T r (some a) (some b) y := by
  unfold hbO hs
  rw [sm_scale, show soN T (some a) y + soN T (some b) y = mi T 82 a * y + mi T 82 b * y from rfl, Int32.add_comm, Int32.mul_add, Int32.mul_comm y, Int32.mul_comm y]
  refine congrArg _ (congrArg _ (sm_congr (fun i _ => ?_)))
  rw [show hwc r a i = mmin (toW r i) (fr (rC r i) a) from if_pos ha, show hwc r b i = mmin (toW r i) (fr (rC r i) b) from if_pos hb, mmin_les, mmin_les, mmin_les, les3]
  rfl
end HQ
