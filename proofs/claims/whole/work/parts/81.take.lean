/-! level 3: a stone is taken up: rows -/
section RE
variable {w h i : Nat} {r : Nat → Int32} {p : Int32}
def plR (r : Nat → Int32) (i : Nat) (p : Int32) : Nat → Int32 := u1 r (6 * i + 4) p
theorem pl_n (hi : i < 60) : plR r i p 360 = r 360 := by unfold plR; rw [u1_at, if_neg (by omega)]
theorem pl_N (hi : i < 60) : rN (plR r i p) = rN r := by unfold rN; rw [pl_n hi]
theorem pl_gt (hi : i < 60) {j : Nat} (hj : 360 ≤ j) : plR r i p j = r j := by unfold plR; rw [u1_at, if_neg (by omega)]
theorem pl_o {k t : Nat} (ht : t < 6) (h4 : t ≠ 4) : plR r i p (6 * k + t) = r (6 * k + t) := by unfold plR; rw [u1_at, if_neg (by omega)]
theorem pl_4 {k : Nat} : plR r i p (6 * k + 4) = if k = i then p else r (6 * k + 4) := by
  unfold plR
  rw [u1_at]
  by_cases e : k = i
  · rw [if_pos e, if_pos (by omega)]
  · rw [if_neg e, if_neg (by omega)]
theorem pl_c {k : Nat} : rC (plR r i p) k = rC r k := by
  unfold rC nX nY
  rw [show plR r i p (6 * k) = r (6 * k) from pl_o (t := 0) (by omega) (by omega), pl_o (by omega) (by omega)]
theorem pl_vr (hV : VR w h r) (hi : i < 60) (hp : ∃ m : Nat, m < 4 ∧ p = Int32.ofNat m) : VR w h (plR r i p) := by
  refine ⟨hV.1, by rw [pl_N hi, pl_n hi]; exact hV.2.1, fun k hk => ?_, ?_, fun c hc => ?_⟩
  · rw [pl_N hi] at hk
    have := hV.s hk
    unfold VS nX nY at this ⊢
    rw [show plR r i p (6 * k) = r (6 * k) from pl_o (t := 0) (by omega) (by omega), pl_o (by omega) (by omega), pl_o (by omega) (by omega), pl_4]
    obtain ⟨t1, t2, t3, t4⟩ := this
    refine ⟨t1, t2, t3, ?_⟩
    by_cases e : k = i
    · rw [if_pos e]; exact hp
    · rw [if_neg e]; exact t4
  · rw [pl_gt hi (by omega), pl_gt hi (by omega)]
    exact hV.2.2.2.1
  · rw [pl_gt hi (by omega)]
    exact hV.2.2.2.2 c hc
/-- one term of a sum changes -/
theorem pl_sm {n : Nat} {F G : Nat → Int32} (hi : i < n) (h1 : ∀ k, k < n → k ≠ i → G k = F k) : sm n G = sm n F + (G i - F i) := by
  have := sm_one (n := n) (j := i) (f := F) (g := G) hi h1
  have e : sm n G = (sm n G + F i) - F i := (Int32.add_sub_cancel _ _).symm
  rw [e, this, Int32.sub_eq_add_neg, Int32.sub_eq_add_neg, Int32.add_assoc]
theorem pl_lyN (hi : i < rN r) (h6 : rN r ≤ 60) (h0 : r (6 * i + 4) = 0) (hp : ¬ p = 0) : lyN (plR r i p) = lyN r - 1 := by
  unfold lyN
  rw [pl_N (by omega), pl_sm (F := fun k => if r (6 * k + 4) = 0 then 1 else 0) hi (fun k hk hne => by rw [pl_4, if_neg hne]), pl_4, if_pos rfl, if_neg hp, if_pos h0, show (0 : Int32) - 1 = -1 by decide, Int32.sub_eq_add_neg]
theorem pl_lyIn (hi : i < rN r) (h6 : rN r ≤ 60) (h0 : r (6 * i + 4) = 0) (hp : ¬ p = 0) {c : Nat} : lyIn (plR r i p) c = if c = rC r i then lyIn r c - 1 else lyIn r c := by
  unfold lyIn
  rw [pl_N (by omega), pl_sm (F := fun k => if Li r c k then 1 else 0) hi (fun k hk hne => by unfold Li; rw [pl_4, if_neg hne, pl_c])]
  unfold Li
  rw [pl_4, if_pos rfl, if_neg (fun z => hp z.1)]
  by_cases hc : c = rC r i
  · rw [if_pos hc, if_pos ⟨h0, hc.symm⟩, show (0 : Int32) - 1 = -1 by decide, Int32.sub_eq_add_neg]
  · rw [if_neg hc, if_neg (fun z => hc z.2.symm)]
    show _ + ((0 : Int32) - 0) = _
    rw [show (0 : Int32) - 0 = 0 by decide, Int32.add_zero]
theorem k_takeUp {C : Mm} {a : Nat} (hV : VR w h r) (hW : RW C a r) (hi : i < rN r) (h0 : r (6 * i + 4) = 0) (hp : ¬ p = 0) : ∃ C', f_X8_takeUp a (Int32.ofNat i) p C = some C' ∧ Om (fun b => b = a ∨ b = a + 4 ∨ b = a + 7) C C' ∧ RW C' a (plR r i p) ∧ ∀ j, j ≠ 7 → mi C' a j = mi C a j := by
  obtain ⟨⟨w8, w9, w10, w12, w13, w14, w7⟩, hS, hC⟩ := id hW
  have h6 := hV.n60
  have h48 := hV.c48 hi
  unfold f_X8_takeUp
  rw [k_cellOf hV hW hi, bsome, k_isStone hV hW hi, bsome, if_neg z10, k_isCell h48, bsome, if_neg z10, wi_o (by omega) (by omega), bsome, ai_o h48 (by omega), bsome, mi_sI_ne (show a + 7 ≠ a + 4 by omega), wi_o h48 (by omega), bsome, mi_sI_ne (show a ≠ a + 7 by omega), mi_sI_ne (show a ≠ a + 4 by omega)]
  generalize hE : sI (sI (sI C (a + 4) i p) (a + 7) (rC r i) (mi C (a + 7) (rC r i) - 1)) a 7 (mi C a 7 - 1) = E
  have e0 : ∀ j, mi E a j = if j = 7 then mi C a 7 - 1 else mi C a j := fun j => by
    rw [← hE, mi_sI, u1_at, mi_sI_ne (show a ≠ a + 7 by omega), mi_sI_ne (show a ≠ a + 4 by omega)]
  have eb : ∀ b, b ≠ a → b ≠ a + 7 → b ≠ a + 4 → mi E b = mi C b := fun b h1 h2 h3 => by rw [← hE, mi_sI_ne h1, mi_sI_ne h2, mi_sI_ne h3]
  have e4 : mi E (a + 4) = u1 (mi C (a + 4)) i p := by rw [← hE, mi_sI_ne (by omega), mi_sI_ne (by omega), mi_sI]
  have e7 : mi E (a + 7) = u1 (mi C (a + 7)) (rC r i) (mi C (a + 7) (rC r i) - 1) := by rw [← hE, mi_sI_ne (by omega), mi_sI, mi_sI_ne (by omega)]
  refine ⟨E, rfl, by rw [← hE]; exact om_si (om_si (om_si Om.refl (by omega)) (by omega)) (by omega), ⟨?_, fun k hk => ?_, fun c hc => ?_⟩, fun j hj => by rw [e0, if_neg hj]⟩
  · rw [e0, e0, e0, e0, e0, e0, e0, pl_n (by omega), pl_gt (by omega) (by omega), pl_gt (by omega) (by omega), pl_gt (by omega) (by omega), pl_gt (by omega) (by omega), pl_gt (by omega) (by omega), pl_gt (by omega) (by omega), pl_lyN hi h6 h0 hp]
    exact ⟨w8, w9, w10, w12, w13, w14, by rw [← w7]; rfl⟩
  · rw [pl_N (by omega)] at hk
    rw [eb (a + 1) (by omega) (by omega) (by omega), eb (a + 2) (by omega) (by omega) (by omega), eb (a + 3) (by omega) (by omega) (by omega), e4, pl_c, pl_o (by omega) (by omega), pl_o (by omega) (by omega), pl_4, u1_at]
    obtain ⟨t1, t2, t3, t4⟩ := hS k hk
    refine ⟨t1, t2, t3, ?_⟩
    by_cases e : k = i
    · rw [if_pos e, if_pos e]
    · rw [if_neg e, if_neg e]; exact t4
  · rw [eb (a + 5) (by omega) (by omega) (by omega), e7, u1_at, pl_gt (by omega) (by omega), pl_lyIn hi h6 h0 hp]
    refine ⟨(hC c hc).1, ?_⟩
    by_cases e : c = rC r i
    · rw [if_pos e, if_pos e, ← e, (hC c hc).2]
    · rw [if_neg e, if_neg e, (hC c hc).2]
end RE
