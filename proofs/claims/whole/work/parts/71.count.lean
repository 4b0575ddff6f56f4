/-! level 3: stops: counting the light stones of a row -/
section SR
variable {k : Nat} {M : Mm} {q : Nat → Nat}
abbrev Lt (T : Mm) (r : Nat → Int32) (y i : Nat) : Prop := Th r i ∧ rC r i / 8 = y ∧ r (6 * i + 2) ≤ mi T 80 4
def anN (P : Nat → Prop) [DecidablePred P] : Nat → Int32
  | 0 => 0
  | n + 1 => if P n then 1 else anN P n
theorem anN_01 {P : Nat → Prop} [DecidablePred P] : ∀ n, anN P n = 0 ∨ anN P n = 1 := by
  intro n
  induction n with
  | zero => exact Or.inl rfl
  | succ n ih =>
    by_cases h : P n
    · exact Or.inr (if_pos h)
    · rw [show anN P (n + 1) = anN P n from if_neg h]; exact ih
theorem k_countLifted {C T : Mm} {g a w h y : Nat} {r : Nat → Int32} (hG : RGd C T g) (hV : VR w h r) (hW : RW C a r) (hg : 14 < g) (ha : 14 < a) (hy : y < 48) : ∃ C', f_X0_countLiftedIn g a (Int32.ofNat y) C = some (anN (Lt T r y) (rN r), C') ∧ Om (fun x => x = 14) C C' ∧ ∀ d, d < 8 → mi C' 14 d = colN (Lt T r y) (fun i => rC r i % 8) d (rN r) := by
  have h6 := hV.n60
  have l14 : LN 14 = 8 := by decide
  have hO0 : Om (fun x => x = 14) C (sA C 14 (upto (LN 14) (fun _ => 0) (mi C 14))) := ⟨rfl, rfl, rfl, rfl, rfl, fun b hb => mi_sA_ne hb⟩
  obtain ⟨S, e1, C', hS, hO, p⟩ := whl_ex (f := f_X0_countLiftedIn_b14 g a (Int32.ofNat y)) (fun i st => ∃ C', st = (anN (Lt T r y) i, Int32.ofNat i, C') ∧ Om (fun x => x = 14) C C' ∧ ∀ d, d < 8 → mi C' 14 d = colN (Lt T r y) (fun i => rC r i % 8) d i) (fun st => ∃ C', st = (anN (Lt T r y) (rN r), C') ∧ Om (fun x => x = 14) C C' ∧ ∀ d, d < 8 → mi C' 14 d = colN (Lt T r y) (fun i => rC r i % 8) d (rN r)) (rN r) fu (0, 0, sA C 14 (upto (LN 14) (fun _ => 0) (mi C 14))) (by show rN r < 1000000; omega) ⟨_, rfl, hO0, fun d hd => by rw [mi_sA, l14, upto_lt hd]; rfl⟩ (by
    rintro i st hi ⟨C1, rfl, hO, p⟩
    have hW1 : RW C1 a r := hW.frame (fun j hj => hO.at (by omega))
    have eg : mi C1 g = mi C g := hO.at (by omega)
    have h48 := hV.c48 hi
    refine Or.inl ?_
    unfold f_X0_countLiftedIn_b14
    dsimp only
    rw [hW1.n, hV.n, if_neg (nle hi hV.n1), k_cellOf hV hW1 hi, bsome, k_isAsked hV hW1 hi, bsome, oN_S]
    by_cases hT : Th r i
    · rw [if_pos hT, if_neg z10, k_row h48, bsome]
      by_cases hy1 : rC r i / 8 = y
      · rw [if_pos (congrArg Int32.ofNat hy1), k_sizeOf hV hW1 hi, bsome, eg, hG.2.1.2.2.2.1]
        by_cases hs : r (6 * i + 2) ≤ mi T 80 4
        · have hc8 : rC r i % 8 < 8 := Nat.mod_lt _ (by decide)
          have hL : Lt T r y i := ⟨hT, hy1, hs⟩
          rw [if_neg (lenl hs), k_column h48, bsome, ai_o hc8 (by omega), bsome, wi_o hc8 (by omega), bsome]
          refine ⟨_, rfl, sI C1 14 (rC r i % 8) (mi C1 14 (rC r i % 8) + 1), by rw [show anN (Lt T r y) (i + 1) = 1 from if_pos hL], om_si hO rfl, fun d hd => ?_⟩
          rw [mi_sI, u1_at]
          by_cases e : d = rC r i % 8
          · rw [if_pos e, ← e, p d hd, show colN (Lt T r y) (fun i => rC r i % 8) d (i + 1) = _ from if_pos ⟨hL, e.symm⟩]
          · rw [if_neg e, p d hd, show colN (Lt T r y) (fun i => rC r i % 8) d (i + 1) = _ from if_neg (fun z => e z.2.symm)]
        · rw [if_pos (nle' hs)]
          have hL : ¬ Lt T r y i := fun z => hs z.2.2
          exact ⟨_, rfl, C1, by rw [show anN (Lt T r y) (i + 1) = _ from if_neg hL], hO, fun d hd => by rw [p d hd, show colN (Lt T r y) (fun i => rC r i % 8) d (i + 1) = _ from if_neg (fun z => hL z.1)]⟩
      · rw [if_neg (fun z => hy1 ((oN_eq (by omega) (by omega)).mp z))]
        have hL : ¬ Lt T r y i := fun z => hy1 z.2.1
        exact ⟨_, rfl, C1, by rw [show anN (Lt T r y) (i + 1) = _ from if_neg hL], hO, fun d hd => by rw [p d hd, show colN (Lt T r y) (fun i => rC r i % 8) d (i + 1) = _ from if_neg (fun z => hL z.1)]⟩
    · rw [if_neg hT, if_pos z00]
      have hL : ¬ Lt T r y i := fun z => hT z.1
      exact ⟨_, rfl, C1, by rw [show anN (Lt T r y) (i + 1) = _ from if_neg hL], hO, fun d hd => by rw [p d hd, show colN (Lt T r y) (fun i => rC r i % 8) d (i + 1) = _ from if_neg (fun z => hL z.1)]⟩) (by
    rintro st ⟨C1, rfl, hO, p⟩
    have hW1 : RW C1 a r := hW.frame (fun j hj => hO.at (by omega))
    refine ⟨_, ?_, C1, rfl, hO, p⟩
    unfold f_X0_countLiftedIn_b14
    dsimp only
    rw [hW1.n, hV.n, if_pos (le_rf _)])
  subst hS
  unfold f_X0_countLiftedIn g_X0_countLiftedIn
  rw [s_fill (by rw [l14]; omega), bsome, e1, bsome]
  dsimp only
  rw [bsome, show rB (anN (Lt T r y) (rN r)) = some (anN (Lt T r y) (rN r)) from if_pos (anN_01 _), bsome]
  exact ⟨C', rfl, hO, p⟩
end SR
