/-! level 3: stops: the class's plan -/
section ST
variable {k : Nat} {M : Mm} {q : Nat → Nat}
def stT (T : Mm) (r : Nat → Int32) (y : Nat) : Nat → Int32 × Nat
  | 0 => (0, 0)
  | n + 1 => if (stT T r y n).2 = 0 ∨ soV T r y (n + 1) < (stT T r y n).1 ∨ (soV T r y (n + 1) = (stT T r y n).1 ∧ onesV (n + 1) < onesV (stT T r y n).2) then (soV T r y (n + 1), n + 1) else stT T r y n
theorem stT_le {T : Mm} {r : Nat → Int32} {y : Nat} : ∀ n, (stT T r y n).2 ≤ n := by
  intro n
  induction n with
  | zero => exact Nat.le_refl _
  | succ n ih =>
    unfold stT
    split
    · exact Nat.le_refl _
    · omega
theorem ones_z : ∀ m : Nat, m < 256 → (onesV m = 0 ↔ m = 0) := by decide +kernel
theorem w_shift : ∀ w : Nat, w < 9 → ((1 : Int32) <<< (Int32.ofNat w &&& 31)) = Int32.ofNat (2 ^ w) := by decide +kernel
def an3 (C : Mm) (s : Int32 × Nat) : Prop := ml C 13 0 = s.1.toInt64 ∧ ml C 13 1 = (onesV s.2).toInt64 ∧ ml C 13 2 = (Int32.ofNat s.2).toInt64
theorem t64_z {x : Int32} : (x.toInt64 = 0) ↔ x = 0 := (show (x.toInt64 = (0 : Int32).toInt64) ↔ x = 0 from t64_eq)
theorem k_planStops {C T : Mm} {g a w h y : Nat} {r : Nat → Int32} (hG : RGd C T g) (hV : VR w h r) (hW : RW C a r) (hg : 14 < g) (ha : 14 < a) (hy : y < 48) : ∃ C', f_X0_planStops g a (Int32.ofNat y) C = some C' ∧ Oml (fun x => x = 14 ∨ x = 13) C C' ∧ an3 C' (if anN (Lt T r y) (rN r) = 0 then (0, 0) else stT T r y (2 ^ tw T - 1)) := by
  generalize hC1 : sL (sL (sL C 13 0 0) 13 1 0) 13 2 0 = C1
  have hO1 : Oml (fun x => x = 13) C C1 := by rw [← hC1]; exact setO rfl
  have a1 : an3 C1 (0, 0) := by rw [← hC1]; exact ⟨set0, set1, set2⟩
  have hG1 : RGd C1 T g := hG.frame (hO1.at (by omega)) (hO1.at (by omega)) KT.refl
  have hW1 : RW C1 a r := hW.frame (fun j hj => hO1.at (by omega))
  obtain ⟨C2, e2, hO2, p2⟩ := k_countLifted hG1 hV hW1 hg ha hy
  have t8 := hG.1.1.2.1
  have t1 := hG.1.1.1
  have hp : 2 ^ tw T ≤ 256 := Nat.pow_le_pow_right (i := tw T) (j := 8) (by decide) t8
  have hp1 : 0 < 2 ^ tw T := Nat.pow_pos (by decide)
  have a2 : an3 C2 (0, 0) := by unfold an3; rw [hO2.2.2.2.1]; exact a1
  have hO2' : Oml (fun x => x = 14 ∨ x = 13) C C2 := (hO1.mono (fun _ h => Or.inr h)).trans (hO2.l.mono (fun _ h => Or.inl h))
  unfold f_X0_planStops
  rw [k_settle, bsome, hC1, e2, bsome]
  dsimp only
  by_cases h0 : anN (Lt T r y) (rN r) = 0
  · rw [if_pos h0, if_pos h0]
    exact ⟨C2, rfl, hO2', a2⟩
  rw [if_neg h0, if_neg h0]
  obtain ⟨C3, e3, hO3, a3⟩ := whl_ex (f := f_X0_planStops_b21 g) (fun n st => ∃ C3, st = (Int32.ofNat (n + 1), C3) ∧ Oml (fun x => x = 13) C2 C3 ∧ an3 C3 (stT T r y n)) (fun C3 => Oml (fun x => x = 13) C2 C3 ∧ an3 C3 (stT T r y (2 ^ tw T - 1))) (2 ^ tw T - 1) fu (1, C2) (by show 2 ^ tw T - 1 < 1000000; omega) ⟨C2, rfl, Oml.refl, a2⟩ (by
    rintro n st hn ⟨C3, rfl, hO, hA⟩
    have hG3 : RGd C3 T g := (hG1.frame (hO2.at (by omega)) (hO2.at (by omega)) KT.refl).frame (hO.at (by omega)) (hO.at (by omega)) KT.refl
    have hm : n + 1 < 256 := by omega
    have hb := stT_le (T := T) (r := r) (y := y) n
    have c14 : ∀ d, d < 8 → mi C3 14 d = colN (Lt T r y) (fun i => rC r i % 8) d (rN r) := fun d hd => by rw [hO.at (by omega)]; exact p2 d hd
    have eg : ((1 : Int32) <<< (mi C3 g 3 &&& 31)) = Int32.ofNat (2 ^ tw T) := by rw [hG3.2.1.1, hG.1.1.2.2]; exact w_shift _ (by omega)
    have j112 : ∃ C', f_X0_planStops_j112 g (Int32.ofNat (n + 1)) (onesV (n + 1)) (soV T r y (n + 1)) C3 = some (.inl (Int32.ofNat (n + 1) + 1, C')) ∧ Oml (fun x => x = 13) C2 C' ∧ an3 C' (soV T r y (n + 1), n + 1) := by
      unfold f_X0_planStops_j112
      rw [k_settle, bsome]
      exact ⟨_, rfl, hO.trans (setO rfl), set0, set1, set2⟩
    have yes : ((stT T r y n).2 = 0 ∨ soV T r y (n + 1) < (stT T r y n).1 ∨ (soV T r y (n + 1) = (stT T r y n).1 ∧ onesV (n + 1) < onesV (stT T r y n).2)) → stT T r y (n + 1) = (soV T r y (n + 1), n + 1) := fun z => if_pos z
    have no : ¬ ((stT T r y n).2 = 0 ∨ soV T r y (n + 1) < (stT T r y n).1 ∨ (soV T r y (n + 1) = (stT T r y n).1 ∧ onesV (n + 1) < onesV (stT T r y n).2)) → stT T r y (n + 1) = stT T r y n := fun z => if_neg z
    have b1 : al C3 13 3 1 = some (ml C3 13 1) := al13 (i := 1) (by omega)
    have b0 : al C3 13 3 0 = some (ml C3 13 0) := al13 (i := 0) (by omega)
    refine Or.inl ?_
    unfold f_X0_planStops_b21
    dsimp only
    rw [eg, if_neg (nle (by omega) (by omega)), k_J6 hm, bsome, k_carriedCells (by omega) hm c14, bsome, k_setCost hG3, b1, bsome, hA.2.1]
    by_cases h1 : (stT T r y n).2 = 0
    · obtain ⟨C', z1, z2, z3⟩ := j112
      rw [if_pos (lg_z.mpr (t64_z.mpr ((ones_z _ (by omega)).mpr h1))), z1, oN_S]
      exact ⟨_, rfl, C', rfl, z2, by rw [yes (Or.inl h1)]; exact z3⟩
    rw [if_neg (fun z => h1 ((ones_z _ (by omega)).mp (t64_z.mp (lg_z.mp z)))), b0, bsome, hA.1]
    by_cases h2 : soV T r y (n + 1) < (stT T r y n).1
    · obtain ⟨C', z1, z2, z3⟩ := j112
      rw [if_pos (Int32.not_le.mp (fun z => lnle h2 (t64_le.mp (lg_lt.mp z)))), z1, oN_S]
      exact ⟨_, rfl, C', rfl, z2, by rw [yes (Or.inr (Or.inl h2))]; exact z3⟩
    rw [if_neg (fun z => Int32.not_le.mpr z (lg_lt.mpr (t64_le.mpr (nlt h2)))), bsome]
    by_cases h3 : soV T r y (n + 1) = (stT T r y n).1
    · rw [if_pos (lg_z.mpr (t64_eq.mpr h3)), bsome]
      by_cases h4 : onesV (n + 1) < onesV (stT T r y n).2
      · obtain ⟨C', z1, z2, z3⟩ := j112
        rw [if_neg (fun z => lnle h4 (t64_le.mp (lg_lt.mp z))), z1, oN_S]
        exact ⟨_, rfl, C', rfl, z2, by rw [yes (Or.inr (Or.inr ⟨h3, h4⟩))]; exact z3⟩
      · rw [if_pos (lg_lt.mpr (t64_le.mpr (nlt h4))), oN_S]
        exact ⟨_, rfl, C3, rfl, hO, by rw [no (fun z => z.elim h1 (fun z => z.elim h2 (fun z => h4 z.2)))]; exact hA⟩
    · rw [if_neg (fun z => h3 (t64_eq.mp (lg_z.mp z))), oN_S]
      exact ⟨_, rfl, C3, rfl, hO, by rw [no (fun z => z.elim h1 (fun z => z.elim h2 (fun z => h3 z.1)))]; exact hA⟩) (by
    rintro st ⟨C3, rfl, hO, hA⟩
    have hG3 : RGd C3 T g := (hG1.frame (hO2.at (by omega)) (hO2.at (by omega)) KT.refl).frame (hO.at (by omega)) (hO.at (by omega)) KT.refl
    have eg : ((1 : Int32) <<< (mi C3 g 3 &&& 31)) = Int32.ofNat (2 ^ tw T) := by rw [hG3.2.1.1, hG.1.1.2.2]; exact w_shift _ (by omega)
    refine ⟨C3, ?_, hO, hA⟩
    unfold f_X0_planStops_b21
    dsimp only
    rw [eg, show 2 ^ tw T - 1 + 1 = 2 ^ tw T by omega, if_pos (le_rf _)])
  rw [e3]
  exact ⟨C3, rfl, hO2'.trans (hO3.mono (fun _ h => Or.inr h)), a3⟩
end ST
