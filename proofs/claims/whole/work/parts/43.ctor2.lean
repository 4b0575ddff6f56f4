/-! printed: the great constructors, over a closed memory -/
def m0 : Mm := ((0, 0, 0), fun _ => 0, fun _ => 0, fun _ _ => 0, fun _ _ => 0, fun _ _ => none)
def inR (lo hi q : Nat) : Bool := Nat.ble lo q && Nat.blt q hi
theorem lay_of {lo hi : Nat} {M : Mm} (h1 : ∀ a, a < hi → lo ≤ a → a < zN M ∧ sh M a = SH a ∧ ln M a = LN a) (h2 : ∀ t ∈ FRt, lo ≤ t.1 → t.1 < hi → SH t.1 = 14 ∨ (mr M t.1 t.2.1 = some t.2.2 ∧ lo ≤ t.2.2 ∧ t.2.2 < hi)) (h3 : ∀ a, a < hi → lo ≤ a → SH a = 14 → ∀ k, k < LN a → mr M a k = some (a + 1 + k) ∧ a + 1 + k < hi) (h4 : ∀ t ∈ DRt, lo ≤ t.1 → t.1 < hi → ∃ q, mr M t.1 t.2.1 = some q ∧ (lo ≤ q ∧ q < hi) ∧ SH q = t.2.2) : Lay (fun a => lo ≤ a ∧ a < hi) M := by
  refine ⟨fun a ha => h1 a ha.2 ha.1, fun a k q ha hf => ?_, fun a k t ha hd => ?_⟩
  · unfold FR at hf
    by_cases h : SH a = 14
    · rw [if_pos h] at hf
      by_cases hk : k < LN a
      · rw [if_pos hk] at hf
        cases hf
        have h5 := h3 a ha.2 ha.1 h k hk
        exact ⟨h5.1, by have := ha.1; show lo ≤ a + 1 + k; omega, h5.2⟩
      · rw [if_neg hk] at hf
        cases hf
    · rw [if_neg h] at hf
      cases hq : FRt.find? (fun q => q.1 == a && q.2.1 == k) with
      | none => rw [hq] at hf; cases hf
      | some t =>
        rw [hq] at hf
        cases hf
        have hm := List.mem_of_find?_eq_some hq
        have hp := List.find?_some hq
        simp only [Bool.and_eq_true, beq_iff_eq] at hp
        obtain ⟨p1, p2⟩ := hp
        subst p1
        subst p2
        rcases h2 t hm ha.1 ha.2 with h5 | h5
        · exact absurd h5 h
        · exact h5
  · unfold DR at hd
    cases hq : DRt.find? (fun q => q.1 == a && q.2.1 == k) with
    | none => rw [hq] at hd; cases hd
    | some t9 =>
      rw [hq] at hd
      cases hd
      have hm := List.mem_of_find?_eq_some hq
      have hp := List.find?_some hq
      simp only [Bool.and_eq_true, beq_iff_eq] at hp
      obtain ⟨p1, p2⟩ := hp
      subst p1
      subst p2
      exact h4 t9 hm ha.1 ha.2
theorem lay_tells {P : Nat → Prop} {M : Mm} (h : Lay P M) : Lay P (e_tells M) := by
  unfold e_tells e_fill5
  exact Lay.sA (Lay.sI (Lay.sI (Lay.sI (Lay.sI (Lay.sI (Lay.sI (Lay.sI (Lay.sI (Lay.sI (Lay.sI h))))))))))
section NC2
variable {l : Launch} {s0 : State} {b L : Nat} {xs : Nat → Int32} {D : va_G} {cy : Nat → ClassId} {ad : Nat → Nat}
def mA : Mm := sN m0 9 0 16
def mq2 : Mm := (sN (sR (c_X0 12 (sN (sR (c_X5 8 (sN (sR (c_X6 3 (sN (sR (c_X7 1 (sN mA 7 0 7)) 0 0 (some 1)) 6 0 7)) 0 1 (some 3)) 5 0 5)) 0 2 (some 8)) 0 0 6)) 0 3 (some 12)) 2 0 3)
def mq3 : Mm := (sR (sN (sR (c_X8 19 (sN mq2 8 0 16)) 18 0 (some 19)) 12 393 393) 18 1 (some 27))
set_option maxRecDepth 100000 in
theorem CI_X2_18 (G : GG l s0 b L xs D cy ad) : Cal l s0 D cy ad 40 KX2_init [.ref 18] mq2 (.inl none) mq3 := by
  unfold mq2 mq3
  refine cal_ofC (by decide +kernel) (by decide) (lo0 := [_]) rfl ?_
  refine r_aload_n (n := 0) (by decide +kernel) rfl ?_
  refine r_objinit G ml_RX2_3 oi_ins oi_cod (by decide) (by decide +kernel) (by decide +kernel) ?_
  refine r_aload_n (n := 0) (by decide +kernel) rfl ?_
  refine r_newO (a := 19) (C := "FieldStones$World") (w := 16) G (by decide +kernel) call_8 rfl (tin1 (List.mem_of_getElem? (i := 159) rfl)) (by decide +kernel) (by decide +kernel) (by decide +kernel) ?_
  refine r_dup rfl (by decide +kernel) ?_
  refine r_ctorN G (CI_X8 G ⟨(by decide +kernel), (by decide +kernel), (by decide +kernel), (by decide +kernel)⟩) (by decide) mX8_init ml_RX2_11 (by decide +kernel) (by decide +kernel) ?_
  refine r_putR G fl_RX2_12 (fun _ => ⟨rfl, rfl⟩) (by decide +kernel) (by decide +kernel) (by decide +kernel) ?_
  refine r_aload_n (n := 0) (by decide +kernel) rfl ?_
  refine r_sipush (n := 393) (v := 393) rfl (by decide +kernel) ?_
  refine r_newA (at9 := .int) (a := 27) (N := 393) (k := 12) G (by decide +kernel) rfl (by decide) (tin1 (List.mem_of_getElem? (i := 102) rfl)) (by decide +kernel) (by decide +kernel) (Nat.le_of_ble_eq_true rfl) (by decide +kernel) (by decide +kernel) (by decide +kernel) ?_
  refine r_putR G fl_RX2_18 (fun _ => ⟨rfl, rfl⟩) (by decide +kernel) (by decide +kernel) (by decide +kernel) ?_
  exact r_return (by decide +kernel)
def mq4 : Mm := (sN (sR mq3 0 4 (some 18)) 3 0 12)
def mq5 : Mm := (sR (c_X4 34 (sN (sR (c_X4 30 (sN (sR (sN mq4 12 48 48) 28 0 (some 29)) 4 0 4)) 28 1 (some 30)) 4 0 4)) 28 2 (some 34))
theorem lay_mq5 : Lay (fun a => 28 ≤ a ∧ a < 38) mq5 := lay_of (by decide +kernel) (by decide +kernel) (by decide +kernel) (by decide +kernel)
def mq6 : Mm := (e_forget 28 30 34 mq5)
set_option maxRecDepth 100000 in
theorem CI_X3_28 (G : GG l s0 b L xs D cy ad) : Cal l s0 D cy ad 40 KX3_init [.ref 28] mq4 (.inl none) mq6 := by
  unfold mq4 mq6
  refine cal_ofC (by decide +kernel) (by decide) (lo0 := [_]) rfl ?_
  refine r_aload_n (n := 0) (by decide +kernel) rfl ?_
  refine r_objinit G ml_RX3_3 oi_ins oi_cod (by decide) (by decide +kernel) (by decide +kernel) ?_
  refine r_aload_n (n := 0) (by decide +kernel) rfl ?_
  refine r_bipush (n := 48) (v := 48) rfl (by decide +kernel) ?_
  refine r_newA (at9 := .int) (a := 29) (N := 48) (k := 12) G (by decide +kernel) rfl (by decide) (tin1 (List.mem_of_getElem? (i := 102) rfl)) (by decide +kernel) (by decide +kernel) (Nat.le_of_ble_eq_true rfl) (by decide +kernel) (by decide +kernel) (by decide +kernel) ?_
  refine r_putR G fl_RX3_9 (fun _ => ⟨rfl, rfl⟩) (by decide +kernel) (by decide +kernel) (by decide +kernel) ?_
  refine r_aload_n (n := 0) (by decide +kernel) rfl ?_
  refine r_newO (a := 30) (C := "FieldStones$Law") (w := 4) G (by decide +kernel) call_4 rfl (tin2 (List.mem_of_getElem? (i := 3) rfl)) (by decide +kernel) (by decide +kernel) (by decide +kernel) ?_
  refine r_dup rfl (by decide +kernel) ?_
  refine r_ctorN G (CI_X4 G ⟨(by decide +kernel), (by decide +kernel), (by decide +kernel), (by decide +kernel)⟩) (by decide) mX4_init ml_RX3_17 (by decide +kernel) (by decide +kernel) ?_
  refine r_putR G fl_RX3_18 (fun h9 => nomatch h9) (by decide +kernel) (by decide +kernel) (by decide +kernel) ?_
  refine r_aload_n (n := 0) (by decide +kernel) rfl ?_
  refine r_newO (a := 34) (C := "FieldStones$Law") (w := 4) G (by decide +kernel) call_4 rfl (tin2 (List.mem_of_getElem? (i := 3) rfl)) (by decide +kernel) (by decide +kernel) (by decide +kernel) ?_
  refine r_dup rfl (by decide +kernel) ?_
  refine r_ctorN G (CI_X4 G ⟨(by decide +kernel), (by decide +kernel), (by decide +kernel), (by decide +kernel)⟩) (by decide) mX4_init ml_RX3_17 (by decide +kernel) (by decide +kernel) ?_
  refine r_putR G fl_RX3_22 (fun h9 => nomatch h9) (by decide +kernel) (by decide +kernel) (by decide +kernel) ?_
  refine r_aload_n (n := 0) (by decide +kernel) rfl ?_
  refine r_callV0 G (B_X3_forget (P := fun a => 28 ≤ a ∧ a < 38) G (by decide) rfl (s_forget (l1 := 30) (l2 := 34) (by decide +kernel) (by decide +kernel) (by decide +kernel)) lay_mq5).1 (by decide) mX3_forget ml_RX3_25 (by decide +kernel) (by decide +kernel) (by decide +kernel) (by decide +kernel) ?_
  exact r_return (by decide +kernel)
def mq7 : Mm := (sN (sR mq6 0 5 (some 28)) 3 0 12)
def mq8 : Mm := (sR (c_X4 44 (sN (sR (c_X4 40 (sN (sR (sN mq7 12 48 48) 38 0 (some 39)) 4 0 4)) 38 1 (some 40)) 4 0 4)) 38 2 (some 44))
theorem lay_mq8 : Lay (fun a => 38 ≤ a ∧ a < 48) mq8 := lay_of (by decide +kernel) (by decide +kernel) (by decide +kernel) (by decide +kernel)
def mq9 : Mm := (e_forget 38 40 44 mq8)
set_option maxRecDepth 100000 in
theorem CI_X3_38 (G : GG l s0 b L xs D cy ad) : Cal l s0 D cy ad 40 KX3_init [.ref 38] mq7 (.inl none) mq9 := by
  unfold mq7 mq9
  refine cal_ofC (by decide +kernel) (by decide) (lo0 := [_]) rfl ?_
  refine r_aload_n (n := 0) (by decide +kernel) rfl ?_
  refine r_objinit G ml_RX3_3 oi_ins oi_cod (by decide) (by decide +kernel) (by decide +kernel) ?_
  refine r_aload_n (n := 0) (by decide +kernel) rfl ?_
  refine r_bipush (n := 48) (v := 48) rfl (by decide +kernel) ?_
  refine r_newA (at9 := .int) (a := 39) (N := 48) (k := 12) G (by decide +kernel) rfl (by decide) (tin1 (List.mem_of_getElem? (i := 102) rfl)) (by decide +kernel) (by decide +kernel) (Nat.le_of_ble_eq_true rfl) (by decide +kernel) (by decide +kernel) (by decide +kernel) ?_
  refine r_putR G fl_RX3_9 (fun _ => ⟨rfl, rfl⟩) (by decide +kernel) (by decide +kernel) (by decide +kernel) ?_
  refine r_aload_n (n := 0) (by decide +kernel) rfl ?_
  refine r_newO (a := 40) (C := "FieldStones$Law") (w := 4) G (by decide +kernel) call_4 rfl (tin2 (List.mem_of_getElem? (i := 3) rfl)) (by decide +kernel) (by decide +kernel) (by decide +kernel) ?_
  refine r_dup rfl (by decide +kernel) ?_
  refine r_ctorN G (CI_X4 G ⟨(by decide +kernel), (by decide +kernel), (by decide +kernel), (by decide +kernel)⟩) (by decide) mX4_init ml_RX3_17 (by decide +kernel) (by decide +kernel) ?_
  refine r_putR G fl_RX3_18 (fun h9 => nomatch h9) (by decide +kernel) (by decide +kernel) (by decide +kernel) ?_
  refine r_aload_n (n := 0) (by decide +kernel) rfl ?_
  refine r_newO (a := 44) (C := "FieldStones$Law") (w := 4) G (by decide +kernel) call_4 rfl (tin2 (List.mem_of_getElem? (i := 3) rfl)) (by decide +kernel) (by decide +kernel) (by decide +kernel) ?_
  refine r_dup rfl (by decide +kernel) ?_
  refine r_ctorN G (CI_X4 G ⟨(by decide +kernel), (by decide +kernel), (by decide +kernel), (by decide +kernel)⟩) (by decide) mX4_init ml_RX3_17 (by decide +kernel) (by decide +kernel) ?_
  refine r_putR G fl_RX3_22 (fun h9 => nomatch h9) (by decide +kernel) (by decide +kernel) (by decide +kernel) ?_
  refine r_aload_n (n := 0) (by decide +kernel) rfl ?_
  refine r_callV0 G (B_X3_forget (P := fun a => 38 ≤ a ∧ a < 48) G (by decide) rfl (s_forget (l1 := 40) (l2 := 44) (by decide +kernel) (by decide +kernel) (by decide +kernel)) lay_mq8).1 (by decide) mX3_forget ml_RX3_25 (by decide +kernel) (by decide +kernel) (by decide +kernel) (by decide +kernel) ?_
  exact r_return (by decide +kernel)
def mq10 : Mm := (sR (c_X4 72 (sN (sR (c_X1 68 (sN (sR (c_X1 64 (sN (sR (c_X8 56 (sN (sR (c_X8 48 (sN (sR mq9 0 6 (some 38)) 8 0 16)) 0 7 (some 48)) 8 0 16)) 0 8 (some 56)) 1 0 4)) 0 9 (some 64)) 1 0 4)) 0 10 (some 68)) 4 0 4)) 0 11 (some 72))
set_option maxRecDepth 100000 in
theorem CI_X9_0 (G : GG l s0 b L xs D cy ad) : Cal l s0 D cy ad 50 KX9_init [.ref 0] mA (.inl none) mq10 := by
  unfold mA mq10
  refine cal_ofC (by decide +kernel) (by decide) (lo0 := [_]) rfl ?_
  refine r_aload_n (n := 0) (by decide +kernel) rfl ?_
  refine r_objinit G ml_RX9_3 oi_ins oi_cod (by decide) (by decide +kernel) (by decide +kernel) ?_
  refine r_aload_n (n := 0) (by decide +kernel) rfl ?_
  refine r_newO (a := 1) (C := "FieldStones$Tape") (w := 7) G (by decide +kernel) call_7 rfl (tin1 (List.mem_of_getElem? (i := 35) rfl)) (by decide +kernel) (by decide +kernel) (by decide +kernel) ?_
  refine r_dup rfl (by decide +kernel) ?_
  refine r_ctorN G (CI_X7 G ⟨(by decide +kernel), (by decide +kernel), (by decide +kernel), (by decide +kernel)⟩) (by decide) mX7_init ml_RX9_11 (by decide +kernel) (by decide +kernel) ?_
  refine r_putR G fl_RX9_12 (fun _ => ⟨rfl, rfl⟩) (by decide +kernel) (by decide +kernel) (by decide +kernel) ?_
  refine r_aload_n (n := 0) (by decide +kernel) rfl ?_
  refine r_newO (a := 3) (C := "FieldStones$Plan") (w := 7) G (by decide +kernel) call_6 rfl (tin1 (List.mem_of_getElem? (i := 72) rfl)) (by decide +kernel) (by decide +kernel) (by decide +kernel) ?_
  refine r_dup rfl (by decide +kernel) ?_
  refine r_ctorN G (CI_X6 G ⟨(by decide +kernel), (by decide +kernel), (by decide +kernel), (by decide +kernel)⟩) (by decide) mX6_init ml_RX9_18 (by decide +kernel) (by decide +kernel) ?_
  refine r_putR G fl_RX9_19 (fun _ => ⟨rfl, rfl⟩) (by decide +kernel) (by decide +kernel) (by decide +kernel) ?_
  refine r_aload_n (n := 0) (by decide +kernel) rfl ?_
  refine r_newO (a := 8) (C := "FieldStones$Past") (w := 5) G (by decide +kernel) call_5 rfl (tin1 (List.mem_of_getElem? (i := 103) rfl)) (by decide +kernel) (by decide +kernel) (by decide +kernel) ?_
  refine r_dup rfl (by decide +kernel) ?_
  refine r_ctorN G (CI_X5 G ⟨(by decide +kernel), (by decide +kernel), (by decide +kernel), (by decide +kernel)⟩) (by decide) mX5_init ml_RX9_25 (by decide +kernel) (by decide +kernel) ?_
  refine r_putR G fl_RX9_26 (fun _ => ⟨rfl, rfl⟩) (by decide +kernel) (by decide +kernel) (by decide +kernel) ?_
  refine r_aload_n (n := 0) (by decide +kernel) rfl ?_
  refine r_newO (a := 12) (C := "FieldStones$Advice") (w := 6) G (by decide +kernel) call_0 rfl (tin1 (List.mem_of_getElem? (i := 127) rfl)) (by decide +kernel) (by decide +kernel) (by decide +kernel) ?_
  refine r_dup rfl (by decide +kernel) ?_
  refine r_ctorN G (CI_X0 G ⟨(by decide +kernel), (by decide +kernel), (by decide +kernel), (by decide +kernel)⟩) (by decide) mX0_init ml_RX9_32 (by decide +kernel) (by decide +kernel) ?_
  refine r_putR G fl_RX9_33 (fun _ => ⟨rfl, rfl⟩) (by decide +kernel) (by decide +kernel) (by decide +kernel) ?_
  refine r_aload_n (n := 0) (by decide +kernel) rfl ?_
  refine r_newO (a := 18) (C := "FieldStones$Forecast") (w := 3) G (by decide +kernel) call_2 rfl (tin1 (List.mem_of_getElem? (i := 153) rfl)) (by decide +kernel) (by decide +kernel) (by decide +kernel) ?_
  refine r_dup rfl (by decide +kernel) ?_
  refine r_ctorN G (CI_X2_18 G) (by decide) mX2_init ml_RX9_39 (by decide +kernel) (by decide +kernel) ?_
  refine r_putR G fl_RX9_40 (fun _ => ⟨rfl, rfl⟩) (by decide +kernel) (by decide +kernel) (by decide +kernel) ?_
  refine r_aload_n (n := 0) (by decide +kernel) rfl ?_
  refine r_newO (a := 28) (C := "FieldStones$Ground") (w := 12) G (by decide +kernel) call_3 rfl (tin1 (List.mem_of_getElem? (i := 237) rfl)) (by decide +kernel) (by decide +kernel) (by decide +kernel) ?_
  refine r_dup rfl (by decide +kernel) ?_
  refine r_ctorP G (CI_X3_28 G) (by decide) mX3_init ml_RX9_46 (by decide +kernel) (by decide +kernel) ?_
  refine r_putR G fl_RX9_47 (fun h9 => nomatch h9) (by decide +kernel) (by decide +kernel) (by decide +kernel) ?_
  refine r_aload_n (n := 0) (by decide +kernel) rfl ?_
  refine r_newO (a := 38) (C := "FieldStones$Ground") (w := 12) G (by decide +kernel) call_3 rfl (tin1 (List.mem_of_getElem? (i := 237) rfl)) (by decide +kernel) (by decide +kernel) (by decide +kernel) ?_
  refine r_dup rfl (by decide +kernel) ?_
  refine r_ctorP G (CI_X3_38 G) (by decide) mX3_init ml_RX9_46 (by decide +kernel) (by decide +kernel) ?_
  refine r_putR G fl_RX9_51 (fun h9 => nomatch h9) (by decide +kernel) (by decide +kernel) (by decide +kernel) ?_
  refine r_aload_n (n := 0) (by decide +kernel) rfl ?_
  refine r_newO (a := 48) (C := "FieldStones$World") (w := 16) G (by decide +kernel) call_8 rfl (tin2 (List.mem_of_getElem? (i := 96) rfl)) (by decide +kernel) (by decide +kernel) (by decide +kernel) ?_
  refine r_dup rfl (by decide +kernel) ?_
  refine r_ctorN G (CI_X8 G ⟨(by decide +kernel), (by decide +kernel), (by decide +kernel), (by decide +kernel)⟩) (by decide) mX8_init ml_RX9_56 (by decide +kernel) (by decide +kernel) ?_
  refine r_putR G fl_RX9_57 (fun h9 => nomatch h9) (by decide +kernel) (by decide +kernel) (by decide +kernel) ?_
  refine r_aload_n (n := 0) (by decide +kernel) rfl ?_
  refine r_newO (a := 56) (C := "FieldStones$World") (w := 16) G (by decide +kernel) call_8 rfl (tin2 (List.mem_of_getElem? (i := 96) rfl)) (by decide +kernel) (by decide +kernel) (by decide +kernel) ?_
  refine r_dup rfl (by decide +kernel) ?_
  refine r_ctorN G (CI_X8 G ⟨(by decide +kernel), (by decide +kernel), (by decide +kernel), (by decide +kernel)⟩) (by decide) mX8_init ml_RX9_56 (by decide +kernel) (by decide +kernel) ?_
  refine r_putR G fl_RX9_61 (fun h9 => nomatch h9) (by decide +kernel) (by decide +kernel) (by decide +kernel) ?_
  refine r_aload_n (n := 0) (by decide +kernel) rfl ?_
  refine r_newO (a := 64) (C := "FieldStones$Book") (w := 4) G (by decide +kernel) call_1 rfl (tin2 (List.mem_of_getElem? (i := 98) rfl)) (by decide +kernel) (by decide +kernel) (by decide +kernel) ?_
  refine r_dup rfl (by decide +kernel) ?_
  refine r_ctorN G (CI_X1 G ⟨(by decide +kernel), (by decide +kernel), (by decide +kernel), (by decide +kernel)⟩) (by decide) mX1_init ml_RX9_66 (by decide +kernel) (by decide +kernel) ?_
  refine r_putR G fl_RX9_67 (fun h9 => nomatch h9) (by decide +kernel) (by decide +kernel) (by decide +kernel) ?_
  refine r_aload_n (n := 0) (by decide +kernel) rfl ?_
  refine r_newO (a := 68) (C := "FieldStones$Book") (w := 4) G (by decide +kernel) call_1 rfl (tin2 (List.mem_of_getElem? (i := 98) rfl)) (by decide +kernel) (by decide +kernel) (by decide +kernel) ?_
  refine r_dup rfl (by decide +kernel) ?_
  refine r_ctorN G (CI_X1 G ⟨(by decide +kernel), (by decide +kernel), (by decide +kernel), (by decide +kernel)⟩) (by decide) mX1_init ml_RX9_66 (by decide +kernel) (by decide +kernel) ?_
  refine r_putR G fl_RX9_71 (fun h9 => nomatch h9) (by decide +kernel) (by decide +kernel) (by decide +kernel) ?_
  refine r_aload_n (n := 0) (by decide +kernel) rfl ?_
  refine r_newO (a := 72) (C := "FieldStones$Law") (w := 4) G (by decide +kernel) call_4 rfl (tin2 (List.mem_of_getElem? (i := 118) rfl)) (by decide +kernel) (by decide +kernel) (by decide +kernel) ?_
  refine r_dup rfl (by decide +kernel) ?_
  refine r_ctorN G (CI_X4 G ⟨(by decide +kernel), (by decide +kernel), (by decide +kernel), (by decide +kernel)⟩) (by decide) mX4_init ml_RX9_76 (by decide +kernel) (by decide +kernel) ?_
  refine r_putR G fl_RX9_77 (fun h9 => nomatch h9) (by decide +kernel) (by decide +kernel) (by decide +kernel) ?_
  exact r_return (by decide +kernel)
def mCc : Mm := sN mq10 10 0 43
def mq12 : Mm := (sR (sN (sR (sMu (sR (sN (sR (sMu (sR (sMu (sR (sN (sR (sN (sR (sMu (sR (sN (sR (sMu (sR (sMu (sR (sMu (sR (sN (sR (sN (sR (sN (sR (sMu (sR (sN (sR (sN (sR (sN (sR (sN (sR (sN (sR (sN (sI mCc 76 3 (-1)) 12 600 600) 76 9 (some 77)) 12 3 3) 76 10 (some 78)) 12 10 10) 76 11 (some 79)) 12 10 10) 76 12 (some 80)) 12 48 48) 76 13 (some 81)) 12 48 48) 76 14 (some 82)) 30 3) 76 15 (some 83)) 12 2 2) 76 16 (some 114)) 12 160 160) 76 17 (some 115)) 12 7 7) 76 18 (some 116)) 2 320) 76 19 (some 117)) 6 3) 76 20 (some 120)) 6 3) 76 21 (some 127)) 12 320 320) 76 22 (some 134)) 60 3) 76 24 (some 135)) 12 415 415) 76 26 (some 196)) 12 415 415) 76 27 (some 197)) 20 415) 76 28 (some 198)) 3 8716) 76 29 (some 219)) 12 48 48) 76 37 (some 223)) 49 1000) 76 40 (some 224)) 12 6 6) 76 41 (some 274))
theorem lay_mq12 : Lay (fun a => 76 ≤ a ∧ a < 275) mq12 := lay_of (by decide +kernel) (by decide +kernel) (by decide +kernel) (by decide +kernel)
def mq13 : Mm := (e_tells mq12)
theorem lay_mq13 : Lay (fun a => 76 ≤ a ∧ a < 275) mq13 := lay_tells lay_mq12
def mq14 : Mm := (e_stand0 mq13)
set_option maxRecDepth 100000 in
theorem CI_X10_76 (G : GG l s0 b L xs D cy ad) : Cal l s0 D cy ad 50 KX10_init [.ref 76] mCc (.inl none) mq14 := by
  unfold mCc mq14
  refine cal_ofC (by decide +kernel) (by decide) (lo0 := [_]) rfl ?_
  refine r_aload_n (n := 0) (by decide +kernel) rfl ?_
  refine r_objinit G ml_RX10_3 oi_ins oi_cod (by decide) (by decide +kernel) (by decide +kernel) ?_
  refine r_aload_n (n := 0) (by decide +kernel) rfl ?_
  refine r_iconst (n := -1) (v := -1) rfl (by decide +kernel) ?_
  refine r_putI G fl_RX10_9 (by decide +kernel) (by decide +kernel) (by decide +kernel) ?_
  refine r_aload_n (n := 0) (by decide +kernel) rfl ?_
  refine r_sipush (n := 600) (v := 600) rfl (by decide +kernel) ?_
  refine r_newA (at9 := .int) (a := 77) (N := 600) (k := 12) G (by decide +kernel) rfl (by decide) (tin1 (List.mem_of_getElem? (i := 102) rfl)) (by decide +kernel) (by decide +kernel) (Nat.le_of_ble_eq_true rfl) (by decide +kernel) (by decide +kernel) (by decide +kernel) ?_
  refine r_putR G fl_RX10_13 (fun _ => ⟨rfl, rfl⟩) (by decide +kernel) (by decide +kernel) (by decide +kernel) ?_
  refine r_aload_n (n := 0) (by decide +kernel) rfl ?_
  refine r_iconst (n := 3) (v := 3) rfl (by decide +kernel) ?_
  refine r_newA (at9 := .int) (a := 78) (N := 3) (k := 12) G (by decide +kernel) rfl (by decide) (tin1 (List.mem_of_getElem? (i := 102) rfl)) (by decide +kernel) (by decide +kernel) (Nat.le_of_ble_eq_true rfl) (by decide +kernel) (by decide +kernel) (by decide +kernel) ?_
  refine r_putR G fl_RX10_17 (fun _ => ⟨rfl, rfl⟩) (by decide +kernel) (by decide +kernel) (by decide +kernel) ?_
  refine r_aload_n (n := 0) (by decide +kernel) rfl ?_
  refine r_bipush (n := 10) (v := 10) rfl (by decide +kernel) ?_
  refine r_newA (at9 := .int) (a := 79) (N := 10) (k := 12) G (by decide +kernel) rfl (by decide) (tin1 (List.mem_of_getElem? (i := 102) rfl)) (by decide +kernel) (by decide +kernel) (Nat.le_of_ble_eq_true rfl) (by decide +kernel) (by decide +kernel) (by decide +kernel) ?_
  refine r_putR G fl_RX10_20 (fun _ => ⟨rfl, rfl⟩) (by decide +kernel) (by decide +kernel) (by decide +kernel) ?_
  refine r_aload_n (n := 0) (by decide +kernel) rfl ?_
  refine r_bipush (n := 10) (v := 10) rfl (by decide +kernel) ?_
  refine r_newA (at9 := .int) (a := 80) (N := 10) (k := 12) G (by decide +kernel) rfl (by decide) (tin1 (List.mem_of_getElem? (i := 102) rfl)) (by decide +kernel) (by decide +kernel) (Nat.le_of_ble_eq_true rfl) (by decide +kernel) (by decide +kernel) (by decide +kernel) ?_
  refine r_putR G fl_RX10_23 (fun _ => ⟨rfl, rfl⟩) (by decide +kernel) (by decide +kernel) (by decide +kernel) ?_
  refine r_aload_n (n := 0) (by decide +kernel) rfl ?_
  refine r_bipush (n := 48) (v := 48) rfl (by decide +kernel) ?_
  refine r_newA (at9 := .int) (a := 81) (N := 48) (k := 12) G (by decide +kernel) rfl (by decide) (tin1 (List.mem_of_getElem? (i := 102) rfl)) (by decide +kernel) (by decide +kernel) (Nat.le_of_ble_eq_true rfl) (by decide +kernel) (by decide +kernel) (by decide +kernel) ?_
  refine r_putR G fl_RX10_26 (fun _ => ⟨rfl, rfl⟩) (by decide +kernel) (by decide +kernel) (by decide +kernel) ?_
  refine r_aload_n (n := 0) (by decide +kernel) rfl ?_
  refine r_bipush (n := 48) (v := 48) rfl (by decide +kernel) ?_
  refine r_newA (at9 := .int) (a := 82) (N := 48) (k := 12) G (by decide +kernel) rfl (by decide) (tin1 (List.mem_of_getElem? (i := 102) rfl)) (by decide +kernel) (by decide +kernel) (Nat.le_of_ble_eq_true rfl) (by decide +kernel) (by decide +kernel) (by decide +kernel) ?_
  refine r_putR G fl_RX10_29 (fun _ => ⟨rfl, rfl⟩) (by decide +kernel) (by decide +kernel) (by decide +kernel) ?_
  refine r_aload_n (n := 0) (by decide +kernel) rfl ?_
  refine r_bipush (n := 30) (v := 30) rfl (by decide +kernel) ?_
  refine r_iconst (n := 3) (v := 3) rfl (by decide +kernel) ?_
  refine r_multi (idx := 32) (N := 30) (K := 3) (a := 83) G (by decide +kernel) (tin7 (List.mem_of_getElem? (i := 1) rfl)) (tin7 (List.mem_of_getElem? (i := 2) rfl)) (tin1 (List.mem_of_getElem? (i := 102) rfl)) (by decide +kernel) (by decide +kernel) (by decide +kernel) (by decide +kernel) (Nat.le_of_ble_eq_true rfl) (Nat.le_of_ble_eq_true rfl) (by decide +kernel) (by decide +kernel) (by decide +kernel) ?_
  refine r_putR G fl_RX10_34 (fun _ => ⟨rfl, rfl⟩) (by decide +kernel) (by decide +kernel) (by decide +kernel) ?_
  refine r_aload_n (n := 0) (by decide +kernel) rfl ?_
  refine r_iconst (n := 2) (v := 2) rfl (by decide +kernel) ?_
  refine r_newA (at9 := .int) (a := 114) (N := 2) (k := 12) G (by decide +kernel) rfl (by decide) (tin1 (List.mem_of_getElem? (i := 102) rfl)) (by decide +kernel) (by decide +kernel) (Nat.le_of_ble_eq_true rfl) (by decide +kernel) (by decide +kernel) (by decide +kernel) ?_
  refine r_putR G fl_RX10_37 (fun _ => ⟨rfl, rfl⟩) (by decide +kernel) (by decide +kernel) (by decide +kernel) ?_
  refine r_aload_n (n := 0) (by decide +kernel) rfl ?_
  refine r_sipush (n := 160) (v := 160) rfl (by decide +kernel) ?_
  refine r_newA (at9 := .int) (a := 115) (N := 160) (k := 12) G (by decide +kernel) rfl (by decide) (tin1 (List.mem_of_getElem? (i := 102) rfl)) (by decide +kernel) (by decide +kernel) (Nat.le_of_ble_eq_true rfl) (by decide +kernel) (by decide +kernel) (by decide +kernel) ?_
  refine r_putR G fl_RX10_40 (fun _ => ⟨rfl, rfl⟩) (by decide +kernel) (by decide +kernel) (by decide +kernel) ?_
  refine r_aload_n (n := 0) (by decide +kernel) rfl ?_
  refine r_bipush (n := 7) (v := 7) rfl (by decide +kernel) ?_
  refine r_newA (at9 := .int) (a := 116) (N := 7) (k := 12) G (by decide +kernel) rfl (by decide) (tin1 (List.mem_of_getElem? (i := 102) rfl)) (by decide +kernel) (by decide +kernel) (Nat.le_of_ble_eq_true rfl) (by decide +kernel) (by decide +kernel) (by decide +kernel) ?_
  refine r_putR G fl_RX10_43 (fun _ => ⟨rfl, rfl⟩) (by decide +kernel) (by decide +kernel) (by decide +kernel) ?_
  refine r_aload_n (n := 0) (by decide +kernel) rfl ?_
  refine r_iconst (n := 2) (v := 2) rfl (by decide +kernel) ?_
  refine r_sipush (n := 320) (v := 320) rfl (by decide +kernel) ?_
  refine r_multi (idx := 32) (N := 2) (K := 320) (a := 117) G (by decide +kernel) (tin7 (List.mem_of_getElem? (i := 1) rfl)) (tin7 (List.mem_of_getElem? (i := 2) rfl)) (tin1 (List.mem_of_getElem? (i := 102) rfl)) (by decide +kernel) (by decide +kernel) (by decide +kernel) (by decide +kernel) (Nat.le_of_ble_eq_true rfl) (Nat.le_of_ble_eq_true rfl) (by decide +kernel) (by decide +kernel) (by decide +kernel) ?_
  refine r_putR G fl_RX10_46 (fun _ => ⟨rfl, rfl⟩) (by decide +kernel) (by decide +kernel) (by decide +kernel) ?_
  refine r_aload_n (n := 0) (by decide +kernel) rfl ?_
  refine r_bipush (n := 6) (v := 6) rfl (by decide +kernel) ?_
  refine r_iconst (n := 3) (v := 3) rfl (by decide +kernel) ?_
  refine r_multi (idx := 32) (N := 6) (K := 3) (a := 120) G (by decide +kernel) (tin7 (List.mem_of_getElem? (i := 1) rfl)) (tin7 (List.mem_of_getElem? (i := 2) rfl)) (tin1 (List.mem_of_getElem? (i := 102) rfl)) (by decide +kernel) (by decide +kernel) (by decide +kernel) (by decide +kernel) (Nat.le_of_ble_eq_true rfl) (Nat.le_of_ble_eq_true rfl) (by decide +kernel) (by decide +kernel) (by decide +kernel) ?_
  refine r_putR G fl_RX10_49 (fun _ => ⟨rfl, rfl⟩) (by decide +kernel) (by decide +kernel) (by decide +kernel) ?_
  refine r_aload_n (n := 0) (by decide +kernel) rfl ?_
  refine r_bipush (n := 6) (v := 6) rfl (by decide +kernel) ?_
  refine r_iconst (n := 3) (v := 3) rfl (by decide +kernel) ?_
  refine r_multi (idx := 32) (N := 6) (K := 3) (a := 127) G (by decide +kernel) (tin7 (List.mem_of_getElem? (i := 1) rfl)) (tin7 (List.mem_of_getElem? (i := 2) rfl)) (tin1 (List.mem_of_getElem? (i := 102) rfl)) (by decide +kernel) (by decide +kernel) (by decide +kernel) (by decide +kernel) (Nat.le_of_ble_eq_true rfl) (Nat.le_of_ble_eq_true rfl) (by decide +kernel) (by decide +kernel) (by decide +kernel) ?_
  refine r_putR G fl_RX10_52 (fun _ => ⟨rfl, rfl⟩) (by decide +kernel) (by decide +kernel) (by decide +kernel) ?_
  refine r_aload_n (n := 0) (by decide +kernel) rfl ?_
  refine r_sipush (n := 320) (v := 320) rfl (by decide +kernel) ?_
  refine r_newA (at9 := .int) (a := 134) (N := 320) (k := 12) G (by decide +kernel) rfl (by decide) (tin1 (List.mem_of_getElem? (i := 102) rfl)) (by decide +kernel) (by decide +kernel) (Nat.le_of_ble_eq_true rfl) (by decide +kernel) (by decide +kernel) (by decide +kernel) ?_
  refine r_putR G fl_RX10_55 (fun _ => ⟨rfl, rfl⟩) (by decide +kernel) (by decide +kernel) (by decide +kernel) ?_
  refine r_aload_n (n := 0) (by decide +kernel) rfl ?_
  refine r_bipush (n := 60) (v := 60) rfl (by decide +kernel) ?_
  refine r_iconst (n := 3) (v := 3) rfl (by decide +kernel) ?_
  refine r_multi (idx := 32) (N := 60) (K := 3) (a := 135) G (by decide +kernel) (tin7 (List.mem_of_getElem? (i := 1) rfl)) (tin7 (List.mem_of_getElem? (i := 2) rfl)) (tin1 (List.mem_of_getElem? (i := 102) rfl)) (by decide +kernel) (by decide +kernel) (by decide +kernel) (by decide +kernel) (Nat.le_of_ble_eq_true rfl) (Nat.le_of_ble_eq_true rfl) (by decide +kernel) (by decide +kernel) (by decide +kernel) ?_
  refine r_putR G fl_RX10_58 (fun _ => ⟨rfl, rfl⟩) (by decide +kernel) (by decide +kernel) (by decide +kernel) ?_
  refine r_aload_n (n := 0) (by decide +kernel) rfl ?_
  refine r_sipush (n := 415) (v := 415) rfl (by decide +kernel) ?_
  refine r_newA (at9 := .int) (a := 196) (N := 415) (k := 12) G (by decide +kernel) rfl (by decide) (tin1 (List.mem_of_getElem? (i := 102) rfl)) (by decide +kernel) (by decide +kernel) (Nat.le_of_ble_eq_true rfl) (by decide +kernel) (by decide +kernel) (by decide +kernel) ?_
  refine r_putR G fl_RX10_61 (fun _ => ⟨rfl, rfl⟩) (by decide +kernel) (by decide +kernel) (by decide +kernel) ?_
  refine r_aload_n (n := 0) (by decide +kernel) rfl ?_
  refine r_sipush (n := 415) (v := 415) rfl (by decide +kernel) ?_
  refine r_newA (at9 := .int) (a := 197) (N := 415) (k := 12) G (by decide +kernel) rfl (by decide) (tin1 (List.mem_of_getElem? (i := 102) rfl)) (by decide +kernel) (by decide +kernel) (Nat.le_of_ble_eq_true rfl) (by decide +kernel) (by decide +kernel) (by decide +kernel) ?_
  refine r_putR G fl_RX10_64 (fun _ => ⟨rfl, rfl⟩) (by decide +kernel) (by decide +kernel) (by decide +kernel) ?_
  refine r_aload_n (n := 0) (by decide +kernel) rfl ?_
  refine r_bipush (n := 20) (v := 20) rfl (by decide +kernel) ?_
  refine r_sipush (n := 415) (v := 415) rfl (by decide +kernel) ?_
  refine r_multi (idx := 32) (N := 20) (K := 415) (a := 198) G (by decide +kernel) (tin7 (List.mem_of_getElem? (i := 1) rfl)) (tin7 (List.mem_of_getElem? (i := 2) rfl)) (tin1 (List.mem_of_getElem? (i := 102) rfl)) (by decide +kernel) (by decide +kernel) (by decide +kernel) (by decide +kernel) (Nat.le_of_ble_eq_true rfl) (Nat.le_of_ble_eq_true rfl) (by decide +kernel) (by decide +kernel) (by decide +kernel) ?_
  refine r_putR G fl_RX10_67 (fun _ => ⟨rfl, rfl⟩) (by decide +kernel) (by decide +kernel) (by decide +kernel) ?_
  refine r_aload_n (n := 0) (by decide +kernel) rfl ?_
  refine r_iconst (n := 3) (v := 3) rfl (by decide +kernel) ?_
  refine r_sipush (n := 8716) (v := 8716) rfl (by decide +kernel) ?_
  refine r_multi (idx := 32) (N := 3) (K := 8716) (a := 219) G (by decide +kernel) (tin7 (List.mem_of_getElem? (i := 1) rfl)) (tin7 (List.mem_of_getElem? (i := 2) rfl)) (tin1 (List.mem_of_getElem? (i := 102) rfl)) (by decide +kernel) (by decide +kernel) (by decide +kernel) (by decide +kernel) (Nat.le_of_ble_eq_true rfl) (Nat.le_of_ble_eq_true rfl) (by decide +kernel) (by decide +kernel) (by decide +kernel) ?_
  refine r_putR G fl_RX10_70 (fun _ => ⟨rfl, rfl⟩) (by decide +kernel) (by decide +kernel) (by decide +kernel) ?_
  refine r_aload_n (n := 0) (by decide +kernel) rfl ?_
  refine r_bipush (n := 48) (v := 48) rfl (by decide +kernel) ?_
  refine r_newA (at9 := .int) (a := 223) (N := 48) (k := 12) G (by decide +kernel) rfl (by decide) (tin1 (List.mem_of_getElem? (i := 102) rfl)) (by decide +kernel) (by decide +kernel) (Nat.le_of_ble_eq_true rfl) (by decide +kernel) (by decide +kernel) (by decide +kernel) ?_
  refine r_putR G fl_RX10_73 (fun _ => ⟨rfl, rfl⟩) (by decide +kernel) (by decide +kernel) (by decide +kernel) ?_
  refine r_aload_n (n := 0) (by decide +kernel) rfl ?_
  refine r_bipush (n := 49) (v := 49) rfl (by decide +kernel) ?_
  refine r_sipush (n := 1000) (v := 1000) rfl (by decide +kernel) ?_
  refine r_multi (idx := 32) (N := 49) (K := 1000) (a := 224) G (by decide +kernel) (tin7 (List.mem_of_getElem? (i := 1) rfl)) (tin7 (List.mem_of_getElem? (i := 2) rfl)) (tin1 (List.mem_of_getElem? (i := 102) rfl)) (by decide +kernel) (by decide +kernel) (by decide +kernel) (by decide +kernel) (Nat.le_of_ble_eq_true rfl) (Nat.le_of_ble_eq_true rfl) (by decide +kernel) (by decide +kernel) (by decide +kernel) ?_
  refine r_putR G fl_RX10_76 (fun _ => ⟨rfl, rfl⟩) (by decide +kernel) (by decide +kernel) (by decide +kernel) ?_
  refine r_aload_n (n := 0) (by decide +kernel) rfl ?_
  refine r_bipush (n := 6) (v := 6) rfl (by decide +kernel) ?_
  refine r_newA (at9 := .int) (a := 274) (N := 6) (k := 12) G (by decide +kernel) rfl (by decide) (tin1 (List.mem_of_getElem? (i := 102) rfl)) (by decide +kernel) (by decide +kernel) (Nat.le_of_ble_eq_true rfl) (by decide +kernel) (by decide +kernel) (by decide +kernel) ?_
  refine r_putR G fl_RX10_79 (fun _ => ⟨rfl, rfl⟩) (by decide +kernel) (by decide +kernel) (by decide +kernel) ?_
  refine r_aload_n (n := 0) (by decide +kernel) rfl ?_
  refine r_callV0 G (B_X10_tellsNothing (P := fun a => 76 ≤ a ∧ a < 275) G (by decide) (s_tells) lay_mq12).1 (by decide) mX10_tellsNothing ml_RX10_82 (by decide +kernel) (by decide +kernel) (by decide +kernel) (by decide +kernel) ?_
  refine r_aload_n (n := 0) (by decide +kernel) rfl ?_
  refine r_callV0 G (B_X10_stands (P := fun a => 76 ≤ a ∧ a < 275) G (by decide) (s_stand0 (by decide +kernel)) lay_mq13).1 (by decide) mX10_stands ml_RX10_85 (by decide +kernel) (by decide +kernel) (by decide +kernel) (by decide +kernel) ?_
  exact r_return (by decide +kernel)
end NC2
