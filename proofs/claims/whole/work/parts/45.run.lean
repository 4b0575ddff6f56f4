/-! the law's run, out of its pure function -/
def mLw : Mm := sN mq14 13 1 1
theorem lay_mLw : Lay (fun a => 0 ≤ a ∧ a < 276) mLw := lay_of (by decide +kernel) (by decide +kernel) (by decide +kernel) (by decide +kernel)
section EN
variable {l : Launch} {s0 : State} {b L : Nat} {xs : Nat → Int32} {D : va_G} {cy : Nat → ClassId} {ad : Nat → Nat}
set_option maxRecDepth 100000 in
theorem law_run (G : GG l s0 b L xs D cy ad) {r : Int32 × Mm} (hr : f_L_law_20 xs L mLw = some r) : Run l s0 D cy ad 77 KLAW 0 [.ref 100000, .null, .null, .null, .null, .null, .null, .null] [] m0 (.inl (some (.int r.1))) r.2 := by
  refine r_newO (a := 0) (C := "FieldStones") (w := 16) G rfl call_9 rfl (tin1 (List.mem_of_getElem? (i := 27) rfl)) (by decide +kernel) (by decide +kernel) (by decide +kernel) ?_
  refine r_dup rfl (by decide +kernel) ?_
  refine r_ctorP G (CI_X9_0 G) (by decide) mX9_init ml_RL_97 (by decide +kernel) (by decide +kernel) ?_
  refine r_astore_n (n := 1) (lo2 := [_, _, _, _, _, _, _, _]) (by decide +kernel) (Nat.le_of_ble_eq_true rfl) rfl ?_
  refine r_newO (a := 76) (C := "FieldStonesModel") (w := 43) G (by decide +kernel) call_10 rfl (tin6 (List.mem_of_getElem? (i := 235) rfl)) (by decide +kernel) (by decide +kernel) (by decide +kernel) ?_
  refine r_dup rfl (by decide +kernel) ?_
  refine r_ctorP G (CI_X10_76 G) (by decide) mX10_init ml_RL_100 (by decide +kernel) (by decide +kernel) ?_
  refine r_astore_n (n := 2) (lo2 := [_, _, _, _, _, _, _, _]) (by decide +kernel) (Nat.le_of_ble_eq_true rfl) rfl ?_
  refine r_iconst (n := 1) (v := 1) rfl (by decide +kernel) ?_
  refine r_newA (at9 := .long) (a := 275) (N := 1) (k := 13) G (by decide +kernel) rfl (by decide) (tin1 (List.mem_of_getElem? (i := 152) rfl)) (by decide +kernel) (by decide +kernel) (Nat.le_of_ble_eq_true rfl) (by decide +kernel) (by decide +kernel) (by decide +kernel) ?_
  refine r_astore_n (n := 3) (lo2 := [_, _, _, _, _, _, _, _]) (by decide +kernel) (Nat.le_of_ble_eq_true rfl) rfl ?_
  exact (B_L_law_20 (P := fun a => 0 ≤ a ∧ a < 276) G (by decide) (by decide) (by decide) hr lay_mLw).1
end EN
