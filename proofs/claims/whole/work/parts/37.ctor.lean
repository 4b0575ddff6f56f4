/-! printed: the constructors of the leaves -/
def St (a c B : Nat) (M : Mm) : Prop := a < zN M ∧ sh M a = c ∧ zX M = 0 ∧ zN M < B
theorem St_sN {a c B : Nat} {M : Mm} {k n w : Nat} (h : St a c B M) : St a c (B + 1) (sN M k n w) := ⟨Nat.lt_succ_of_lt h.1, (u1_ne (Nat.ne_of_lt h.1)).trans h.2.1, h.2.2.1, Nat.succ_lt_succ h.2.2.2⟩
theorem St_sR {a c B : Nat} {M : Mm} {x k : Nat} {v : Option Nat} (h : St a c B M) : St a c B (sR M x k v) := h
theorem St_sI {a c B : Nat} {M : Mm} {x k : Nat} {v : Int32} (h : St a c B M) : St a c B (sI M x k v) := h
theorem call_0 : cAll 0 := ⟨RX0, TX0, 6, tyX0, rfl, cf0, by decide, by decide, (show ∀ j, j < 6 → _ from by
  intro j hj
  have h9 : j = 0 ∨ j = 1 ∨ j = 2 ∨ j = 3 ∨ j = 4 ∨ j = 5 := by omega
  rcases h9 with rfl | rfl | rfl | rfl | rfl | rfl <;> exact ⟨_, rfl, rfl⟩), (tin1 (List.mem_of_getElem? (i := 128) rfl)), (tin1 (List.mem_of_getElem? (i := 5) rfl))⟩
theorem call_1 : cAll 1 := ⟨RX1, TX1, 4, tyX1, rfl, cf1, by decide, by decide, (show ∀ j, j < 4 → _ from by
  intro j hj
  have h9 : j = 0 ∨ j = 1 ∨ j = 2 ∨ j = 3 := by omega
  rcases h9 with rfl | rfl | rfl | rfl <;> exact ⟨_, rfl, rfl⟩), (tin2 (List.mem_of_getElem? (i := 99) rfl)), (tin1 (List.mem_of_getElem? (i := 11) rfl))⟩
theorem call_2 : cAll 2 := ⟨RX2, TX2, 3, tyX2, rfl, cf2, by decide, by decide, (show ∀ j, j < 3 → _ from by
  intro j hj
  have h9 : j = 0 ∨ j = 1 ∨ j = 2 := by omega
  rcases h9 with rfl | rfl | rfl <;> exact ⟨_, rfl, rfl⟩), (tin1 (List.mem_of_getElem? (i := 154) rfl)), (tin1 (List.mem_of_getElem? (i := 6) rfl))⟩
theorem call_3 : cAll 3 := ⟨RX3, TX3, 12, tyX3, rfl, cf3, by decide, by decide, (show ∀ j, j < 12 → _ from by
  intro j hj
  have h9 : j = 0 ∨ j = 1 ∨ j = 2 ∨ j = 3 ∨ j = 4 ∨ j = 5 ∨ j = 6 ∨ j = 7 ∨ j = 8 ∨ j = 9 ∨ j = 10 ∨ j = 11 := by omega
  rcases h9 with rfl | rfl | rfl | rfl | rfl | rfl | rfl | rfl | rfl | rfl | rfl | rfl <;> exact ⟨_, rfl, rfl⟩), (tin1 (List.mem_of_getElem? (i := 238) rfl)), (tin1 (List.mem_of_getElem? (i := 8) rfl))⟩
theorem call_4 : cAll 4 := ⟨RX4, TX4, 4, tyX4, rfl, cf4, by decide, by decide, (show ∀ j, j < 4 → _ from by
  intro j hj
  have h9 : j = 0 ∨ j = 1 ∨ j = 2 ∨ j = 3 := by omega
  rcases h9 with rfl | rfl | rfl | rfl <;> exact ⟨_, rfl, rfl⟩), (tin2 (List.mem_of_getElem? (i := 4) rfl)), (tin1 (List.mem_of_getElem? (i := 9) rfl))⟩
theorem call_5 : cAll 5 := ⟨RX5, TX5, 5, tyX5, rfl, cf5, by decide, by decide, (show ∀ j, j < 5 → _ from by
  intro j hj
  have h9 : j = 0 ∨ j = 1 ∨ j = 2 ∨ j = 3 ∨ j = 4 := by omega
  rcases h9 with rfl | rfl | rfl | rfl | rfl <;> exact ⟨_, rfl, rfl⟩), (tin1 (List.mem_of_getElem? (i := 104) rfl)), (tin1 (List.mem_of_getElem? (i := 4) rfl))⟩
theorem call_6 : cAll 6 := ⟨RX6, TX6, 7, tyX6, rfl, cf6, by decide, by decide, (show ∀ j, j < 7 → _ from by
  intro j hj
  have h9 : j = 0 ∨ j = 1 ∨ j = 2 ∨ j = 3 ∨ j = 4 ∨ j = 5 ∨ j = 6 := by omega
  rcases h9 with rfl | rfl | rfl | rfl | rfl | rfl | rfl <;> exact ⟨_, rfl, rfl⟩), (tin1 (List.mem_of_getElem? (i := 73) rfl)), (tin1 (List.mem_of_getElem? (i := 3) rfl))⟩
theorem call_7 : cAll 7 := ⟨RX7, TX7, 7, tyX7, rfl, cf7, by decide, by decide, (show ∀ j, j < 7 → _ from by
  intro j hj
  have h9 : j = 0 ∨ j = 1 ∨ j = 2 ∨ j = 3 ∨ j = 4 ∨ j = 5 ∨ j = 6 := by omega
  rcases h9 with rfl | rfl | rfl | rfl | rfl | rfl | rfl <;> exact ⟨_, rfl, rfl⟩), (tin1 (List.mem_of_getElem? (i := 36) rfl)), (tin1 (List.mem_of_getElem? (i := 2) rfl))⟩
theorem call_8 : cAll 8 := ⟨RX8, TX8, 16, tyX8, rfl, cf8, by decide, by decide, (show ∀ j, j < 16 → _ from by
  intro j hj
  have h9 : j = 0 ∨ j = 1 ∨ j = 2 ∨ j = 3 ∨ j = 4 ∨ j = 5 ∨ j = 6 ∨ j = 7 ∨ j = 8 ∨ j = 9 ∨ j = 10 ∨ j = 11 ∨ j = 12 ∨ j = 13 ∨ j = 14 ∨ j = 15 := by omega
  rcases h9 with rfl | rfl | rfl | rfl | rfl | rfl | rfl | rfl | rfl | rfl | rfl | rfl | rfl | rfl | rfl | rfl <;> exact ⟨_, rfl, rfl⟩), (tin1 (List.mem_of_getElem? (i := 160) rfl)), (tin1 (List.mem_of_getElem? (i := 7) rfl))⟩
theorem call_9 : cAll 9 := ⟨RX9, TX9, 16, tyX9, rfl, cf9, by decide, by decide, (show ∀ j, j < 16 → _ from by
  intro j hj
  have h9 : j = 0 ∨ j = 1 ∨ j = 2 ∨ j = 3 ∨ j = 4 ∨ j = 5 ∨ j = 6 ∨ j = 7 ∨ j = 8 ∨ j = 9 ∨ j = 10 ∨ j = 11 ∨ j = 12 ∨ j = 13 ∨ j = 14 ∨ j = 15 := by omega
  rcases h9 with rfl | rfl | rfl | rfl | rfl | rfl | rfl | rfl | rfl | rfl | rfl | rfl | rfl | rfl | rfl | rfl <;> exact ⟨_, rfl, rfl⟩), (tin1 (List.mem_of_getElem? (i := 28) rfl)), (tin1 (List.mem_of_getElem? (i := 1) rfl))⟩
theorem call_10 : cAll 10 := ⟨RX10, TX10, 43, tyX10, rfl, cf10, by decide, by decide, (show ∀ j, j < 43 → _ from by
  intro j hj
  have h9 : j = 0 ∨ j = 1 ∨ j = 2 ∨ j = 3 ∨ j = 4 ∨ j = 5 ∨ j = 6 ∨ j = 7 ∨ j = 8 ∨ j = 9 ∨ j = 10 ∨ j = 11 ∨ j = 12 ∨ j = 13 ∨ j = 14 ∨ j = 15 ∨ j = 16 ∨ j = 17 ∨ j = 18 ∨ j = 19 ∨ j = 20 ∨ j = 21 ∨ j = 22 ∨ j = 23 ∨ j = 24 ∨ j = 25 ∨ j = 26 ∨ j = 27 ∨ j = 28 ∨ j = 29 ∨ j = 30 ∨ j = 31 ∨ j = 32 ∨ j = 33 ∨ j = 34 ∨ j = 35 ∨ j = 36 ∨ j = 37 ∨ j = 38 ∨ j = 39 ∨ j = 40 ∨ j = 41 ∨ j = 42 := by omega
  rcases h9 with rfl | rfl | rfl | rfl | rfl | rfl | rfl | rfl | rfl | rfl | rfl | rfl | rfl | rfl | rfl | rfl | rfl | rfl | rfl | rfl | rfl | rfl | rfl | rfl | rfl | rfl | rfl | rfl | rfl | rfl | rfl | rfl | rfl | rfl | rfl | rfl | rfl | rfl | rfl | rfl | rfl | rfl | rfl <;> exact ⟨_, rfl, rfl⟩), (tin6 (List.mem_of_getElem? (i := 236) rfl)), (tin1 (List.mem_of_getElem? (i := 12) rfl))⟩
section NC
variable {l : Launch} {s0 : State} {b L : Nat} {xs : Nat → Int32} {D : va_G} {cy : Nat → ClassId} {ad : Nat → Nat} {d : Nat} {I : MI} {pc : Nat} {lo st : List Value} {M M' : Mm} {res : Rs}
theorem r_newA (G : GG l s0 b L xs D cy ad) {at9 : ArrayType} {n : Int32} {N k a : Nat} (hz : zN M = a) (hk : atK at9 = k) (hk9 : k ≠ 99) (hL : Cond.arrayClass (newarray.typeOf at9) ∈ lw_tbl) (hn0 : ¬ n < 0) (hN : n.toNatClampNeg = N) (hN9 : N ≤ 60000) (hx0 : zX M = 0) (hn9 : zN M < 99999) (hd : decode I.2.1 pc = .ok (.newarray at9, 2)) (k9 : Run l s0 D cy ad d I (pc + 2) lo (.ref a :: st) (sN M k N N) res M') : Run l s0 D cy ad d I pc lo (.int n :: st) M res M' := by
  subst hz
  exact r_newarr G hk hk9 hL hn0 hN hN9 hx0 hn9 hd k9
theorem r_newO (G : GG l s0 b L xs D cy ad) {idx c w a : Nat} {C : String} (hz : zN M = a) (hc : cAll c) (hC : clX[c]?.map (fun q => (q.1, q.2.2)) = some (C, w)) (hL : Cond.classLink I.1.cls idx C ∈ lw_tbl) (hx0 : zX M = 0) (hn9 : zN M < 99999) (hd : decode I.2.1 pc = .ok (.new idx, 3)) (k : Run l s0 D cy ad d I (pc + 3) lo (.ref a :: st) (sN M c 0 w) res M') : Run l s0 D cy ad d I pc lo st M res M' := by
  subst hz
  exact r_new G hc hC hL hx0 hn9 hd k
theorem r_ctorN (G : GG l s0 b L xs D cy ad) {y : MethodName} {cc : ByteArray} {maxL d' idx a : Nat} {M1 : Mm} (hc : Cal l s0 D cy ad d' (y, cc, maxL, none, []) [.ref a] M (.inl none) M1) (hd' : d' < d) (hK : mC (y, cc, maxL, none, []) 0) (hl0 : mN I.1.cls idx (y, cc, maxL, none, [])) (hw8 : (st.map (fun v => v.category)).sum ≤ 8) (hd : decode I.2.1 pc = .ok (.invokespecial idx, 3)) (k9 : Run l s0 D cy ad d I (pc + 3) lo st M1 res M') : Run l s0 D cy ad d I pc lo (.ref a :: st) M res M' := r_ret_of (v_IN G (as := []) hc hd' hK hl0 rfl hw8 hd) k9
theorem r_ctorP (G : GG l s0 b L xs D cy ad) {y : MethodName} {cc : ByteArray} {maxL d' idx a : Nat} {M1 : Mm} (hc : Cal l s0 D cy ad d' (y, cc, maxL, none, []) [.ref a] M (.inl none) M1) (hd' : d' < d) (hK : mC (y, cc, maxL, none, []) 0) (hl0 : mL I.1.cls idx (y, cc, maxL, none, [])) (hw8 : (st.map (fun v => v.category)).sum ≤ 8) (hd : decode I.2.1 pc = .ok (.invokespecial idx, 3)) (k9 : Run l s0 D cy ad d I (pc + 3) lo st M1 res M') : Run l s0 D cy ad d I pc lo (.ref a :: st) M res M' := r_ret_of (v_I G (as := []) hc hd' hK hl0 rfl hw8 hd) k9
theorem r_callV0 (G : GG l s0 b L xs D cy ad) {y : MethodName} {cc : ByteArray} {maxL d' idx a c : Nat} {M1 : Mm} (hc : Cal l s0 D cy ad d' (y, cc, maxL, none, []) [.ref a] M (.inl none) M1) (hd' : d' < d) (hK : mV (y, cc, maxL, none, []) 0 c) (hl0 : mL I.1.cls idx (y, cc, maxL, none, [])) (hra : a < zN M) (hrs : sh M a = c) (hw8 : (st.map (fun v => v.category)).sum ≤ 8) (hd : decode I.2.1 pc = .ok (.invokevirtual idx, 3)) (k9 : Run l s0 D cy ad d I (pc + 3) lo st M1 res M') : Run l s0 D cy ad d I pc lo (.ref a :: st) M res M' := r_ret_of (v_V G (as := []) hc hd' hK hl0 hra hrs rfl hw8 hd) k9
theorem cal_ofC {y : MethodName} {cc : ByteArray} {a : Nat} (hpl : plainName y.cls = true) {maxL : Nat} (hm : 1 ≤ maxL) {lo0 : List Value} (hlo : entLo [.ref a] maxL = lo0) (hr : Run l s0 D cy ad d (y, cc, maxL, none, []) 0 lo0 [] M (.inl none) M') : Cal l s0 D cy ad d (y, cc, maxL, none, []) [.ref a] M (.inl none) M' := by
  subst hlo
  exact cal_of hpl (noD_in _ rfl) hm rfl hr
def c_X0 (a : Nat) (M : Mm) : Mm := (sR (sN (sR (sN (sR (sN (sR (sN (sR (sN M 13 3 3) a 0 (some (zN M + 0))) 12 8 8) a 1 (some (zN M + 1))) 12 1000 1000) a 2 (some (zN M + 2))) 13 1000 1000) a 3 (some (zN M + 3))) 12 2940 2940) a 4 (some (zN M + 4)))
theorem CI_X0 (G : GG l s0 b L xs D cy ad) {a : Nat} {M : Mm} (h : St a 0 90000 M) : Cal l s0 D cy ad 3 KX0_init [.ref a] M (.inl none) (c_X0 a M) := by
  refine cal_ofC (by decide +kernel) (by decide) (lo0 := [_]) rfl ?_
  refine r_aload_n (n := 0) (by decide +kernel) rfl ?_
  refine r_objinit G ml_RX0_3 oi_ins oi_cod (by decide) (by decide +kernel) (by decide +kernel) ?_
  refine r_aload_n (n := 0) (by decide +kernel) rfl ?_
  refine r_iconst (n := 3) (v := 3) rfl (by decide +kernel) ?_
  refine r_newA (at9 := .long) (a := zN M + 0) (N := 3) (k := 13) G rfl rfl (by decide) (tin1 (List.mem_of_getElem? (i := 152) rfl)) (by decide +kernel) (by decide +kernel) (Nat.le_of_ble_eq_true rfl) h.2.2.1 (Nat.lt_of_lt_of_le h.2.2.2 (Nat.le_of_ble_eq_true rfl)) (by decide +kernel) ?_
  have h1 := St_sN (k := 13) (n := 3) (w := 3) h
  refine r_putR G fl_RX0_9 (fun _ => ⟨rfl, rfl⟩) h1.1 h1.2.1 (by decide +kernel) ?_
  have g1 := St_sR (x := a) (k := 0) (v := some (zN M + 0)) h1
  refine r_aload_n (n := 0) (by decide +kernel) rfl ?_
  refine r_bipush (n := 8) (v := 8) rfl (by decide +kernel) ?_
  refine r_newA (at9 := .int) (a := zN M + 1) (N := 8) (k := 12) G rfl rfl (by decide) (tin1 (List.mem_of_getElem? (i := 102) rfl)) (by decide +kernel) (by decide +kernel) (Nat.le_of_ble_eq_true rfl) g1.2.2.1 (Nat.lt_of_lt_of_le g1.2.2.2 (Nat.le_of_ble_eq_true rfl)) (by decide +kernel) ?_
  have h2 := St_sN (k := 12) (n := 8) (w := 8) g1
  refine r_putR G fl_RX0_15 (fun _ => ⟨rfl, rfl⟩) h2.1 h2.2.1 (by decide +kernel) ?_
  have g2 := St_sR (x := a) (k := 1) (v := some (zN M + 1)) h2
  refine r_aload_n (n := 0) (by decide +kernel) rfl ?_
  refine r_sipush (n := 1000) (v := 1000) rfl (by decide +kernel) ?_
  refine r_newA (at9 := .int) (a := zN M + 2) (N := 1000) (k := 12) G rfl rfl (by decide) (tin1 (List.mem_of_getElem? (i := 102) rfl)) (by decide +kernel) (by decide +kernel) (Nat.le_of_ble_eq_true rfl) g2.2.2.1 (Nat.lt_of_lt_of_le g2.2.2.2 (Nat.le_of_ble_eq_true rfl)) (by decide +kernel) ?_
  have h3 := St_sN (k := 12) (n := 1000) (w := 1000) g2
  refine r_putR G fl_RX0_19 (fun _ => ⟨rfl, rfl⟩) h3.1 h3.2.1 (by decide +kernel) ?_
  have g3 := St_sR (x := a) (k := 2) (v := some (zN M + 2)) h3
  refine r_aload_n (n := 0) (by decide +kernel) rfl ?_
  refine r_sipush (n := 1000) (v := 1000) rfl (by decide +kernel) ?_
  refine r_newA (at9 := .long) (a := zN M + 3) (N := 1000) (k := 13) G rfl rfl (by decide) (tin1 (List.mem_of_getElem? (i := 152) rfl)) (by decide +kernel) (by decide +kernel) (Nat.le_of_ble_eq_true rfl) g3.2.2.1 (Nat.lt_of_lt_of_le g3.2.2.2 (Nat.le_of_ble_eq_true rfl)) (by decide +kernel) ?_
  have h4 := St_sN (k := 13) (n := 1000) (w := 1000) g3
  refine r_putR G fl_RX0_22 (fun _ => ⟨rfl, rfl⟩) h4.1 h4.2.1 (by decide +kernel) ?_
  have g4 := St_sR (x := a) (k := 3) (v := some (zN M + 3)) h4
  refine r_aload_n (n := 0) (by decide +kernel) rfl ?_
  refine r_sipush (n := 2940) (v := 2940) rfl (by decide +kernel) ?_
  refine r_newA (at9 := .int) (a := zN M + 4) (N := 2940) (k := 12) G rfl rfl (by decide) (tin1 (List.mem_of_getElem? (i := 102) rfl)) (by decide +kernel) (by decide +kernel) (Nat.le_of_ble_eq_true rfl) g4.2.2.1 (Nat.lt_of_lt_of_le g4.2.2.2 (Nat.le_of_ble_eq_true rfl)) (by decide +kernel) ?_
  have h5 := St_sN (k := 12) (n := 2940) (w := 2940) g4
  refine r_putR G fl_RX0_25 (fun _ => ⟨rfl, rfl⟩) h5.1 h5.2.1 (by decide +kernel) ?_
  have g5 := St_sR (x := a) (k := 4) (v := some (zN M + 4)) h5
  exact r_return (by decide +kernel)
def c_X1 (a : Nat) (M : Mm) : Mm := (sR (sN (sR (sN (sR (sN M 12 6 6) a 0 (some (zN M + 0))) 12 6 6) a 1 (some (zN M + 1))) 12 6 6) a 2 (some (zN M + 2)))
theorem CI_X1 (G : GG l s0 b L xs D cy ad) {a : Nat} {M : Mm} (h : St a 1 90000 M) : Cal l s0 D cy ad 3 KX1_init [.ref a] M (.inl none) (c_X1 a M) := by
  refine cal_ofC (by decide +kernel) (by decide) (lo0 := [_]) rfl ?_
  refine r_aload_n (n := 0) (by decide +kernel) rfl ?_
  refine r_objinit G ml_RX1_3 oi_ins oi_cod (by decide) (by decide +kernel) (by decide +kernel) ?_
  refine r_aload_n (n := 0) (by decide +kernel) rfl ?_
  refine r_bipush (n := 6) (v := 6) rfl (by decide +kernel) ?_
  refine r_newA (at9 := .int) (a := zN M + 0) (N := 6) (k := 12) G rfl rfl (by decide) (tin1 (List.mem_of_getElem? (i := 102) rfl)) (by decide +kernel) (by decide +kernel) (Nat.le_of_ble_eq_true rfl) h.2.2.1 (Nat.lt_of_lt_of_le h.2.2.2 (Nat.le_of_ble_eq_true rfl)) (by decide +kernel) ?_
  have h1 := St_sN (k := 12) (n := 6) (w := 6) h
  refine r_putR G fl_RX1_11 (fun _ => ⟨rfl, rfl⟩) h1.1 h1.2.1 (by decide +kernel) ?_
  have g1 := St_sR (x := a) (k := 0) (v := some (zN M + 0)) h1
  refine r_aload_n (n := 0) (by decide +kernel) rfl ?_
  refine r_bipush (n := 6) (v := 6) rfl (by decide +kernel) ?_
  refine r_newA (at9 := .int) (a := zN M + 1) (N := 6) (k := 12) G rfl rfl (by decide) (tin1 (List.mem_of_getElem? (i := 102) rfl)) (by decide +kernel) (by decide +kernel) (Nat.le_of_ble_eq_true rfl) g1.2.2.1 (Nat.lt_of_lt_of_le g1.2.2.2 (Nat.le_of_ble_eq_true rfl)) (by decide +kernel) ?_
  have h2 := St_sN (k := 12) (n := 6) (w := 6) g1
  refine r_putR G fl_RX1_15 (fun _ => ⟨rfl, rfl⟩) h2.1 h2.2.1 (by decide +kernel) ?_
  have g2 := St_sR (x := a) (k := 1) (v := some (zN M + 1)) h2
  refine r_aload_n (n := 0) (by decide +kernel) rfl ?_
  refine r_bipush (n := 6) (v := 6) rfl (by decide +kernel) ?_
  refine r_newA (at9 := .int) (a := zN M + 2) (N := 6) (k := 12) G rfl rfl (by decide) (tin1 (List.mem_of_getElem? (i := 102) rfl)) (by decide +kernel) (by decide +kernel) (Nat.le_of_ble_eq_true rfl) g2.2.2.1 (Nat.lt_of_lt_of_le g2.2.2.2 (Nat.le_of_ble_eq_true rfl)) (by decide +kernel) ?_
  have h3 := St_sN (k := 12) (n := 6) (w := 6) g2
  refine r_putR G fl_RX1_18 (fun _ => ⟨rfl, rfl⟩) h3.1 h3.2.1 (by decide +kernel) ?_
  have g3 := St_sR (x := a) (k := 2) (v := some (zN M + 2)) h3
  exact r_return (by decide +kernel)
def c_X4 (a : Nat) (M : Mm) : Mm := (sR (sN (sR (sN (sR (sN M 12 150 150) a 0 (some (zN M + 0))) 12 150 150) a 1 (some (zN M + 1))) 12 7 7) a 2 (some (zN M + 2)))
theorem CI_X4 (G : GG l s0 b L xs D cy ad) {a : Nat} {M : Mm} (h : St a 4 90000 M) : Cal l s0 D cy ad 3 KX4_init [.ref a] M (.inl none) (c_X4 a M) := by
  refine cal_ofC (by decide +kernel) (by decide) (lo0 := [_]) rfl ?_
  refine r_aload_n (n := 0) (by decide +kernel) rfl ?_
  refine r_objinit G ml_RX4_5 oi_ins oi_cod (by decide) (by decide +kernel) (by decide +kernel) ?_
  refine r_aload_n (n := 0) (by decide +kernel) rfl ?_
  refine r_sipush (n := 150) (v := 150) rfl (by decide +kernel) ?_
  refine r_newA (at9 := .int) (a := zN M + 0) (N := 150) (k := 12) G rfl rfl (by decide) (tin1 (List.mem_of_getElem? (i := 102) rfl)) (by decide +kernel) (by decide +kernel) (Nat.le_of_ble_eq_true rfl) h.2.2.1 (Nat.lt_of_lt_of_le h.2.2.2 (Nat.le_of_ble_eq_true rfl)) (by decide +kernel) ?_
  have h1 := St_sN (k := 12) (n := 150) (w := 150) h
  refine r_putR G fl_RX4_11 (fun _ => ⟨rfl, rfl⟩) h1.1 h1.2.1 (by decide +kernel) ?_
  have g1 := St_sR (x := a) (k := 0) (v := some (zN M + 0)) h1
  refine r_aload_n (n := 0) (by decide +kernel) rfl ?_
  refine r_sipush (n := 150) (v := 150) rfl (by decide +kernel) ?_
  refine r_newA (at9 := .int) (a := zN M + 1) (N := 150) (k := 12) G rfl rfl (by decide) (tin1 (List.mem_of_getElem? (i := 102) rfl)) (by decide +kernel) (by decide +kernel) (Nat.le_of_ble_eq_true rfl) g1.2.2.1 (Nat.lt_of_lt_of_le g1.2.2.2 (Nat.le_of_ble_eq_true rfl)) (by decide +kernel) ?_
  have h2 := St_sN (k := 12) (n := 150) (w := 150) g1
  refine r_putR G fl_RX4_15 (fun _ => ⟨rfl, rfl⟩) h2.1 h2.2.1 (by decide +kernel) ?_
  have g2 := St_sR (x := a) (k := 1) (v := some (zN M + 1)) h2
  refine r_aload_n (n := 0) (by decide +kernel) rfl ?_
  refine r_bipush (n := 7) (v := 7) rfl (by decide +kernel) ?_
  refine r_newA (at9 := .int) (a := zN M + 2) (N := 7) (k := 12) G rfl rfl (by decide) (tin1 (List.mem_of_getElem? (i := 102) rfl)) (by decide +kernel) (by decide +kernel) (Nat.le_of_ble_eq_true rfl) g2.2.2.1 (Nat.lt_of_lt_of_le g2.2.2.2 (Nat.le_of_ble_eq_true rfl)) (by decide +kernel) ?_
  have h3 := St_sN (k := 12) (n := 7) (w := 7) g2
  refine r_putR G fl_RX4_18 (fun _ => ⟨rfl, rfl⟩) h3.1 h3.2.1 (by decide +kernel) ?_
  have g3 := St_sR (x := a) (k := 2) (v := some (zN M + 2)) h3
  exact r_return (by decide +kernel)
def c_X5 (a : Nat) (M : Mm) : Mm := (sR (sN (sR (sN (sR (sN M 12 7860 7860) a 0 (some (zN M + 0))) 12 24759 24759) a 1 (some (zN M + 1))) 12 3 3) a 2 (some (zN M + 2)))
theorem CI_X5 (G : GG l s0 b L xs D cy ad) {a : Nat} {M : Mm} (h : St a 5 90000 M) : Cal l s0 D cy ad 3 KX5_init [.ref a] M (.inl none) (c_X5 a M) := by
  refine cal_ofC (by decide +kernel) (by decide) (lo0 := [_]) rfl ?_
  refine r_aload_n (n := 0) (by decide +kernel) rfl ?_
  refine r_objinit G ml_RX5_5 oi_ins oi_cod (by decide) (by decide +kernel) (by decide +kernel) ?_
  refine r_aload_n (n := 0) (by decide +kernel) rfl ?_
  refine r_sipush (n := 7860) (v := 7860) rfl (by decide +kernel) ?_
  refine r_newA (at9 := .int) (a := zN M + 0) (N := 7860) (k := 12) G rfl rfl (by decide) (tin1 (List.mem_of_getElem? (i := 102) rfl)) (by decide +kernel) (by decide +kernel) (Nat.le_of_ble_eq_true rfl) h.2.2.1 (Nat.lt_of_lt_of_le h.2.2.2 (Nat.le_of_ble_eq_true rfl)) (by decide +kernel) ?_
  have h1 := St_sN (k := 12) (n := 7860) (w := 7860) h
  refine r_putR G fl_RX5_11 (fun _ => ⟨rfl, rfl⟩) h1.1 h1.2.1 (by decide +kernel) ?_
  have g1 := St_sR (x := a) (k := 0) (v := some (zN M + 0)) h1
  refine r_aload_n (n := 0) (by decide +kernel) rfl ?_
  refine r_sipush (n := 24759) (v := 24759) rfl (by decide +kernel) ?_
  refine r_newA (at9 := .int) (a := zN M + 1) (N := 24759) (k := 12) G rfl rfl (by decide) (tin1 (List.mem_of_getElem? (i := 102) rfl)) (by decide +kernel) (by decide +kernel) (Nat.le_of_ble_eq_true rfl) g1.2.2.1 (Nat.lt_of_lt_of_le g1.2.2.2 (Nat.le_of_ble_eq_true rfl)) (by decide +kernel) ?_
  have h2 := St_sN (k := 12) (n := 24759) (w := 24759) g1
  refine r_putR G fl_RX5_15 (fun _ => ⟨rfl, rfl⟩) h2.1 h2.2.1 (by decide +kernel) ?_
  have g2 := St_sR (x := a) (k := 1) (v := some (zN M + 1)) h2
  refine r_aload_n (n := 0) (by decide +kernel) rfl ?_
  refine r_iconst (n := 3) (v := 3) rfl (by decide +kernel) ?_
  refine r_newA (at9 := .int) (a := zN M + 2) (N := 3) (k := 12) G rfl rfl (by decide) (tin1 (List.mem_of_getElem? (i := 102) rfl)) (by decide +kernel) (by decide +kernel) (Nat.le_of_ble_eq_true rfl) g2.2.2.1 (Nat.lt_of_lt_of_le g2.2.2.2 (Nat.le_of_ble_eq_true rfl)) (by decide +kernel) ?_
  have h3 := St_sN (k := 12) (n := 3) (w := 3) g2
  refine r_putR G fl_RX5_18 (fun _ => ⟨rfl, rfl⟩) h3.1 h3.2.1 (by decide +kernel) ?_
  have g3 := St_sR (x := a) (k := 2) (v := some (zN M + 2)) h3
  exact r_return (by decide +kernel)
def c_X6 (a : Nat) (M : Mm) : Mm := (sR (sN (sR (sN (sR (sN (sR (sN M 12 200 200) a 0 (some (zN M + 0))) 12 200 200) a 1 (some (zN M + 1))) 12 200 200) a 2 (some (zN M + 2))) 12 200 200) a 3 (some (zN M + 3)))
theorem CI_X6 (G : GG l s0 b L xs D cy ad) {a : Nat} {M : Mm} (h : St a 6 90000 M) : Cal l s0 D cy ad 3 KX6_init [.ref a] M (.inl none) (c_X6 a M) := by
  refine cal_ofC (by decide +kernel) (by decide) (lo0 := [_]) rfl ?_
  refine r_aload_n (n := 0) (by decide +kernel) rfl ?_
  refine r_objinit G ml_RX6_5 oi_ins oi_cod (by decide) (by decide +kernel) (by decide +kernel) ?_
  refine r_aload_n (n := 0) (by decide +kernel) rfl ?_
  refine r_sipush (n := 200) (v := 200) rfl (by decide +kernel) ?_
  refine r_newA (at9 := .int) (a := zN M + 0) (N := 200) (k := 12) G rfl rfl (by decide) (tin1 (List.mem_of_getElem? (i := 102) rfl)) (by decide +kernel) (by decide +kernel) (Nat.le_of_ble_eq_true rfl) h.2.2.1 (Nat.lt_of_lt_of_le h.2.2.2 (Nat.le_of_ble_eq_true rfl)) (by decide +kernel) ?_
  have h1 := St_sN (k := 12) (n := 200) (w := 200) h
  refine r_putR G fl_RX6_11 (fun _ => ⟨rfl, rfl⟩) h1.1 h1.2.1 (by decide +kernel) ?_
  have g1 := St_sR (x := a) (k := 0) (v := some (zN M + 0)) h1
  refine r_aload_n (n := 0) (by decide +kernel) rfl ?_
  refine r_sipush (n := 200) (v := 200) rfl (by decide +kernel) ?_
  refine r_newA (at9 := .int) (a := zN M + 1) (N := 200) (k := 12) G rfl rfl (by decide) (tin1 (List.mem_of_getElem? (i := 102) rfl)) (by decide +kernel) (by decide +kernel) (Nat.le_of_ble_eq_true rfl) g1.2.2.1 (Nat.lt_of_lt_of_le g1.2.2.2 (Nat.le_of_ble_eq_true rfl)) (by decide +kernel) ?_
  have h2 := St_sN (k := 12) (n := 200) (w := 200) g1
  refine r_putR G fl_RX6_15 (fun _ => ⟨rfl, rfl⟩) h2.1 h2.2.1 (by decide +kernel) ?_
  have g2 := St_sR (x := a) (k := 1) (v := some (zN M + 1)) h2
  refine r_aload_n (n := 0) (by decide +kernel) rfl ?_
  refine r_sipush (n := 200) (v := 200) rfl (by decide +kernel) ?_
  refine r_newA (at9 := .int) (a := zN M + 2) (N := 200) (k := 12) G rfl rfl (by decide) (tin1 (List.mem_of_getElem? (i := 102) rfl)) (by decide +kernel) (by decide +kernel) (Nat.le_of_ble_eq_true rfl) g2.2.2.1 (Nat.lt_of_lt_of_le g2.2.2.2 (Nat.le_of_ble_eq_true rfl)) (by decide +kernel) ?_
  have h3 := St_sN (k := 12) (n := 200) (w := 200) g2
  refine r_putR G fl_RX6_18 (fun _ => ⟨rfl, rfl⟩) h3.1 h3.2.1 (by decide +kernel) ?_
  have g3 := St_sR (x := a) (k := 2) (v := some (zN M + 2)) h3
  refine r_aload_n (n := 0) (by decide +kernel) rfl ?_
  refine r_sipush (n := 200) (v := 200) rfl (by decide +kernel) ?_
  refine r_newA (at9 := .int) (a := zN M + 3) (N := 200) (k := 12) G rfl rfl (by decide) (tin1 (List.mem_of_getElem? (i := 102) rfl)) (by decide +kernel) (by decide +kernel) (Nat.le_of_ble_eq_true rfl) g3.2.2.1 (Nat.lt_of_lt_of_le g3.2.2.2 (Nat.le_of_ble_eq_true rfl)) (by decide +kernel) ?_
  have h4 := St_sN (k := 12) (n := 200) (w := 200) g3
  refine r_putR G fl_RX6_21 (fun _ => ⟨rfl, rfl⟩) h4.1 h4.2.1 (by decide +kernel) ?_
  have g4 := St_sR (x := a) (k := 3) (v := some (zN M + 3)) h4
  exact r_return (by decide +kernel)
def c_X7 (a : Nat) (M : Mm) : Mm := (sI (sR (sN M 11 600 600) a 0 (some (zN M + 0))) a 6 (-1))
theorem CI_X7 (G : GG l s0 b L xs D cy ad) {a : Nat} {M : Mm} (h : St a 7 90000 M) : Cal l s0 D cy ad 3 KX7_init [.ref a] M (.inl none) (c_X7 a M) := by
  refine cal_ofC (by decide +kernel) (by decide) (lo0 := [_]) rfl ?_
  refine r_aload_n (n := 0) (by decide +kernel) rfl ?_
  refine r_objinit G ml_RX7_3 oi_ins oi_cod (by decide) (by decide +kernel) (by decide +kernel) ?_
  refine r_aload_n (n := 0) (by decide +kernel) rfl ?_
  refine r_sipush (n := 600) (v := 600) rfl (by decide +kernel) ?_
  refine r_newA (at9 := .byte) (a := zN M + 0) (N := 600) (k := 11) G rfl rfl (by decide) (tin1 (List.mem_of_getElem? (i := 71) rfl)) (by decide +kernel) (by decide +kernel) (Nat.le_of_ble_eq_true rfl) h.2.2.1 (Nat.lt_of_lt_of_le h.2.2.2 (Nat.le_of_ble_eq_true rfl)) (by decide +kernel) ?_
  have h1 := St_sN (k := 11) (n := 600) (w := 600) h
  refine r_putR G fl_RX7_11 (fun _ => ⟨rfl, rfl⟩) h1.1 h1.2.1 (by decide +kernel) ?_
  have g1 := St_sR (x := a) (k := 0) (v := some (zN M + 0)) h1
  refine r_aload_n (n := 0) (by decide +kernel) rfl ?_
  refine r_iconst (n := -1) (v := -1) rfl (by decide +kernel) ?_
  refine r_putI G fl_RX7_15 g1.1 g1.2.1 (by decide +kernel) ?_
  have g2 := St_sI (x := a) (k := 6) (v := (-1)) g1
  exact r_return (by decide +kernel)
def c_X8 (a : Nat) (M : Mm) : Mm := (sR (sN (sR (sN (sR (sN (sR (sN (sR (sN (sR (sN (sR (sN M 12 60 60) a 0 (some (zN M + 0))) 12 60 60) a 1 (some (zN M + 1))) 12 60 60) a 2 (some (zN M + 2))) 12 60 60) a 3 (some (zN M + 3))) 12 48 48) a 4 (some (zN M + 4))) 12 48 48) a 5 (some (zN M + 5))) 12 48 48) a 6 (some (zN M + 6)))
theorem CI_X8 (G : GG l s0 b L xs D cy ad) {a : Nat} {M : Mm} (h : St a 8 90000 M) : Cal l s0 D cy ad 3 KX8_init [.ref a] M (.inl none) (c_X8 a M) := by
  refine cal_ofC (by decide +kernel) (by decide) (lo0 := [_]) rfl ?_
  refine r_aload_n (n := 0) (by decide +kernel) rfl ?_
  refine r_objinit G ml_RX8_3 oi_ins oi_cod (by decide) (by decide +kernel) (by decide +kernel) ?_
  refine r_aload_n (n := 0) (by decide +kernel) rfl ?_
  refine r_bipush (n := 60) (v := 60) rfl (by decide +kernel) ?_
  refine r_newA (at9 := .int) (a := zN M + 0) (N := 60) (k := 12) G rfl rfl (by decide) (tin1 (List.mem_of_getElem? (i := 102) rfl)) (by decide +kernel) (by decide +kernel) (Nat.le_of_ble_eq_true rfl) h.2.2.1 (Nat.lt_of_lt_of_le h.2.2.2 (Nat.le_of_ble_eq_true rfl)) (by decide +kernel) ?_
  have h1 := St_sN (k := 12) (n := 60) (w := 60) h
  refine r_putR G fl_RX8_9 (fun _ => ⟨rfl, rfl⟩) h1.1 h1.2.1 (by decide +kernel) ?_
  have g1 := St_sR (x := a) (k := 0) (v := some (zN M + 0)) h1
  refine r_aload_n (n := 0) (by decide +kernel) rfl ?_
  refine r_bipush (n := 60) (v := 60) rfl (by decide +kernel) ?_
  refine r_newA (at9 := .int) (a := zN M + 1) (N := 60) (k := 12) G rfl rfl (by decide) (tin1 (List.mem_of_getElem? (i := 102) rfl)) (by decide +kernel) (by decide +kernel) (Nat.le_of_ble_eq_true rfl) g1.2.2.1 (Nat.lt_of_lt_of_le g1.2.2.2 (Nat.le_of_ble_eq_true rfl)) (by decide +kernel) ?_
  have h2 := St_sN (k := 12) (n := 60) (w := 60) g1
  refine r_putR G fl_RX8_15 (fun _ => ⟨rfl, rfl⟩) h2.1 h2.2.1 (by decide +kernel) ?_
  have g2 := St_sR (x := a) (k := 1) (v := some (zN M + 1)) h2
  refine r_aload_n (n := 0) (by decide +kernel) rfl ?_
  refine r_bipush (n := 60) (v := 60) rfl (by decide +kernel) ?_
  refine r_newA (at9 := .int) (a := zN M + 2) (N := 60) (k := 12) G rfl rfl (by decide) (tin1 (List.mem_of_getElem? (i := 102) rfl)) (by decide +kernel) (by decide +kernel) (Nat.le_of_ble_eq_true rfl) g2.2.2.1 (Nat.lt_of_lt_of_le g2.2.2.2 (Nat.le_of_ble_eq_true rfl)) (by decide +kernel) ?_
  have h3 := St_sN (k := 12) (n := 60) (w := 60) g2
  refine r_putR G fl_RX8_18 (fun _ => ⟨rfl, rfl⟩) h3.1 h3.2.1 (by decide +kernel) ?_
  have g3 := St_sR (x := a) (k := 2) (v := some (zN M + 2)) h3
  refine r_aload_n (n := 0) (by decide +kernel) rfl ?_
  refine r_bipush (n := 60) (v := 60) rfl (by decide +kernel) ?_
  refine r_newA (at9 := .int) (a := zN M + 3) (N := 60) (k := 12) G rfl rfl (by decide) (tin1 (List.mem_of_getElem? (i := 102) rfl)) (by decide +kernel) (by decide +kernel) (Nat.le_of_ble_eq_true rfl) g3.2.2.1 (Nat.lt_of_lt_of_le g3.2.2.2 (Nat.le_of_ble_eq_true rfl)) (by decide +kernel) ?_
  have h4 := St_sN (k := 12) (n := 60) (w := 60) g3
  refine r_putR G fl_RX8_21 (fun _ => ⟨rfl, rfl⟩) h4.1 h4.2.1 (by decide +kernel) ?_
  have g4 := St_sR (x := a) (k := 3) (v := some (zN M + 3)) h4
  refine r_aload_n (n := 0) (by decide +kernel) rfl ?_
  refine r_bipush (n := 48) (v := 48) rfl (by decide +kernel) ?_
  refine r_newA (at9 := .int) (a := zN M + 4) (N := 48) (k := 12) G rfl rfl (by decide) (tin1 (List.mem_of_getElem? (i := 102) rfl)) (by decide +kernel) (by decide +kernel) (Nat.le_of_ble_eq_true rfl) g4.2.2.1 (Nat.lt_of_lt_of_le g4.2.2.2 (Nat.le_of_ble_eq_true rfl)) (by decide +kernel) ?_
  have h5 := St_sN (k := 12) (n := 48) (w := 48) g4
  refine r_putR G fl_RX8_24 (fun _ => ⟨rfl, rfl⟩) h5.1 h5.2.1 (by decide +kernel) ?_
  have g5 := St_sR (x := a) (k := 4) (v := some (zN M + 4)) h5
  refine r_aload_n (n := 0) (by decide +kernel) rfl ?_
  refine r_bipush (n := 48) (v := 48) rfl (by decide +kernel) ?_
  refine r_newA (at9 := .int) (a := zN M + 5) (N := 48) (k := 12) G rfl rfl (by decide) (tin1 (List.mem_of_getElem? (i := 102) rfl)) (by decide +kernel) (by decide +kernel) (Nat.le_of_ble_eq_true rfl) g5.2.2.1 (Nat.lt_of_lt_of_le g5.2.2.2 (Nat.le_of_ble_eq_true rfl)) (by decide +kernel) ?_
  have h6 := St_sN (k := 12) (n := 48) (w := 48) g5
  refine r_putR G fl_RX8_27 (fun _ => ⟨rfl, rfl⟩) h6.1 h6.2.1 (by decide +kernel) ?_
  have g6 := St_sR (x := a) (k := 5) (v := some (zN M + 5)) h6
  refine r_aload_n (n := 0) (by decide +kernel) rfl ?_
  refine r_bipush (n := 48) (v := 48) rfl (by decide +kernel) ?_
  refine r_newA (at9 := .int) (a := zN M + 6) (N := 48) (k := 12) G rfl rfl (by decide) (tin1 (List.mem_of_getElem? (i := 102) rfl)) (by decide +kernel) (by decide +kernel) (Nat.le_of_ble_eq_true rfl) g6.2.2.1 (Nat.lt_of_lt_of_le g6.2.2.2 (Nat.le_of_ble_eq_true rfl)) (by decide +kernel) ?_
  have h7 := St_sN (k := 12) (n := 48) (w := 48) g6
  refine r_putR G fl_RX8_30 (fun _ => ⟨rfl, rfl⟩) h7.1 h7.2.1 (by decide +kernel) ?_
  have g7 := St_sR (x := a) (k := 6) (v := some (zN M + 6)) h7
  exact r_return (by decide +kernel)
end NC
