/-! calls of static methods with a handler table -/
def mW (K : MI) (n : Nat) : Prop := (Cond.codeWith K.1 K.2.1 K.2.2.1 K.2.2.2.1 K.2.2.2.2 ∈ lw_tbl ∧ Cond.initialized K.1.cls ∈ lw_tbl ∧ (K.1.cls ≠ "java/lang/invoke/MethodHandle" ∧ K.1.cls ≠ "java/lang/invoke/VarHandle") ∧ (parseMethodDescriptor K.1.desc).map (fun q => q.parameters.length) = some n ∧ K.2.2.1 ≤ 60) ∧ Cond.static K.1 ∈ lw_tbl
section NW
variable {l : Launch} {s0 : State} {b L : Nat} {xs : Nat → Int32} {D : va_G} {cy : Nat → ClassId} {ad : Nat → Nat} {d : Nat} {I : MI} {pc : Nat} {lo st : List Value} {M M' : Mm} {res : Rs}
theorem v_SW (G : GG l s0 b L xs D cy ad) {y : MethodName} {cc : ByteArray} {maxL : Nat} {ret : Option FieldType} {h9 : Nat × Nat × Nat × Nat} {hh : List (Nat × Nat × Nat × Nat)} {d' n idx : Nat} {as : List Value} {r1 : Rs} {M1 : Mm} (hc : Cal l s0 D cy ad d' (y, cc, maxL, ret, h9 :: hh) as M r1 M1) (hd' : d' < d) (hK : mW (y, cc, maxL, ret, h9 :: hh) n) (hL : mL I.1.cls idx (y, cc, maxL, ret, h9 :: hh)) (ha : as.length = n) (hw8 : (st.map (fun v => v.category)).sum ≤ 8) (hd : decode I.2.1 pc = .ok (.invokestatic idx, 3)) : VxR l s0 D cy ad d I pc (as.reverse ++ st) st M r1 M1 := by
  obtain ⟨hm, hM⟩ := hc
  refine ⟨hm, ?_⟩
  intro p e R s m args below meth c0 H locs ls k0 z0 F hW hl hS hR h1 h2
  refine ⟨(as.map (gv ad)).toArray, ?_⟩
  intro T hT X
  have hup : zX M = 0 → H.size ≤ s0.heap.size + zC M := fun hz => by have := X.heapSize; rw [hT] at this; have := h1.2 hz; omega
  have hWa := F.2.2.2.2.2.2.2.1
  obtain ⟨⟨k2, k3, k4, k5, k6⟩, k7⟩ := hK
  dsimp only at k2 k3 k4 k5 k6 k7
  have hB := pcB (as := as.map (gv ad)) (k0 := k0) G hW hWa F.2.2.2.2.2.2.2.2.1 F.2.2.2.2.2.2.2.2.2.1 hS hup
  have hM' : vx_Met l y [Cond.codeWith y cc maxL ret (h9 :: hh)] (rmK d' (zC M1 - zC M) (zS M1 - zS M)) (va_Pc (as.map (gv ad)) (fun U => Wc s0 D cy ad U M)) (QC s0 D cy ad r1 M1) (XC s0 D cy ad r1 M1) (zC M1 - zC M) (zS M1 - zS M) (AF s0) := hM
  have hS' : CallFix p m c0 I.2.1 I.2.2.1 s args [] I.1.cls := ⟨F.1, F.2.1, F.2.2.1, F.2.2.2.2.1, fun w h => nomatch h⟩
  have hfr : (rmK d' (zC M1 - zC M) (zS M1 - zS M)).frames + 1 ≤ R.frames := by show d' + 1 ≤ R.frames; omega
  have hlo : 8 + (maxL + 11) + (rmK d' (zC M1 - zC M) (zS M1 - zS M)).locals ≤ R.locals := by show 8 + (maxL + 11) + (100 * d' + 100) ≤ R.locals; omega
  have hws : ∀ w ∈ [Cond.codeWith y cc maxL ret (h9 :: hh)], ∀ (a' : Array Value) (U : State), s.WarmedH U.vm → w.before a' U = true := by
    intro w hw a' U hWU
    rw [List.mem_singleton] at hw
    subst hw
    exact gwf G (State.WarmedH.trans hWa hWU) k2 rfl a'
  have hlen : ∀ sig, parseMethodDescriptor y.desc = some sig → n = sig.parameters.length := by
    intro sig h
    rw [h] at k5
    exact (Option.some.inj k5).symm
  have hcb : vx_CSW R s args I.1.cls idx y cc maxL ret (h9 :: hh) [Cond.codeWith y cc maxL ret (h9 :: hh)] (rmK d' (zC M1 - zC M) (zS M1 - zS M)) (zC M1 - zC M) (zS M1 - zS M) n :=
    ⟨⟨rfl, rfl, hfr, hlo, hws, List.mem_cons_self⟩, gwf G hWa k2 rfl args, gwm G hWa k3 w_ini args, k4, hlen, gwm G hWa hL w_link args, gwm G hWa k7 w_stat args⟩
  have hlm : (as.map (gv ad)).length = n := by rw [List.length_map]; exact ha
  have hstk : (F0 m pc ls ((as.reverse ++ st).map (gv ad))).stack = (as.map (gv ad)).reverse ++ st.map (gv ad) := by
    show (as.reverse ++ st).map (gv ad) = _
    rw [List.map_append, List.map_reverse]
  have hw9 : 2 * (F0 m pc ls ((as.reverse ++ st).map (gv ad))).monitorRoom + ((st.map (gv ad)).map (fun v => v.category)).sum ≤ 8 := by
    refine lv_room ?_
    rw [List.map_map]
    have : ((fun v : Value => v.category) ∘ gv ad) = fun v => v.category := by funext v; exact gv_cat v
    rw [this]; exact hw8
  exact vx_runSX hS' hM' hcb hB rfl hlm hl hstk hw9 hd ⟨by omega, by omega⟩ T hT X
theorem r_catchW (G : GG l s0 b L xs D cy ad) {stk : List Value} {E nm : String} {M1 : Mm} {lo2 : List Value} {n : Nat} (hv : VxR l s0 D cy ad d I pc stk st M (.inr E) M1) (pre : List ExceptionTableEntry) (x : ExceptionTableEntry) (suf : List ExceptionTableEntry) (hsp : tableOf I.2.2.2.2 = pre ++ x :: suf)
    (hpass : ∀ z ∈ pre, z.catchType ≠ 0 ∧ ∃ n2 : String, Cond.classLink I.1.cls z.catchType n2 ∈ lw_tbl ∧ Cond.not (.castable E n2) ∈ ncT) (hx : covers x pc = true) (h0 : x.catchType ≠ 0) (hlink : Cond.classLink I.1.cls x.catchType nm ∈ lw_tbl) (hcast : Cond.castable E nm ∈ lw_tbl)
    (hd9 : decode I.2.1 x.handlerPc = .ok (.astore n, 2)) (hi : n < lo.length) (h2' : st1 lo n .null = lo2) (k9 : Run l s0 D cy ad d I (x.handlerPc + 2) lo2 [] M1 res M') : Run l s0 D cy ad d I pc lo stk M res M' := by
  obtain ⟨hm1, hv⟩ := hv
  have hlen : lo2.length = lo.length := by rw [← h2', st1_len]
  obtain ⟨hm, k9⟩ := k9
  refine ⟨⟨Nat.le_trans hm1.1 hm.1, Nat.le_trans hm1.2.1 hm.2.1, fun h => hm1.2.2 (hm.2.2 h)⟩, ?_⟩
  intro p e R s m args below meth c0 H locs ls k0 z0 Q F hW hl hn hS hR h1 h2 kr kx T hT X
  have hWa := F.2.2.2.2.2.2.2.1
  obtain ⟨a, hr⟩ := hv (p := p) (e := e) (R := R) (s := s) (m := m) (args := args) (below := below) (meth := meth) (c := c0) (H := H) (locs := locs) (ls := ls) (k0 := k0) (z0 := z0) F hW (hl.1.trans hn) hS ⟨hR.1, hR.2.1, by omega, by omega⟩ h1 h2
  rcases hr T hT X with ⟨v', st₀, t, T', L', h0', X', hL, e1, e2, ⟨⟨w, q1, q2, q3, q4⟩, stp⟩⟩ | ⟨q, st₀, t, T', L', E', ce, h0', X', hL, e1, e2, ⟨q1, q2, q3⟩, hce, hcv, hcl, stp⟩
  · cases q1
  · cases q1
    obtain ⟨g1, g2, g3⟩ := vx_keep (A1 := AF s0) (free := AF s0) h0' e1 hS (fun _ _ h => h) (fun _ h => h) hL q3
    have K : vx_W p l e R s m args below meth c0 T'.heap (locs ++ L') (zC M1 - k0) (zS M1 - z0) Q (F0 m pc ls (st.map (gv ad))) q := by
      refine vx_catch F.2.2.2.2.1 pre x suf (F.2.2.2.2.2.2.1.trans hsp) (fun z hz => ?_) hx h0 (gwm G hWa hlink rfl args) (gwf G hWa hcast rfl args) (by rw [e1]; exact hce) hcv hcl ?_
      · obtain ⟨r1, n2, r2, r3⟩ := hpass z hz
        have hnc := G.2.2.2.2.2.2.2.2.2.2.2.2.2 _ _ r3
        obtain ⟨c8, t8, f1, f2, f3⟩ := hnc
        exact Or.inr ⟨r1, n2, gwm G hWa r2 rfl args, c8, t8, by rw [hWa.alike.findClass]; exact f1, by rw [hWa.alike.findClass]; exact f2, by rw [← f3]; exact hWa.alike.assignable _ _⟩
      · refine lv_astore F.1 F.2.1 hd9 hl.has hi rfl (fun ls' hl' => ?_)
        exact k9 F (by rw [e1]; exact q2) (by rw [← h2']; exact lr_st0 hi hl') (by rw [hlen]; exact hn) g3 hR ⟨by omega, fun hz => h1.2 (hm1.2.2 hz)⟩ (by omega) kr kx
    rw [show zC M - k0 + (zC M1 - zC M) = zC M1 - k0 by omega, show zS M - z0 + (zS M1 - zS M) = zS M1 - z0 by omega] at X'
    obtain ⟨t2, a1, b1⟩ := K T' rfl X'
    exact ⟨t2, stp.trans a1, b1⟩variable {P : Nat → Prop}
theorem n_callVc1 (G : GG l s0 b L xs D cy ad) {y : MethodName} {cc : ByteArray} {maxL : Nat} {ret : Option FieldType} {d' m9 idx : Nat} {a c : Nat} {E nm : String} {lo2 : List Value} {n : Fin 4} (as : List Value) {stk : List Value} {M1 : Mm} (hc : Cl l s0 D cy ad P d' (y, cc, maxL, ret, []) (.ref a :: as) M (.inr E) M1) (hd' : d' < d) (hK : mV (y, cc, maxL, ret, []) m9 c) (hl0 : mL I.1.cls idx (y, cc, maxL, ret, [])) (hra : P a) (hrs : SH a = c) (ha : as.length = m9) (hstk : as.reverse ++ .ref a :: st = stk) (hw8 : (st.map (fun v => v.category)).sum ≤ 8) (hd : decode I.2.1 pc = .ok (.invokevirtual idx, 3))
    (pre : List ExceptionTableEntry) (x : ExceptionTableEntry) (suf : List ExceptionTableEntry) (hsp : tableOf I.2.2.2.2 = pre ++ x :: suf) (hpass : ∀ z ∈ pre, z.catchType ≠ 0 ∧ ∃ n2 : String, Cond.classLink I.1.cls z.catchType n2 ∈ lw_tbl ∧ Cond.not (.castable E n2) ∈ ncT) (hx : covers x pc = true) (h0 : x.catchType ≠ 0) (hlink : Cond.classLink I.1.cls x.catchType nm ∈ lw_tbl) (hcast : Cond.castable E nm ∈ lw_tbl)
    (hd9 : decode I.2.1 x.handlerPc = .ok (.astore_n n, 1)) (hi : (n : Nat) < lo.length) (h2' : st1 lo n .null = lo2) (k9 : Rn l s0 D cy ad P d I (x.handlerPc + 1) lo2 [] M1 res M') : Rn l s0 D cy ad P d I pc lo stk M res M' := by
  intro hL
  subst hstk
  have h1 := hc hL
  exact ⟨r_catch G (v_V G h1.1 hd' hK hl0 (hL.1 a hra).1 ((hL.1 a hra).2.1.trans hrs) ha hw8 hd) pre x suf hsp hpass hx h0 hlink hcast hd9 hi h2' (k9 h1.2).1, (k9 h1.2).2⟩
theorem n_callVc2 (G : GG l s0 b L xs D cy ad) {y : MethodName} {cc : ByteArray} {maxL : Nat} {ret : Option FieldType} {d' m9 idx : Nat} {a c : Nat} {E nm : String} {lo2 : List Value} {n : Nat} (as : List Value) {stk : List Value} {M1 : Mm} (hc : Cl l s0 D cy ad P d' (y, cc, maxL, ret, []) (.ref a :: as) M (.inr E) M1) (hd' : d' < d) (hK : mV (y, cc, maxL, ret, []) m9 c) (hl0 : mL I.1.cls idx (y, cc, maxL, ret, [])) (hra : P a) (hrs : SH a = c) (ha : as.length = m9) (hstk : as.reverse ++ .ref a :: st = stk) (hw8 : (st.map (fun v => v.category)).sum ≤ 8) (hd : decode I.2.1 pc = .ok (.invokevirtual idx, 3))
    (pre : List ExceptionTableEntry) (x : ExceptionTableEntry) (suf : List ExceptionTableEntry) (hsp : tableOf I.2.2.2.2 = pre ++ x :: suf) (hpass : ∀ z ∈ pre, z.catchType ≠ 0 ∧ ∃ n2 : String, Cond.classLink I.1.cls z.catchType n2 ∈ lw_tbl ∧ Cond.not (.castable E n2) ∈ ncT) (hx : covers x pc = true) (h0 : x.catchType ≠ 0) (hlink : Cond.classLink I.1.cls x.catchType nm ∈ lw_tbl) (hcast : Cond.castable E nm ∈ lw_tbl)
    (hd9 : decode I.2.1 x.handlerPc = .ok (.astore n, 2)) (hi : (n : Nat) < lo.length) (h2' : st1 lo n .null = lo2) (k9 : Rn l s0 D cy ad P d I (x.handlerPc + 2) lo2 [] M1 res M') : Rn l s0 D cy ad P d I pc lo stk M res M' := by
  intro hL
  subst hstk
  have h1 := hc hL
  exact ⟨r_catchW G (v_V G h1.1 hd' hK hl0 (hL.1 a hra).1 ((hL.1 a hra).2.1.trans hrs) ha hw8 hd) pre x suf hsp hpass hx h0 hlink hcast hd9 hi h2' (k9 h1.2).1, (k9 h1.2).2⟩
theorem cl_ofW {as : List Value} {y : MethodName} {cc : ByteArray} {maxL : Nat} {ret : Option FieldType} {h9 : Nat × Nat × Nat × Nat} {hh : List (Nat × Nat × Nat × Nat)} (hpl : plainName y.cls = true) (hd : noD as = true) (hn : Nat.ble (entL as).length maxL = true) (hok : rOK ret res) {lo0 : List Value} (hlo : entLo as maxL = lo0) (hr : Rn l s0 D cy ad P d (y, cc, maxL, ret, h9 :: hh) 0 lo0 [] M res M') : Cl l s0 D cy ad P d (y, cc, maxL, ret, h9 :: hh) as M res M' := by
  intro hL
  subst hlo
  exact ⟨cal_ofW hpl (noD_in as hd) (Nat.le_of_ble_eq_true hn) hok (hr hL).1, (hr hL).2⟩
theorem n_callSWi (G : GG l s0 b L xs D cy ad) {y : MethodName} {cc : ByteArray} {maxL : Nat} {ret : Option FieldType} {h9 : Nat × Nat × Nat × Nat} {hh : List (Nat × Nat × Nat × Nat)} {d' n idx : Nat} {x : Int32} (as : List Value) {stk : List Value} {M1 : Mm} (hc : Cl l s0 D cy ad P d' (y, cc, maxL, ret, h9 :: hh) as M (.inl (some (.int x))) M1) (hd' : d' < d) (hK : mW (y, cc, maxL, ret, h9 :: hh) n) (hl0 : mL I.1.cls idx (y, cc, maxL, ret, h9 :: hh)) (ha : as.length = n) (hstk : as.reverse ++ st = stk) (hw8 : (st.map (fun v => v.category)).sum ≤ 8) (hd : decode I.2.1 pc = .ok (.invokestatic idx, 3)) (k9 : Rn l s0 D cy ad P d I (pc + 3) lo (.int x :: st) M1 res M') : Rn l s0 D cy ad P d I pc lo stk M res M' := by
  intro hL
  subst hstk
  have h1 := hc hL
  exact ⟨r_ret_of (v_SW G h1.1 hd' hK hl0 ha hw8 hd) (k9 h1.2).1, (k9 h1.2).2⟩
end NW
