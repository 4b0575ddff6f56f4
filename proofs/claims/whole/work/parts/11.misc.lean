/-! rules: throwing and catching, calls of methods with a table, copying of rows, constants, the script, texts -/
def strIn (own : String) (idx i : Nat) : Prop := i < 6 ∧ (strT i).1 = own ∧ (strT i).2.1 = idx
section RM
variable {l : Launch} {s0 : State} {b L : Nat} {xs : Nat → Int32} {D : va_G} {cy : Nat → ClassId} {ad : Nat → Nat} {d : Nat} {I : MI} {pc : Nat} {lo st : List Value} {M M' : Mm} {res : Rs}
theorem gwf {s : State} (G : GG l s0 b L xs D cy ad) (hW : s0.WarmedH s.vm) {w : Cond} (hi : w ∈ lw_tbl) (hk : (w.onTables && w.keepsFace) = true) (args : Array Value) : w.before args s = true := by
  rw [Bool.and_eq_true] at hk
  exact va_tabs hk.1 (rfl : (s0.setVm s.vm).vm = s.vm) (Cond.before_shiftedFace (State.Shifted.of_warmed hW) w hk.2 (G.2.1 w hi))
theorem zq_at {s : State} (hW : s0.WarmedH s.vm) (hq : ∀ q : Nat, q < s0.heap.size → s.heap[q]? = s0.heap[q]?) {C n dd : String} (h : vx_Zq C n dd (AF s0) s0 s0.heap) : vx_Zq C n dd (AF s0) s s.heap := vx_Zq.moved hW.alike (h.kept (fun a ha _ => hq a ha))
theorem r_throw (G : GG l s0 b L xs D cy ad) {ik is ic ci si : Nat} {cls : String} {names : List String} (hcls : Bundle.fit cls = true) (hnames : ∀ n ∈ names, Bundle.fit n = true) (hk : Cond.classLink I.1.cls ik cls ∈ lw_tbl) (hini : Cond.initialized cls ∈ lw_tbl) (hsi : strIn I.1.cls is si)
    (hat : ∀ w ∈ vx_atS I.1.cls ic cls names, w ∈ lw_tbl ∧ (w.onTables && w.keepsFace) = true) (hci : clX[ci]? = some (cls, tX 0, 0)) (hnl : names.length = 2) (hd8 : 8 ≤ d) (hw8 : (st.map (fun v => v.category)).sum ≤ 8)
    (d0 : decode I.2.1 pc = .ok (.new ik, 3)) (d3 : decode I.2.1 (pc + 3) = .ok (.dup, 1)) (d4 : decode I.2.1 (pc + 4) = .ok (.ldc_w is, 3)) (d7 : decode I.2.1 (pc + 7) = .ok (.invokespecial ic, 3)) (d10 : decode I.2.1 (pc + 10) = .ok (.athrow, 1)) (hno : Nocov I.2.2.2.2 (pc + 10)) :
    Run l s0 D cy ad d I pc lo st M (.inr cls) (sX M) := by
  have c1 : zC (sX M) = zC M + 1 := by show zN M + (zX M + 1) = (zN M + zX M) + 1; omega
  have c2 : zS (sX M) = zS M + 6 := rfl
  refine ⟨⟨by omega, by omega, fun h => by exact absurd h (Nat.succ_ne_zero _)⟩, ?_⟩
  intro p e R s m args below meth c0 H locs ls k0 z0 Q F hW hl hn hS hR g1 g2 kr kx
  have hWa := F.2.2.2.2.2.2.2.1
  have hq := F.2.2.2.2.2.2.2.2.1
  have hU := zq_at hWa hq (G.2.2.2.2.2.2.2.2.1 _ _ _ (Or.inl rfl))
  have hN := zq_at hWa hq (G.2.2.2.2.2.2.2.2.1 _ _ _ (Or.inr rfl))
  have hstr : vk_R I.1.cls is (strT si).2.2 (ad (100001 + si)) s := by
    have := vk_R.warm hWa (G.2.2.2.2.2.2.2.2.2.1 si hsi.1)
    rw [hsi.2.1, hsi.2.2] at this
    exact this
  have hgood : ∀ w ∈ Cond.classLink I.1.cls ik cls :: Cond.initialized cls :: vx_atS I.1.cls ic cls names, vx_ot w = true := by
    intro w hw
    rcases List.mem_cons.mp hw with rfl | hw
    · rfl
    · rcases List.mem_cons.mp hw with rfl | hw
      · rfl
      · have := (hat w hw).2
        rw [Bool.and_eq_true] at this
        show (w.onTables || goodWord w) = true
        rw [this.1, Bool.true_or]
  have hw9 : ((st.map (gv ad)).map (fun v => v.category)).sum ≤ 8 := by
    rw [List.map_map]
    have : ((fun v : Value => v.category) ∘ gv ad) = fun v => v.category := by funext v; exact gv_cat v
    rw [this]; exact hw8
  refine vx_makeSW F.1 F.2.1 G.1 F.2.2.2.2.1 hcls hnames (gwm G hWa hk rfl args) (gwm G hWa hini w_ini args) hstr (fun w hw => gwf G hWa (hat w hw).1 (hat w hw).2 args) hgood hU hN hS (by rw [F.2.2.1]; exact hl.1.trans hn) d0 d3 d4 d7 (gK G hWa) hW.2 (gD G hW.1) (fun q hq => Nat.le_trans F.2.2.2.2.2.2.2.2.2.1 hq) hci (by omega) (by omega) (by omega) (by omega) (fun q H1 hP hD hS1 => ?_)
  refine vx_athrow F.1 F.2.1 d10 ?_
  have hPl : va_P D clX (pool cy ad (sX M)) H1 := by
    intro k x hx
    have hx : (pool cy ad M)[k]? = some x := hx
    exact hP k x (by rw [List.getElem?_append_left (List.getElem?_eq_some_iff.mp hx).1]; exact hx)
  obtain ⟨r, h1, cell, q1, q2, q3, -⟩ := hP (pool cy ad M).length (q, .inr (ci, [])) (by rw [List.getElem?_append_right (Nat.le_refl _), Nat.sub_self]; rfl)
  have hcl : s.vm.findClass cls = some cell.cls := by rw [q2]; exact ((gK G hWa).1 ci _ hci).2.1
  have K := kx cls (pc + 10) ls (st.map (gv ad)) H1 locs q cell rfl hno ⟨hW.1, hPl⟩ hS1 q1 q3 hcl
  rw [show zC M - k0 + 1 = zC (sX M) - k0 by omega, show zS M - z0 + 6 = zS (sX M) - z0 by omega]
  exact K
theorem lr_st0 {ls' : Array Slot} {i : Nat} {w : Value} (hi : i < lo.length) (h : lv_has ls' lo.length ((i, w) :: (prs ad lo).filter (fun q => !(q.1 == i) && !(q.1 + 1 == i && q.2.category == 2)))) : LR ad ls' (st1 lo i .null) := by
  refine ⟨by rw [st1_len]; exact h.1, h.2.1, fun j v hj hv => ?_⟩
  rw [st1, List.getElem?_set, kp_len] at hj
  by_cases e : i = j
  · subst e
    rw [if_pos rfl, if_pos hi] at hj
    cases hj
    exact absurd rfl hv
  · rw [if_neg e] at hj
    obtain ⟨g1, g2⟩ := kp_spec hj hv
    refine h.2.2 (j, gv ad v) (List.mem_cons_of_mem _ (List.mem_filter.mpr ⟨prs_mem g1 hv, ?_⟩))
    have e' : ¬ j = i := fun q => e q.symm
    simp only [gv_cat, Bool.and_eq_true, Bool.not_eq_true', beq_eq_false_iff_ne, ne_eq, e', not_false_eq_true, true_and, Bool.and_eq_false_iff]
    by_cases e2 : j + 1 = i
    · exact Or.inr (fun q => g2 ⟨e2, q⟩)
    · exact Or.inl e2
/-- a call throws E; the row (x0, x1, hp, ct) of the table takes it; there it is stored at once in place n -/
theorem r_catch (G : GG l s0 b L xs D cy ad) {stk : List Value} {E nm : String} {M1 : Mm} {lo2 : List Value} {n : Fin 4} (hv : VxR l s0 D cy ad d I pc stk st M (.inr E) M1) (pre : List ExceptionTableEntry) (x : ExceptionTableEntry) (suf : List ExceptionTableEntry) (hsp : tableOf I.2.2.2.2 = pre ++ x :: suf)
    (hpass : ∀ z ∈ pre, z.catchType ≠ 0 ∧ ∃ n2 : String, Cond.classLink I.1.cls z.catchType n2 ∈ lw_tbl ∧ Cond.not (.castable E n2) ∈ ncT) (hx : covers x pc = true) (h0 : x.catchType ≠ 0) (hlink : Cond.classLink I.1.cls x.catchType nm ∈ lw_tbl) (hcast : Cond.castable E nm ∈ lw_tbl)
    (hd9 : decode I.2.1 x.handlerPc = .ok (.astore_n n, 1)) (hi : (n : Nat) < lo.length) (h2' : st1 lo n .null = lo2) (k9 : Run l s0 D cy ad d I (x.handlerPc + 1) lo2 [] M1 res M') : Run l s0 D cy ad d I pc lo stk M res M' := by
  obtain ⟨hm1, hv⟩ := hv
  have hlen : lo2.length = lo.length := by rw [← h2', st1_len]
  obtain ⟨hm, k9⟩ := k9
  refine ⟨⟨Nat.le_trans hm1.1 hm.1, Nat.le_trans hm1.2.1 hm.2.1, fun h => hm1.2.2 (hm.2.2 h)⟩, ?_⟩
  intro p e R s m args below meth c0 H locs ls k0 z0 Q F hW hl hn hS hR h1 h2 kr kx T hT X
  have hWa := F.2.2.2.2.2.2.2.1
  obtain ⟨a, hr⟩ := hv (p := p) (e := e) (R := R) (s := s) (m := m) (args := args) (below := below) (meth := meth) (c := c0) (H := H) (locs := locs) (ls := ls) (k0 := k0) (z0 := z0) F hW (hl.1.trans hn) hS ⟨hR.1, hR.2.1, by omega, by omega⟩ h1 h2
  rcases hr T hT X with ⟨v', st₀, t, T', L', h0', X', hL, e1, e2, ⟨⟨w, q1, q2, q3, q4⟩, stp⟩⟩ | ⟨q, st₀, t, T', L', E', ce, h0', X', hL, e1, e2, ⟨q1, q2, q3⟩, hce, hcv, hcl, stp⟩
  · cases q1
  · cases q1
    obtain ⟨g1, g2, g3⟩ := vx_keep (A1 := AF s0) (free := AF s0) h0' e1 hS (fun _ _ h => h) (fun _ h => h) hL q3
    have K : vx_W p l e R s m args below meth c0 T'.heap (locs ++ L') (zC M1 - k0) (zS M1 - z0) Q (F0 m pc ls (st.map (gv ad))) q := by
      refine vx_catch F.2.2.2.2.1 pre x suf (F.2.2.2.2.2.2.1.trans hsp) (fun z hz => ?_) hx h0 (gwm G hWa hlink rfl args) (gwf G hWa hcast rfl args) (by rw [e1]; exact hce) hcv hcl ?_
      · obtain ⟨r1, n2, r2, r3⟩ := hpass z hz
        have hnc := G.2.2.2.2.2.2.2.2.2.2.2.2.2 _ _ r3
        obtain ⟨c8, t8, f1, f2, f3⟩ := hnc
        exact Or.inr ⟨r1, n2, gwm G hWa r2 rfl args, c8, t8, by rw [hWa.alike.findClass]; exact f1, by rw [hWa.alike.findClass]; exact f2, by rw [← f3]; exact hWa.alike.assignable _ _⟩
      · refine lv_astore_n F.1 F.2.1 hd9 rfl hl.has hi rfl (fun ls' hl' => ?_)
        exact k9 F (by rw [e1]; exact q2) (by rw [← h2']; exact lr_st0 hi hl') (by rw [hlen]; exact hn) g3 hR ⟨by omega, fun hz => h1.2 (hm1.2.2 hz)⟩ (by omega) kr kx
    rw [show zC M - k0 + (zC M1 - zC M) = zC M1 - k0 by omega, show zS M - z0 + (zS M1 - zS M) = zS M1 - z0 by omega] at X'
    obtain ⟨t2, a1, b1⟩ := K T' rfl X'
    exact ⟨t2, stp.trans a1, b1⟩
theorem r_ldc (G : GG l s0 b L xs D cy ad) {idx : Nat} {v : Int32} (hL : Cond.constant I.1.cls idx v ∈ lw_tbl) (hd : decode I.2.1 pc = .ok (.ldc idx, 2)) (k : Run l s0 D cy ad d I (pc + 2) lo (.int v :: st) M res M') : Run l s0 D cy ad d I pc lo (st) M res M' := by
  obtain ⟨hm, k⟩ := k
  refine ⟨hm, ?_⟩
  intro p e R s m args below meth c0 H locs ls k0 z0 Q F hW hl hn hS hR h1 h2 kr kx
  have hWa := F.2.2.2.2.2.2.2.1
  exact lv_ldc F.1 F.2.1 F.2.2.2.2.1 (gwm G hWa hL rfl args) hd (k F hW hl hn hS hR h1 h2 kr kx)
theorem r_ldcw (G : GG l s0 b L xs D cy ad) {idx : Nat} {v : Int32} (hL : Cond.constant I.1.cls idx v ∈ lw_tbl) (hd : decode I.2.1 pc = .ok (.ldc_w idx, 3)) (k : Run l s0 D cy ad d I (pc + 3) lo (.int v :: st) M res M') : Run l s0 D cy ad d I pc lo (st) M res M' := by
  obtain ⟨hm, k⟩ := k
  refine ⟨hm, ?_⟩
  intro p e R s m args below meth c0 H locs ls k0 z0 Q F hW hl hn hS hR h1 h2 kr kx
  have hWa := F.2.2.2.2.2.2.2.1
  exact lv_ldcw F.1 F.2.1 F.2.2.2.2.1 (gwm G hWa hL rfl args) hd (k F hW hl hn hS hR h1 h2 kr kx)
theorem r_ldc2 (G : GG l s0 b L xs D cy ad) {idx : Nat} {v : Int64} (hL : Cond.constantLong I.1.cls idx v ∈ lw_tbl) (hd : decode I.2.1 pc = .ok (.ldc2_w idx, 3)) (k : Run l s0 D cy ad d I (pc + 3) lo (.long v :: st) M res M') : Run l s0 D cy ad d I pc lo (st) M res M' := by
  obtain ⟨hm, k⟩ := k
  refine ⟨hm, ?_⟩
  intro p e R s m args below meth c0 H locs ls k0 z0 Q F hW hl hn hS hR h1 h2 kr kx
  have hWa := F.2.2.2.2.2.2.2.1
  exact lv_ldc2 F.1 F.2.1 F.2.2.2.2.1 (gwm G hWa hL rfl args) hd (k F hW hl hn hS hR h1 h2 kr kx)
theorem sx_at {s : State} {p : Program} {m : MethodId} {meth : Method} {c : Code} (G : GG l s0 b L xs D cy ad) (F : Fx s0 I p s m meth c) : va_X b L xs s s.heap ∧ b < s.heap.size ∧ ¬ AF s0 b := by
  refine ⟨(va_X.moved F.2.2.2.2.2.2.2.1.alike G.2.2.2.2.2.1).kept (F.2.2.2.2.2.2.2.2.1 b G.2.2.2.2.2.2.1), Nat.lt_of_lt_of_le G.2.2.2.2.2.2.1 F.2.2.2.2.2.2.2.2.2.1, Nat.not_le.mpr G.2.2.2.2.2.2.1⟩
theorem sld9 {p : Program} {e : Env} {R : Room} {s : State} {m : MethodId} {args : Array Value} {below : List Frame} {meth : Method} {c : Code} {H : Heap} {locs : List Loc} {ls : Array Slot} {cells slots : Nat} {Q : State → Prop} {rest : List Value} (G : GG l s0 b L xs D cy ad) (F : Fx s0 I p s m meth c) (hS : va_S (AF s0) s.heap H locs) {i : Int32} (hin : vp_in i L) (hd : decode I.2.1 pc = .ok (.iaload, 1))
    (k : W p l e R s m args below meth c H locs cells slots Q (F0 m (pc + 1) ls (.int (xs i.toNatClampNeg) :: rest))) : W p l e R s m args below meth c H locs cells slots Q (F0 m pc ls (.int i :: .ref (ad 100000) :: rest)) := by
  obtain ⟨h1, h2, h3⟩ := sx_at G F
  rw [G.2.2.2.2.1]
  exact va_sld F.1 F.2.1 h1 h2 h3 hS hin hd k
theorem slen9 {p : Program} {e : Env} {R : Room} {s : State} {m : MethodId} {args : Array Value} {below : List Frame} {meth : Method} {c : Code} {H : Heap} {locs : List Loc} {ls : Array Slot} {cells slots : Nat} {Q : State → Prop} {rest : List Value} (G : GG l s0 b L xs D cy ad) (F : Fx s0 I p s m meth c) (hS : va_S (AF s0) s.heap H locs) {v : Int32} (hv : Int32.ofNat L = v) (hd : decode I.2.1 pc = .ok (.arraylength, 1))
    (k : W p l e R s m args below meth c H locs cells slots Q (F0 m (pc + 1) ls (.int v :: rest))) : W p l e R s m args below meth c H locs cells slots Q (F0 m pc ls (.ref (ad 100000) :: rest)) := by
  obtain ⟨h1, h2, h3⟩ := sx_at G F
  rw [G.2.2.2.2.1]
  subst hv
  exact va_slen F.1 F.2.1 h1 h2 h3 hS hd k
theorem r_sld (G : GG l s0 b L xs D cy ad) {i : Int32} (hin : vp_in i L) (hd : decode I.2.1 pc = .ok (.iaload, 1)) (k : Run l s0 D cy ad d I (pc + 1) lo (.int (xs i.toNatClampNeg) :: st) M res M') : Run l s0 D cy ad d I pc lo (.int i :: .ref 100000 :: st) M res M' := by
  obtain ⟨hm, k⟩ := k
  refine ⟨hm, ?_⟩
  intro p e R s m args below meth c0 H locs ls k0 z0 Q F hW hl hn hS hR h1 h2 kr kx
  have hWa := F.2.2.2.2.2.2.2.1
  exact sld9 G F hS hin hd (k F hW hl hn hS hR h1 h2 kr kx)
theorem r_slen (G : GG l s0 b L xs D cy ad) {v : Int32} (hv : Int32.ofNat L = v) (hd : decode I.2.1 pc = .ok (.arraylength, 1)) (k : Run l s0 D cy ad d I (pc + 1) lo (.int v :: st) M res M') : Run l s0 D cy ad d I pc lo (.ref 100000 :: st) M res M' := by
  obtain ⟨hm, k⟩ := k
  refine ⟨hm, ?_⟩
  intro p e R s m args below meth c0 H locs ls k0 z0 Q F hW hl hn hS hR h1 h2 kr kx
  have hWa := F.2.2.2.2.2.2.2.1
  exact slen9 G F hS hv hd (k F hW hl hn hS hR h1 h2 kr kx)
theorem r_ldcS (G : GG l s0 b L xs D cy ad) {idx i : Nat} (hs : strIn I.1.cls idx i) (hd : decode I.2.1 pc = .ok (.ldc idx, 2)) (k : Run l s0 D cy ad d I (pc + 2) lo (.ref (100001 + i) :: st) M res M') : Run l s0 D cy ad d I pc lo st M res M' := by
  obtain ⟨hm, k⟩ := k
  refine ⟨hm, ?_⟩
  intro p e R s m args below meth c0 H locs ls k0 z0 Q F hW hl hn hS hR h1 h2 kr kx
  have hstr : vk_R I.1.cls idx (strT i).2.2 (ad (100001 + i)) s := by
    have := vk_R.warm F.2.2.2.2.2.2.2.1 (G.2.2.2.2.2.2.2.2.2.1 i hs.1)
    rw [hs.2.1, hs.2.2] at this
    exact this
  exact va_ldcS F.1 F.2.1 F.2.2.2.2.1 hstr hd (k F hW hl hn hS hR h1 h2 kr kx)
theorem sA_off {a : Nat} {f : Nat → Int32} {j : Nat} (hj : j ≠ a) : ent cy ad (sA M a f) j = ent cy ad M j := ent_off rfl rfl (u1_ne hj) rfl rfl
theorem r_copy (G : GG l s0 b L xs D cy ad) {idx a a0 n0 n1 : Nat} {sp dp n : Int32} (hL : Cond.methodLink I.1.cls idx arraycopyName ∈ lw_tbl) (hnat : Cond.native arraycopyName ∈ lw_tbl) (hsta : Cond.static arraycopyName ∈ lw_tbl) (hini : Cond.initialized "java/lang/System" ∈ lw_tbl) (ha : a < zN M) (hs : sh M a = 12) (hn1 : ln M a = n1) (ha0 : a0 < zN M) (hs0 : sh M a0 = 12) (hn0 : ln M a0 = n0)
    (g1 : ¬ sp < 0) (g2 : ¬ dp < 0) (g3 : ¬ n < 0) (g4 : sp.toNatClampNeg + n.toNatClampNeg ≤ n0) (g5 : dp.toNatClampNeg + n.toNatClampNeg ≤ n1) (hd1 : 1 ≤ d) (hw8 : (st.map (fun v => v.category)).sum ≤ 8) (hd : decode I.2.1 pc = .ok (.invokestatic idx, 3))
    (k : Run l s0 D cy ad d I (pc + 3) lo st (sA M a (va_cpy (mi M a0) (mi M a) sp.toNatClampNeg dp.toNatClampNeg n.toNatClampNeg)) res M') : Run l s0 D cy ad d I pc lo (.int n :: .int dp :: .ref a :: .int sp :: .ref a0 :: st) M res M' := by
  obtain ⟨hm, k⟩ := k
  refine ⟨hm, ?_⟩
  intro p e R s m args below meth c0 H locs ls k0 z0 Q F hW hl hn hS hR h1 h2 kr kx
  have hWa := F.2.2.2.2.2.2.2.1
  have hw9 : ((st.map (gv ad)).map (fun v => v.category)).sum ≤ 8 := by
    rw [List.map_map]
    have : ((fun v : Value => v.category) ∘ gv ad) = fun v => v.category := by funext v; exact gv_cat v
    rw [this]; exact hw8
  have hnf : nativeFrameWords "java/lang/System" "arraycopy" 5 ≤ 50 := by decide +kernel
  subst hn0
  subst hn1
  refine va_copyi F.1 F.2.1 (F.2.2.1.trans (hl.1.trans hn).symm) F.2.2.2.2.1 (gwm G hWa hL w_link args) (gwm G hWa hnat rfl args) (gwm G hWa hsta w_stat args) (gwm G hWa hini w_ini args) (gK G hWa) hW.2 (gD G hW.1) hS a0 a 1 1 (pool_at ha0 |>.trans (by rw [ent_i hs0])) (pool_at ha |>.trans (by rw [ent_i hs])) rfl rfl rfl g1 g2 g3 g4 g5 (fun i _ => rfl) (by omega) (by omega) hd (fun H1 locs1 q1 q2 q3 => ?_)
  have e3 : mi (sA M a (va_cpy (mi M a0) (mi M a) sp.toNatClampNeg dp.toNatClampNeg n.toNatClampNeg)) a = va_cpy (mi M a0) (mi M a) sp.toNatClampNeg dp.toNatClampNeg n.toNatClampNeg := u1_same _ _ _
  rw [pool_set (M := M) (M' := sA M a (va_cpy (mi M a0) (mi M a) sp.toNatClampNeg dp.toNatClampNeg n.toNatClampNeg)) rfl ((ent_i (M := sA M a (va_cpy (mi M a0) (mi M a) sp.toNatClampNeg dp.toNatClampNeg n.toNatClampNeg)) hs).trans (by rw [e3]; rfl)) (fun j hj => sA_off hj)] at q1
  exact k F ⟨hW.1, q1⟩ hl hn q3 hR h1 h2 kr kx
end RM
