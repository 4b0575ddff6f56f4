/-! the rules of calls -/
/-- what the tables say of the method K of n arguments -/
def mF (K : MI) (n : Nat) : Prop := K.2.2.2.2 = [] ∧ Cond.code K.1 K.2.1 K.2.2.1 K.2.2.2.1 ∈ lw_tbl ∧ Cond.initialized K.1.cls ∈ lw_tbl ∧ (K.1.cls ≠ "java/lang/invoke/MethodHandle" ∧ K.1.cls ≠ "java/lang/invoke/VarHandle") ∧ (parseMethodDescriptor K.1.desc).map (fun q => q.parameters.length) = some n ∧ K.2.2.1 ≤ 60
def mV (K : MI) (n c : Nat) : Prop := mF K n ∧ Cond.instanceMethod K.1 ∈ lw_tbl ∧ Cond.selects K.1.cls K.1 K.1 ∈ lw_tbl ∧ clX[c]?.map (fun q => q.1) = some K.1.cls ∧ c < 11
def mS (K : MI) (n : Nat) : Prop := mF K n ∧ Cond.static K.1 ∈ lw_tbl
def mC (K : MI) (n : Nat) : Prop := mF K n ∧ Cond.instanceMethod K.1 ∈ lw_tbl ∧ K.1.name = "<init>" ∧ K.2.2.2.1 = none
/-- entry idx of the class own names K; nested: through the nest host -/
def mL (own : String) (idx : Nat) (K : MI) : Prop := Cond.methodLink own idx K.1 ∈ lw_tbl
def mN (own : String) (idx : Nat) (K : MI) : Prop := ∃ h : String, Cond.methodLinkNest own idx K.1 h ∈ lw_tbl
section RC
variable {l : Launch} {s0 : State} {b L : Nat} {xs : Nat → Int32} {D : va_G} {cy : Nat → ClassId} {ad : Nat → Nat} {d : Nat} {I : MI} {pc : Nat} {lo st : List Value} {M M' : Mm} {res : Rs}
/-- the machine's call at pc, with stack stk, st below the arguments, gives r1 and M1 -/
def VxR (l : Launch) (s0 : State) (D : va_G) (cy : Nat → ClassId) (ad : Nat → Nat) (d : Nat) (I : MI) (pc : Nat) (stk st : List Value) (M : Mm) (r1 : Rs) (M1 : Mm) : Prop :=
  (zC M ≤ zC M1 ∧ zS M ≤ zS M1 ∧ (zX M1 = 0 → zX M = 0)) ∧
  ∀ {p : Program} {e : Env} {R : Room} {s : State} {m : MethodId} {args : Array Value} {below : List Frame} {meth : Method} {c : Code} {H : Heap} {locs : List Loc} {ls : Array Slot} {k0 z0 : Nat},
    Fx s0 I p s m meth c → Wd D cy ad H M → ls.size = I.2.2.1 → va_S (AF s0) s.heap H locs →
    (d ≤ R.frames ∧ 100 * d + 100 ≤ R.locals ∧ zC M1 ≤ R.cells + k0 ∧ zS M1 ≤ R.slots + z0) → (k0 ≤ zC M ∧ (zX M = 0 → s.heap.size ≤ s0.heap.size + k0)) → z0 ≤ zS M →
    ∃ a : Array Value, vx_Run p l e R s m args below meth c H locs (zC M - k0) (zS M - z0) (zC M1 - zC M) (zS M1 - zS M) (F0 m pc ls (stk.map (gv ad))) (st.map (gv ad)) (QC s0 D cy ad r1 M1 a) (XC s0 D cy ad r1 M1) (AF s0)
theorem r_ret_of {stk : List Value} {v : Option Value} {M1 : Mm} (hv : VxR l s0 D cy ad d I pc stk st M (.inl v) M1) (k9 : Run l s0 D cy ad d I (pc + 3) lo (v.toList ++ st) M1 res M') : Run l s0 D cy ad d I pc lo stk M res M' := by
  obtain ⟨hm1, hv⟩ := hv
  obtain ⟨hm, k9⟩ := k9
  refine ⟨⟨Nat.le_trans hm1.1 hm.1, Nat.le_trans hm1.2.1 hm.2.1, fun h => hm1.2.2 (hm.2.2 h)⟩, ?_⟩
  intro p e R s m args below meth c H locs ls k0 z0 Q F hW hl hn hS hR h1 h2 kr kx T hT X
  obtain ⟨a, hr⟩ := hv (p := p) (e := e) (R := R) (s := s) (m := m) (args := args) (below := below) (meth := meth) (c := c) (H := H) (locs := locs) (ls := ls) (k0 := k0) (z0 := z0) F hW (hl.1.trans hn) hS ⟨hR.1, hR.2.1, by omega, by omega⟩ h1 h2
  rcases hr T hT X with ⟨v', st₀, t, T', L', h0, X', hL, e1, e2, ⟨⟨w, q1, q2, q3, q4⟩, stp⟩⟩ | ⟨q, st₀, t, T', L', E, ce, h0, X', hL, e1, e2, ⟨q1, q2, q3⟩, hce, hcv, hcl, stp⟩
  · cases q1
    have hv' : v' = v.map (gv ad) := by cases q2; rfl
    subst hv'
    obtain ⟨g1, g2, g3⟩ := vx_keep (A1 := AF s0) (free := AF s0) h0 e1 hS (fun _ _ h => h) (fun _ h => h) hL q4
    have hx : zX M1 = 0 → s.heap.size ≤ s0.heap.size + k0 := fun hz => h1.2 (hm1.2.2 hz)
    have K := k9 (p := p) (e := e) (R := R) (s := s) (m := m) (args := args) (below := below) (meth := meth) (c := c) (H := T'.heap) (locs := locs ++ L') (ls := ls) (k0 := k0) (z0 := z0) (Q := Q) F (by rw [e1]; exact q3) hl hn g3 hR ⟨by omega, hx⟩ (by omega) kr kx
    rw [show zC M - k0 + (zC M1 - zC M) = zC M1 - k0 by omega, show zS M - z0 + (zS M1 - zS M) = zS M1 - z0 by omega] at X'
    have e9 : (v.toList ++ st).map (gv ad) = (v.map (gv ad)).toList ++ st.map (gv ad) := by cases v <;> rfl
    rw [e9] at K
    obtain ⟨t2, a1, b1⟩ := K T' rfl X'
    exact ⟨t2, stp t2 a1, b1⟩
  · cases q1
/-- an exception that goes on to the caller -/
theorem r_thr_of {stk : List Value} {E : String} {M1 : Mm} (hv : VxR l s0 D cy ad d I pc stk st M (.inr E) M1) (hno : Nocov I.2.2.2.2 pc) : Run l s0 D cy ad d I pc lo stk M (.inr E) M1 := by
  obtain ⟨hm1, hv⟩ := hv
  refine ⟨hm1, ?_⟩
  intro p e R s m args below meth c H locs ls k0 z0 Q F hW hl hn hS hR h1 h2 kr kx T hT X
  obtain ⟨a, hr⟩ := hv (p := p) (e := e) (R := R) (s := s) (m := m) (args := args) (below := below) (meth := meth) (c := c) (H := H) (locs := locs) (ls := ls) (k0 := k0) (z0 := z0) F hW (hl.1.trans hn) hS hR h1 h2
  rcases hr T hT X with ⟨v', st₀, t, T', L', h0, X', hL, e1, e2, ⟨⟨w, q1, q2, q3, q4⟩, stp⟩⟩ | ⟨q, st₀, t, T', L', E', ce, h0, X', hL, e1, e2, ⟨q1, q2, q3⟩, hce, hcv, hcl, stp⟩
  · cases q1
  · cases q1
    obtain ⟨g1, g2, g3⟩ := vx_keep (A1 := AF s0) (free := AF s0) h0 e1 hS (fun _ _ h => h) (fun _ h => h) hL q3
    have K := kx E pc ls (st.map (gv ad)) T'.heap (locs ++ L') q ce rfl hno (by rw [e1]; exact q2) g3 (by rw [e1]; exact hce) hcv hcl
    rw [show zC M - k0 + (zC M1 - zC M) = zC M1 - k0 by omega, show zS M - z0 + (zS M1 - zS M) = zS M1 - z0 by omega] at X'
    obtain ⟨t2, a1, b1⟩ := K T' rfl X'
    exact ⟨t2, stp.trans a1, b1⟩
theorem pcB (G : GG l s0 b L xs D cy ad) {as : List Value} {s : State} {H : Heap} {locs : List Loc} {k0 : Nat} (hW : Wd D cy ad H M) (hWa : s0.WarmedH s.vm) (hq : ∀ q : Nat, q < s0.heap.size → s.heap[q]? = s0.heap[q]?) (hsz : s0.heap.size ≤ s.heap.size) (hS : va_S (AF s0) s.heap H locs) (hup : zX M = 0 → H.size ≤ s0.heap.size + zC M) :
    FrameBlind (va_Pc as (fun U => Wc s0 D cy ad U M)) ∧ ∀ U : State, U.heap = H → s.WarmedH U.vm → va_Pc as (fun U => Wc s0 D cy ad U M) as.toArray U := by
  refine ⟨fun a U g mk h => h, fun U hU hW1 => ⟨rfl, State.WarmedH.trans hWa hW1, fun q h => ?_, ?_, ?_, ?_⟩⟩
  · rw [hU, hS.2.1 q (Nat.lt_of_lt_of_le h hsz) (Nat.not_le.mpr h)]
    exact hq q h
  · rw [hU]; exact Nat.le_trans hsz hS.1
  · rw [hU]; exact hup
  · rw [hU]; exact hW
theorem w_code {y : MethodName} {cc : ByteArray} {maxL : Nat} {ret : Option FieldType} : goodWord (.code y cc maxL ret) = true := rfl
theorem w_ini {C : String} : goodWord (.initialized C) = true := rfl
theorem w_link {C : String} {i : Nat} {y : MethodName} : goodWord (.methodLink C i y) = true := rfl
theorem w_inst {y : MethodName} : goodWord (.instanceMethod y) = true := rfl
theorem w_stat {y : MethodName} : goodWord (.static y) = true := rfl
theorem w_sel {C : String} {x y : MethodName} : goodWord (.selects C x y) = true := rfl
theorem v_S (G : GG l s0 b L xs D cy ad) {y : MethodName} {cc : ByteArray} {maxL : Nat} {ret : Option FieldType} {d' n idx : Nat} {as : List Value} {r1 : Rs} {M1 : Mm} (hc : Cal l s0 D cy ad d' (y, cc, maxL, ret, []) as M r1 M1) (hd' : d' < d) (hK : mS (y, cc, maxL, ret, []) n) (hL : mL I.1.cls idx (y, cc, maxL, ret, [])) (ha : as.length = n) (hw8 : (st.map (fun v => v.category)).sum ≤ 8) (hd : decode I.2.1 pc = .ok (.invokestatic idx, 3)) : VxR l s0 D cy ad d I pc (as.reverse ++ st) st M r1 M1 := by
  obtain ⟨hm, hM⟩ := hc
  refine ⟨hm, ?_⟩
  intro p e R s m args below meth c0 H locs ls k0 z0 F hW hl hS hR h1 h2
  refine ⟨(as.map (gv ad)).toArray, ?_⟩
  intro T hT X
  have hup : zX M = 0 → H.size ≤ s0.heap.size + zC M := fun hz => by have := X.heapSize; rw [hT] at this; have := h1.2 hz; omega
  have hWa := F.2.2.2.2.2.2.2.1
  obtain ⟨⟨-, k2, k3, k4, k5, k6⟩, k7⟩ := hK
  dsimp only at k2 k3 k4 k5 k6 k7
  have hB := pcB (as := as.map (gv ad)) (k0 := k0) G hW hWa F.2.2.2.2.2.2.2.2.1 F.2.2.2.2.2.2.2.2.2.1 hS hup
  have hM' : vx_Met l y [Cond.code y cc maxL ret] (rmK d' (zC M1 - zC M) (zS M1 - zS M)) (va_Pc (as.map (gv ad)) (fun U => Wc s0 D cy ad U M)) (QC s0 D cy ad r1 M1) (XC s0 D cy ad r1 M1) (zC M1 - zC M) (zS M1 - zS M) (AF s0) := hM
  have hS' : CallFix p m c0 I.2.1 I.2.2.1 s args [] I.1.cls := ⟨F.1, F.2.1, F.2.2.1, F.2.2.2.2.1, fun w h => nomatch h⟩
  have hfr : (rmK d' (zC M1 - zC M) (zS M1 - zS M)).frames + 1 ≤ R.frames := by show d' + 1 ≤ R.frames; omega
  have hlo : 8 + (maxL + 11) + (rmK d' (zC M1 - zC M) (zS M1 - zS M)).locals ≤ R.locals := by show 8 + (maxL + 11) + (100 * d' + 100) ≤ R.locals; omega
  have hws : ∀ w ∈ [Cond.code y cc maxL ret], ∀ (a' : Array Value) (U : State), s.WarmedH U.vm → w.before a' U = true := by
    intro w hw a' U hWU
    rw [List.mem_singleton] at hw
    subst hw
    exact gwm G (State.WarmedH.trans hWa hWU) k2 w_code a'
  have hlen : ∀ sig, parseMethodDescriptor y.desc = some sig → n = sig.parameters.length := by
    intro sig h
    rw [h] at k5
    exact (Option.some.inj k5).symm
  have hcb : CallB R s args I.1.cls idx y cc maxL ret [Cond.code y cc maxL ret] (rmK d' (zC M1 - zC M) (zS M1 - zS M)) (zC M1 - zC M) (zS M1 - zS M) n :=
    ⟨rfl, rfl, hfr, hlo, hws, List.mem_cons_self, gwm G hWa k2 w_code args, gwm G hWa k3 w_ini args, k4, hlen, gwm G hWa hL w_link args⟩
  have hlm : (as.map (gv ad)).length = n := by rw [List.length_map]; exact ha
  have hstk : (F0 m pc ls ((as.reverse ++ st).map (gv ad))).stack = (as.map (gv ad)).reverse ++ st.map (gv ad) := by
    show (as.reverse ++ st).map (gv ad) = _
    rw [List.map_append, List.map_reverse]
  have hw9 : 2 * (F0 m pc ls ((as.reverse ++ st).map (gv ad))).monitorRoom + ((st.map (gv ad)).map (fun v => v.category)).sum ≤ 8 := by
    refine lv_room ?_
    rw [List.map_map]
    have : ((fun v : Value => v.category) ∘ gv ad) = fun v => v.category := by funext v; exact gv_cat v
    rw [this]; exact hw8
  exact vx_runS hS' hM' ⟨hcb, gwm G hWa k7 w_stat args⟩ hB rfl hlm hl hstk hw9 hd ⟨by omega, by omega⟩ T hT X
theorem v_V (G : GG l s0 b L xs D cy ad) {y : MethodName} {cc : ByteArray} {maxL : Nat} {ret : Option FieldType} {d' n idx : Nat} {a c : Nat} {as : List Value} {r1 : Rs} {M1 : Mm} (hc : Cal l s0 D cy ad d' (y, cc, maxL, ret, []) (.ref a :: as) M r1 M1) (hd' : d' < d) (hK : mV (y, cc, maxL, ret, []) n c) (hL : mL I.1.cls idx (y, cc, maxL, ret, [])) (hra : a < zN M) (hrs : sh M a = c) (ha : as.length = n) (hw8 : (st.map (fun v => v.category)).sum ≤ 8) (hd : decode I.2.1 pc = .ok (.invokevirtual idx, 3)) : VxR l s0 D cy ad d I pc (as.reverse ++ .ref a :: st) st M r1 M1 := by
  obtain ⟨hm, hM⟩ := hc
  refine ⟨hm, ?_⟩
  intro p e R s m args below meth c0 H locs ls k0 z0 F hW hl hS hR h1 h2
  refine ⟨((.ref a :: as).map (gv ad)).toArray, ?_⟩
  intro T hT X
  have hup : zX M = 0 → H.size ≤ s0.heap.size + zC M := fun hz => by have := X.heapSize; rw [hT] at this; have := h1.2 hz; omega
  have hWa := F.2.2.2.2.2.2.2.1
  obtain ⟨⟨-, k2, k3, k4, k5, k6⟩, k7, k8, k9, k10⟩ := hK
  dsimp only at k2 k3 k4 k5 k6 k7
  have hB := pcB (as := (.ref a :: as).map (gv ad)) (k0 := k0) G hW hWa F.2.2.2.2.2.2.2.2.1 F.2.2.2.2.2.2.2.2.2.1 hS hup
  have hM' : vx_Met l y [Cond.code y cc maxL ret] (rmK d' (zC M1 - zC M) (zS M1 - zS M)) (va_Pc ((.ref a :: as).map (gv ad)) (fun U => Wc s0 D cy ad U M)) (QC s0 D cy ad r1 M1) (XC s0 D cy ad r1 M1) (zC M1 - zC M) (zS M1 - zS M) (AF s0) := hM
  have hS' : CallFix p m c0 I.2.1 I.2.2.1 s args [] I.1.cls := ⟨F.1, F.2.1, F.2.2.1, F.2.2.2.2.1, fun w h => nomatch h⟩
  have hfr : (rmK d' (zC M1 - zC M) (zS M1 - zS M)).frames + 1 ≤ R.frames := by show d' + 1 ≤ R.frames; omega
  have hlo : 8 + (maxL + 11) + (rmK d' (zC M1 - zC M) (zS M1 - zS M)).locals ≤ R.locals := by show 8 + (maxL + 11) + (100 * d' + 100) ≤ R.locals; omega
  have hws : ∀ w ∈ [Cond.code y cc maxL ret], ∀ (a' : Array Value) (U : State), s.WarmedH U.vm → w.before a' U = true := by
    intro w hw a' U hWU
    rw [List.mem_singleton] at hw
    subst hw
    exact gwm G (State.WarmedH.trans hWa hWU) k2 w_code a'
  have hlen : ∀ sig, parseMethodDescriptor y.desc = some sig → n = sig.parameters.length := by
    intro sig h
    rw [h] at k5
    exact (Option.some.inj k5).symm
  have hcb : CallB R s args I.1.cls idx y cc maxL ret [Cond.code y cc maxL ret] (rmK d' (zC M1 - zC M) (zS M1 - zS M)) (zC M1 - zC M) (zS M1 - zS M) n :=
    ⟨rfl, rfl, hfr, hlo, hws, List.mem_cons_self, gwm G hWa k2 w_code args, gwm G hWa k3 w_ini args, k4, hlen, gwm G hWa hL w_link args⟩
  have hlm : (as.map (gv ad)).length = n := by rw [List.length_map]; exact ha
  have hstk : (F0 m pc ls ((as.reverse ++ .ref a :: st).map (gv ad))).stack = (as.map (gv ad)).reverse ++ .ref (ad a) :: st.map (gv ad) := by
    show (as.reverse ++ .ref a :: st).map (gv ad) = _
    rw [List.map_append, List.map_reverse]
    rfl
  have hw9 : 2 * (F0 m pc ls ((as.reverse ++ .ref a :: st).map (gv ad))).monitorRoom + ((st.map (gv ad)).map (fun v => v.category)).sum ≤ 8 := by
    refine lv_room ?_
    rw [List.map_map]
    have : ((fun v : Value => v.category) ∘ gv ad) = fun v => v.category := by funext v; exact gv_cat v
    rw [this]; exact hw8
  obtain ⟨q, hq⟩ : ∃ q, clX[c]? = some q := by cases hq : clX[c]? with | none => rw [hq] at k9; cases k9 | some q => exact ⟨q, rfl⟩
  have hqc : q.1 = y.cls := by rw [hq] at k9; exact Option.some.inj k9
  have hrv := va_recv (gK G hWa) hW.2 hq (pool_at hra |>.trans (by rw [ent_obj hrs k10]))
  rw [hqc] at hrv
  exact vx_runV hS' hM' ⟨hcb, gwm G hWa k7 w_inst args, gwm G hWa k8 w_sel args⟩ ⟨hB.1, hrv, hB.2⟩ rfl hlm hl hstk hw9 hd ⟨by omega, by omega⟩ T hT X
theorem v_I (G : GG l s0 b L xs D cy ad) {y : MethodName} {cc : ByteArray} {maxL : Nat} {d' n idx : Nat} {a : Nat} {as : List Value} {r1 : Rs} {M1 : Mm} (hc : Cal l s0 D cy ad d' (y, cc, maxL, none, []) (.ref a :: as) M r1 M1) (hd' : d' < d) (hK : mC (y, cc, maxL, none, []) n) (hL : mL I.1.cls idx (y, cc, maxL, none, [])) (ha : as.length = n) (hw8 : (st.map (fun v => v.category)).sum ≤ 8) (hd : decode I.2.1 pc = .ok (.invokespecial idx, 3)) : VxR l s0 D cy ad d I pc (as.reverse ++ .ref a :: st) st M r1 M1 := by
  obtain ⟨hm, hM⟩ := hc
  refine ⟨hm, ?_⟩
  intro p e R s m args below meth c0 H locs ls k0 z0 F hW hl hS hR h1 h2
  refine ⟨((.ref a :: as).map (gv ad)).toArray, ?_⟩
  intro T hT X
  have hup : zX M = 0 → H.size ≤ s0.heap.size + zC M := fun hz => by have := X.heapSize; rw [hT] at this; have := h1.2 hz; omega
  have hWa := F.2.2.2.2.2.2.2.1
  obtain ⟨⟨-, k2, k3, k4, k5, k6⟩, k7, k8, k9⟩ := hK
  dsimp only at k2 k3 k4 k5 k6 k7
  have hB := pcB (as := (.ref a :: as).map (gv ad)) (k0 := k0) G hW hWa F.2.2.2.2.2.2.2.2.1 F.2.2.2.2.2.2.2.2.2.1 hS hup
  have hM' : vx_Met l y [Cond.code y cc maxL none] (rmK d' (zC M1 - zC M) (zS M1 - zS M)) (va_Pc ((.ref a :: as).map (gv ad)) (fun U => Wc s0 D cy ad U M)) (QC s0 D cy ad r1 M1) (XC s0 D cy ad r1 M1) (zC M1 - zC M) (zS M1 - zS M) (AF s0) := hM
  have hS' : CallFix p m c0 I.2.1 I.2.2.1 s args [] I.1.cls := ⟨F.1, F.2.1, F.2.2.1, F.2.2.2.2.1, fun w h => nomatch h⟩
  have hfr : (rmK d' (zC M1 - zC M) (zS M1 - zS M)).frames + 1 ≤ R.frames := by show d' + 1 ≤ R.frames; omega
  have hlo : 8 + (maxL + 11) + (rmK d' (zC M1 - zC M) (zS M1 - zS M)).locals ≤ R.locals := by show 8 + (maxL + 11) + (100 * d' + 100) ≤ R.locals; omega
  have hws : ∀ w ∈ [Cond.code y cc maxL none], ∀ (a' : Array Value) (U : State), s.WarmedH U.vm → w.before a' U = true := by
    intro w hw a' U hWU
    rw [List.mem_singleton] at hw
    subst hw
    exact gwm G (State.WarmedH.trans hWa hWU) k2 w_code a'
  have hlen : ∀ sig, parseMethodDescriptor y.desc = some sig → n = sig.parameters.length := by
    intro sig h
    rw [h] at k5
    exact (Option.some.inj k5).symm
  have hcb : CallB R s args I.1.cls idx y cc maxL none [Cond.code y cc maxL none] (rmK d' (zC M1 - zC M) (zS M1 - zS M)) (zC M1 - zC M) (zS M1 - zS M) n :=
    ⟨rfl, rfl, hfr, hlo, hws, List.mem_cons_self, gwm G hWa k2 w_code args, gwm G hWa k3 w_ini args, k4, hlen, gwm G hWa hL w_link args⟩
  have hlm : (as.map (gv ad)).length = n := by rw [List.length_map]; exact ha
  have hstk : (F0 m pc ls ((as.reverse ++ .ref a :: st).map (gv ad))).stack = (as.map (gv ad)).reverse ++ .ref (ad a) :: st.map (gv ad) := by
    show (as.reverse ++ .ref a :: st).map (gv ad) = _
    rw [List.map_append, List.map_reverse]
    rfl
  have hw9 : 2 * (F0 m pc ls ((as.reverse ++ .ref a :: st).map (gv ad))).monitorRoom + ((st.map (gv ad)).map (fun v => v.category)).sum ≤ 8 := by
    refine lv_room ?_
    rw [List.map_map]
    have : ((fun v : Value => v.category) ∘ gv ad) = fun v => v.category := by funext v; exact gv_cat v
    rw [this]; exact hw8
  exact vx_runI hS' hM' ⟨hcb, k8, gwm G hWa k7 w_inst args⟩ hB rfl hlm hl hstk hw9 hd ⟨by omega, by omega⟩ T hT X
theorem v_SN (G : GG l s0 b L xs D cy ad) {y : MethodName} {cc : ByteArray} {maxL : Nat} {ret : Option FieldType} {d' n idx : Nat} {as : List Value} {r1 : Rs} {M1 : Mm} (hc : Cal l s0 D cy ad d' (y, cc, maxL, ret, []) as M r1 M1) (hd' : d' < d) (hK : mS (y, cc, maxL, ret, []) n) (hL : mN I.1.cls idx (y, cc, maxL, ret, [])) (ha : as.length = n) (hw8 : (st.map (fun v => v.category)).sum ≤ 8) (hd : decode I.2.1 pc = .ok (.invokestatic idx, 3)) : VxR l s0 D cy ad d I pc (as.reverse ++ st) st M r1 M1 := by
  obtain ⟨hm, hM⟩ := hc
  refine ⟨hm, ?_⟩
  intro p e R s m args below meth c0 H locs ls k0 z0 F hW hl hS hR h1 h2
  refine ⟨(as.map (gv ad)).toArray, ?_⟩
  intro T hT X
  have hup : zX M = 0 → H.size ≤ s0.heap.size + zC M := fun hz => by have := X.heapSize; rw [hT] at this; have := h1.2 hz; omega
  have hWa := F.2.2.2.2.2.2.2.1
  obtain ⟨⟨-, k2, k3, k4, k5, k6⟩, k7⟩ := hK
  obtain ⟨host, hL⟩ := hL
  dsimp only at k2 k3 k4 k5 k6 k7
  have hB := pcB (as := as.map (gv ad)) (k0 := k0) G hW hWa F.2.2.2.2.2.2.2.2.1 F.2.2.2.2.2.2.2.2.2.1 hS hup
  have hM' : vx_Met l y [Cond.code y cc maxL ret] (rmK d' (zC M1 - zC M) (zS M1 - zS M)) (va_Pc (as.map (gv ad)) (fun U => Wc s0 D cy ad U M)) (QC s0 D cy ad r1 M1) (XC s0 D cy ad r1 M1) (zC M1 - zC M) (zS M1 - zS M) (AF s0) := hM
  have hS' : CallFix p m c0 I.2.1 I.2.2.1 s args [] I.1.cls := ⟨F.1, F.2.1, F.2.2.1, F.2.2.2.2.1, fun w h => nomatch h⟩
  have hfr : (rmK d' (zC M1 - zC M) (zS M1 - zS M)).frames + 1 ≤ R.frames := by show d' + 1 ≤ R.frames; omega
  have hlo : 8 + (maxL + 11) + (rmK d' (zC M1 - zC M) (zS M1 - zS M)).locals ≤ R.locals := by show 8 + (maxL + 11) + (100 * d' + 100) ≤ R.locals; omega
  have hws : ∀ w ∈ [Cond.code y cc maxL ret], ∀ (a' : Array Value) (U : State), s.WarmedH U.vm → w.before a' U = true := by
    intro w hw a' U hWU
    rw [List.mem_singleton] at hw
    subst hw
    exact gwm G (State.WarmedH.trans hWa hWU) k2 w_code a'
  have hlen : ∀ sig, parseMethodDescriptor y.desc = some sig → n = sig.parameters.length := by
    intro sig h
    rw [h] at k5
    exact (Option.some.inj k5).symm
  have hcb : va_CN R s args I.1.cls idx y host cc maxL ret [Cond.code y cc maxL ret] (rmK d' (zC M1 - zC M) (zS M1 - zS M)) (zC M1 - zC M) (zS M1 - zS M) n :=
    ⟨⟨rfl, rfl, hfr, hlo, hws, List.mem_cons_self⟩, gwm G hWa k2 w_code args, gwm G hWa k3 w_ini args, k4, hlen, va_Nw.use rfl (va_Nw.warmM hWa (va_Nw.of rfl (G.2.1 _ hL)))⟩
  have hlm : (as.map (gv ad)).length = n := by rw [List.length_map]; exact ha
  have hstk : (F0 m pc ls ((as.reverse ++ st).map (gv ad))).stack = (as.map (gv ad)).reverse ++ st.map (gv ad) := by
    show (as.reverse ++ st).map (gv ad) = _
    rw [List.map_append, List.map_reverse]
  have hw9 : 2 * (F0 m pc ls ((as.reverse ++ st).map (gv ad))).monitorRoom + ((st.map (gv ad)).map (fun v => v.category)).sum ≤ 8 := by
    refine lv_room ?_
    rw [List.map_map]
    have : ((fun v : Value => v.category) ∘ gv ad) = fun v => v.category := by funext v; exact gv_cat v
    rw [this]; exact hw8
  exact vx_runSN hS' hM' ⟨hcb, gwm G hWa k7 w_stat args, trivial⟩ hB rfl hlm hl hstk hw9 hd ⟨by omega, by omega⟩ T hT X
theorem v_IN (G : GG l s0 b L xs D cy ad) {y : MethodName} {cc : ByteArray} {maxL : Nat} {d' n idx : Nat} {a : Nat} {as : List Value} {r1 : Rs} {M1 : Mm} (hc : Cal l s0 D cy ad d' (y, cc, maxL, none, []) (.ref a :: as) M r1 M1) (hd' : d' < d) (hK : mC (y, cc, maxL, none, []) n) (hL : mN I.1.cls idx (y, cc, maxL, none, [])) (ha : as.length = n) (hw8 : (st.map (fun v => v.category)).sum ≤ 8) (hd : decode I.2.1 pc = .ok (.invokespecial idx, 3)) : VxR l s0 D cy ad d I pc (as.reverse ++ .ref a :: st) st M r1 M1 := by
  obtain ⟨hm, hM⟩ := hc
  refine ⟨hm, ?_⟩
  intro p e R s m args below meth c0 H locs ls k0 z0 F hW hl hS hR h1 h2
  refine ⟨((.ref a :: as).map (gv ad)).toArray, ?_⟩
  intro T hT X
  have hup : zX M = 0 → H.size ≤ s0.heap.size + zC M := fun hz => by have := X.heapSize; rw [hT] at this; have := h1.2 hz; omega
  have hWa := F.2.2.2.2.2.2.2.1
  obtain ⟨⟨-, k2, k3, k4, k5, k6⟩, k7, k8, k9⟩ := hK
  obtain ⟨host, hL⟩ := hL
  dsimp only at k2 k3 k4 k5 k6 k7
  have hB := pcB (as := (.ref a :: as).map (gv ad)) (k0 := k0) G hW hWa F.2.2.2.2.2.2.2.2.1 F.2.2.2.2.2.2.2.2.2.1 hS hup
  have hM' : vx_Met l y [Cond.code y cc maxL none] (rmK d' (zC M1 - zC M) (zS M1 - zS M)) (va_Pc ((.ref a :: as).map (gv ad)) (fun U => Wc s0 D cy ad U M)) (QC s0 D cy ad r1 M1) (XC s0 D cy ad r1 M1) (zC M1 - zC M) (zS M1 - zS M) (AF s0) := hM
  have hS' : CallFix p m c0 I.2.1 I.2.2.1 s args [] I.1.cls := ⟨F.1, F.2.1, F.2.2.1, F.2.2.2.2.1, fun w h => nomatch h⟩
  have hfr : (rmK d' (zC M1 - zC M) (zS M1 - zS M)).frames + 1 ≤ R.frames := by show d' + 1 ≤ R.frames; omega
  have hlo : 8 + (maxL + 11) + (rmK d' (zC M1 - zC M) (zS M1 - zS M)).locals ≤ R.locals := by show 8 + (maxL + 11) + (100 * d' + 100) ≤ R.locals; omega
  have hws : ∀ w ∈ [Cond.code y cc maxL none], ∀ (a' : Array Value) (U : State), s.WarmedH U.vm → w.before a' U = true := by
    intro w hw a' U hWU
    rw [List.mem_singleton] at hw
    subst hw
    exact gwm G (State.WarmedH.trans hWa hWU) k2 w_code a'
  have hlen : ∀ sig, parseMethodDescriptor y.desc = some sig → n = sig.parameters.length := by
    intro sig h
    rw [h] at k5
    exact (Option.some.inj k5).symm
  have hcb : va_CN R s args I.1.cls idx y host cc maxL none [Cond.code y cc maxL none] (rmK d' (zC M1 - zC M) (zS M1 - zS M)) (zC M1 - zC M) (zS M1 - zS M) n :=
    ⟨⟨rfl, rfl, hfr, hlo, hws, List.mem_cons_self⟩, gwm G hWa k2 w_code args, gwm G hWa k3 w_ini args, k4, hlen, va_Nw.use rfl (va_Nw.warmM hWa (va_Nw.of rfl (G.2.1 _ hL)))⟩
  have hlm : (as.map (gv ad)).length = n := by rw [List.length_map]; exact ha
  have hstk : (F0 m pc ls ((as.reverse ++ .ref a :: st).map (gv ad))).stack = (as.map (gv ad)).reverse ++ .ref (ad a) :: st.map (gv ad) := by
    show (as.reverse ++ .ref a :: st).map (gv ad) = _
    rw [List.map_append, List.map_reverse]
    rfl
  have hw9 : 2 * (F0 m pc ls ((as.reverse ++ .ref a :: st).map (gv ad))).monitorRoom + ((st.map (gv ad)).map (fun v => v.category)).sum ≤ 8 := by
    refine lv_room ?_
    rw [List.map_map]
    have : ((fun v : Value => v.category) ∘ gv ad) = fun v => v.category := by funext v; exact gv_cat v
    rw [this]; exact hw8
  exact vx_runIN hS' hM' ⟨hcb, k8, gwm G hWa k7 w_inst args⟩ hB rfl hlm hl hstk hw9 hd ⟨by omega, by omega⟩ T hT X
end RC
