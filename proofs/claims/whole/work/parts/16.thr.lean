/-! the three throws; first the laws of a constructor that passes its text on by an entry of its own (follow vx_ctorMadeS, vx_makeS of kit/laws) -/
def vx_atI (own : String) (ic : Nat) (X Y : String) (r : List String) (ix : Nat) (bx : ByteArray) : List Cond := (((Bundle.passSAtoms X Y ix bx ++ Bundle.chainSAtoms Y r) ++ Bundle.throwableAtoms.filter vx_no) ++ Bundle.throwableSAtoms) ++ ((Bundle.ownAtoms own ic X (Y :: r)).filter vx_no).filter (fun w => decide (w ∉ Bundle.passSAtoms X Y 7 Bundle.six))
section VXKI
variable {p : Program} {l : Launch} {e : Env} {R : Room} {s : State} {m₀ : MethodId} {args : Array Value} {below : List Frame} {meth : Method} {c : Code} {W : State} {locs : List Loc} {cells slots : Nat}
set_option maxHeartbeats 1000000 in
theorem vx_ctorMadeSI (X : Stand p l e R s m₀ args below meth c W locs cells slots) (hexec : p.tables.exec = Jvm.exec) (htr : e.platform.stackTraces = false) {own cls : String} {Y9 : String} {r9 : List String} {ic ix : Nat} {bx : ByteArray} (hoc : own ≠ cls) (b0 : decode bx 0 = .ok (.aload_n 0, 1)) (b1 : decode bx 1 = .ok (.aload_n 1, 1)) (b2 : decode bx 2 = .ok (.invokespecial ix, 3)) (b5 : decode bx 5 = .ok (.return_, 1))
    (hT9 : ∀ a ∈ Bundle.throwableAtoms, a.before args s = true) (hTS9 : ∀ a ∈ Bundle.throwableSAtoms, a.before args s = true) (hP9 : ∀ a ∈ Bundle.passSAtoms cls Y9 ix bx, a.before args s = true) (hC9 : ∀ a ∈ Bundle.chainSAtoms Y9 r9, a.before args s = true)
    (hown : s.vm.findClass own = some m₀.cls) (hcls : Bundle.fit cls = true) (hnames : ∀ n ∈ Y9 :: r9, Bundle.fit n = true)
    (h : ∀ a ∈ Bundle.ownAtoms own ic cls (Y9 :: r9), a ∉ Bundle.passSAtoms cls Y9 7 Bundle.six → a.before args s = true)
    (hlocs : ∀ x ∈ locs, ∀ cell, s.heap[x.base]? = some cell → cell.vm.isStatics = false)
    {a : Addr} {cX : ClassId} {kX : Class} (hfoundX : s.vm.findClass cls = some cX) (hkX : s.vm.classes[cX]? = some kX) (hcell : W.heap[a]? = some (freshCell cX kX)) (hnew : s.heap.size ≤ a)
    {msg : Value} (hmsg : msg.isRef = true)
    {g : JFrame} (hg : g.method = m₀) (hsize : g.locals.size = c.maxLocals) {rest : List Value} (hstack : g.stack = msg :: .ref a :: .ref a :: rest)
    (hd6 : decode c.code g.pc = .ok (.invokespecial ic, 3))
    (hRframes : r9.length + 1 + 3 < R.frames) (hRlocals : 2 * g.monitorRoom + ((Value.ref a :: rest).map fun v => v.category).sum + (13 * (r9.length + 1 + 1) + 42) ≤ R.locals) :
    ∃ (V : State) (ce : Cell) (L : List Loc), Stand p l e R s m₀ args below meth c (V.setCell a ce) (locs ++ L) cells slots ∧ (∀ y ∈ L, y.base = a) ∧ a < V.heap.size ∧ ce.cls = cX ∧ ce.vm = .none ∧
      ∀ target, Steps p.tables e below ((V.setCell a ce).setTop { g with stack := .ref a :: rest, pc := g.pc + 3 }) target → Steps p.tables e below (W.setTop g) target := by
  have howns : e.platform.frameOwnsMonitors = true := by rw [X.admits.platform]
  have hfin : e.platform.finalization = false := by rw [X.admits.platform]
  have hpl : e.platform.magicAccessors = ({} : Platform).magicAccessors := by rw [X.admits.platform]
  have a' : ∀ x, x ∈ Bundle.ownAtoms own ic cls (Y9 :: r9) → x ∉ Bundle.passSAtoms cls Y9 7 Bundle.six → x.holds args s none s [] = true := fun x hx hn => h x hx hn
  obtain ⟨T, Z0, L, -, Y⟩ := ThrowableC.of_atoms (args := args) howns hfin hpl (fun x hx => hT9 x hx)
  obtain ⟨Z, M, LZ, LM, hnZ⟩ := Init0T.ofS_atoms (args := args) hpl L Y (fun x hx => hTS9 x hx)
  obtain ⟨P1, Ps, hlen, L1, hL, hP1m, hlink1, hlink⟩ : ∃ (P1 : PassC) (Ps : List PassC), Ps.length = r9.length + 1 ∧ P1.LinksS e.platform s ∧ (∀ P, P ∈ Ps → P.LinksS e.platform s) ∧ s.methodNamed? (Bundle.initS cls) = some P1.m ∧ P1.sup = firstOf (Z.m T.toThrowableT) (Ps.map (·.toPassT)) ∧ PassesOn (Z.m T.toThrowableT) (Ps.map (·.toPassT)) := by
    obtain ⟨P, L', hm, hs⟩ := PassC.ofS_atoms (args := args) (s := s) hpl (X := cls) (Y := Y9) (Bundle.fit_spec hcls).1 (Bundle.fit_spec (hnames Y9 List.mem_cons_self)).2 b0 b1 b2 b5 hP9
    obtain ⟨P', Ps, hlen, L'', hL, hm', hsup, hpass⟩ := Bundle.chainS (args := args) hpl hnZ r9 Y9 (hnames Y9 List.mem_cons_self) (fun n hn => hnames n (List.mem_cons_of_mem _ hn)) hC9
    refine ⟨P, P' :: Ps, by simp [hlen], L', ?_, hm, Option.some.inj (hs.symm.trans hm'), hsup, hpass⟩
    intro Q hQ
    rcases List.mem_cons.mp hQ with rfl | hQ
    · exact L''
    · exact hL Q hQ
  have hfound : s.vm.findClass cls = some P1.m.cls := findClass_of_methodNamed hP1m
  cases Option.some.inj (hfoundX.symm.trans hfound)
  obtain ⟨c1, kX', hc1, hk, hord, -, -, hn6⟩ := Cond.instantiable_spec (a' (.instantiable cls 6) (by simp [Bundle.ownAtoms]) (by simp [Bundle.passSAtoms, hoc]))
  cases Option.some.inj (hc1.symm.trans hfound)
  cases Option.some.inj (hkX.symm.trans hk)
  have hsel0 : selectMethod e.platform s.vm P1.m.cls T.fill0 = .method T.fill0 := by
    obtain ⟨c2, r2, m2, q1, q2, q3, q4, -⟩ := Cond.selects_spec (a' (.selects cls Bundle.tFill0 Bundle.tFill0) (by simp [Bundle.ownAtoms]) (by simp [Bundle.passSAtoms, hoc]))
    cases Option.some.inj (q1.symm.trans hfound)
    cases Option.some.inj (q2.symm.trans (State.methodFound?_of_named Y.fill0 (by decide)))
    cases Option.some.inj (q3.symm.trans Y.fill0)
    rw [Launch.admits_selectMethod X.admits]; exact q4
  have hselF : selectMethod e.platform s.vm P1.m.cls T.fill = .method T.fill := by
    obtain ⟨c2, r2, m2, q1, q2, q3, q4, -⟩ := Cond.selects_spec (a' (.selects cls Bundle.tFill Bundle.tFill) (by simp [Bundle.ownAtoms]) (by simp [Bundle.passSAtoms, hoc]))
    cases Option.some.inj (q1.symm.trans hfound)
    cases Option.some.inj (q2.symm.trans (State.methodFound?_of_named Y.fill (by decide)))
    cases Option.some.inj (q3.symm.trans Y.fill)
    rw [Launch.admits_selectMethod X.admits]; exact q4
  obtain ⟨cellS0, hcS0, hiss⟩ := Y.statics
  obtain ⟨u0, hu0⟩ := Cond.staticRefV Y.unassigned L.unassignedStatic L.statics hcS0 hiss (a' (.isRef (.static Bundle.tN "UNASSIGNED_STACK" Bundle.steD)) (by simp [Bundle.ownAtoms]) (by simp [Bundle.passSAtoms, hoc]))
  obtain ⟨sen, hsen⟩ := Cond.staticRefV Y.sentinel L.sentinelStatic L.statics hcS0 hiss (a' (.isRef (.static Bundle.tN "SUPPRESSED_SENTINEL" Bundle.listD)) (by simp [Bundle.ownAtoms]) (by simp [Bundle.passSAtoms, hoc]))
  obtain ⟨ci198, i198, fB, hk198, hg198, ha198, hsB, -, hnB, htB, hffB⟩ := Cond.ownField (t := .object "java/lang/Object") Y.found L.cls (by decide +kernel) (a' (.fieldLink Bundle.tN 198 Bundle.tN "backtrace" "Ljava/lang/Object;") (by simp [Bundle.ownAtoms]) (by simp [Bundle.passSAtoms, hoc])) (a' (.lays Bundle.tN Bundle.tN "backtrace" "Ljava/lang/Object;") (by simp [Bundle.ownAtoms]) (by simp [Bundle.passSAtoms, hoc])) e.platform hpl
  obtain ⟨cellS, hcS', heS, -, hkeep⟩ := X.same.2.2.2.2.2 T.aS cellS0 hcS0
  have hcellS : W.heap[T.aS]? = some cellS := hcS'
  have hout' : ∀ i, (⟨T.aS, i⟩ : Loc) ∉ locs := fun i hmem => by
    have := hlocs _ hmem cellS0 hcS0
    rw [hiss] at this; cases this
  have hknownS : cellS.vm ≠ .unknown := by
    rw [heS]; intro hu
    rw [show cellS0.vm = .unknown from hu] at hiss
    cases hiss
  have hneS : T.aS ≠ a := Nat.ne_of_lt (Nat.lt_of_lt_of_le (Array.getElem?_eq_some_iff.mp hcS0).1 hnew)
  obtain ⟨iM, hffM⟩ := Y.msg
  obtain ⟨tyC, dC, hdC, hdnC⟩ := Cond.laysAt hfound hk Y.cause (a' (.lays cls Bundle.tN "cause" "Ljava/lang/Throwable;") (by simp [Bundle.ownAtoms]) (by simp [Bundle.passSAtoms, hoc]))
  obtain ⟨tyS, dS, hdS, hdnS⟩ := Cond.laysAt hfound hk Y.stack (a' (.lays cls Bundle.tN "stackTrace" Bundle.steD) (by simp [Bundle.ownAtoms]) (by simp [Bundle.passSAtoms, hoc]))
  obtain ⟨tyP, dP, hdP, hdnP⟩ := Cond.laysAt hfound hk Y.supp (a' (.lays cls Bundle.tN "suppressedExceptions" Bundle.listD) (by simp [Bundle.ownAtoms]) (by simp [Bundle.passSAtoms, hoc]))
  obtain ⟨tyM, dM, hdM, hdnM⟩ := Cond.laysAt hfound hk hffM (a' (.lays cls Bundle.tN "detailMessage" "Ljava/lang/String;") (by simp [Bundle.ownAtoms]) (by simp [Bundle.passSAtoms, hoc]))
  obtain ⟨tyB, dB, hdB, hdnB⟩ := Cond.laysAt hfound hk hffB (a' (.lays cls Bundle.tN "backtrace" "Ljava/lang/Object;") (by simp [Bundle.ownAtoms]) (by simp [Bundle.passSAtoms, hoc]))
  have bC := Cond.laysApart hdB hdC hdnB hdnC (by rw [hnB, Y.causeName]; decide)
  have bS := Cond.laysApart hdB hdS hdnB hdnS (by rw [hnB, Y.stackName]; decide)
  have bP := Cond.laysApart hdB hdP hdnB hdnP (by rw [hnB, Y.suppName]; decide)
  have hskip : SkipFacts T e.platform s (fun u => u) u0 ((preparedCellV T.toThrowableT (freshCell P1.m.cls kX) a u0 sen).withEntry W.cur) :=
    ⟨{ ci198 := ci198, i198 := i198, fBack := fB }, ⟨hk198, hg198, ha198, hsB⟩, by
      have := fresh_default (c := P1.m.cls) tyB
      rw [htB] at this
      simpa [preparedCellV, Cell.setSlot, Cell.withEntry, Array.getElem?_setIfInBounds, bC, bS, bP, bC.symm, bS.symm, bP.symm, defaultValue] using this, fun _ _ => rfl⟩
  obtain ⟨tm, methC, cdC, kC, vm₁, hnC, -, -, -, -, -, -, -, hW₁, st1⟩ := Steps.initColdS (tb := p.tables) (e := e) (below := below) (s := s) (U := W) X.here hexec X.warmed hpl hown (t := Bundle.initS cls) rfl rfl (Bundle.fit_spec hcls).2
    (a' (.methodLink own ic (Bundle.initS cls)) (by simp [Bundle.ownAtoms]) (by simp [Bundle.passSAtoms, hoc])) (hP9 (.instanceMethod (Bundle.initS cls)) (by simp [Bundle.passSAtoms])) (bytes := bx) (maxL := 2) (hP9 (.code (Bundle.initS cls) bx 2 none) (by simp [Bundle.passSAtoms]))
    (f := g) hg (a := a) (msg := msg) (rest := .ref a :: rest) hstack hd6
  cases Option.some.inj (hnC.symm.trans hP1m)
  have X₁ := X.noted hW₁
  obtain ⟨vm₂, X₂, st2⟩ := X₁.ctorMessageOffV hexec (g := { g with stack := .ref a :: rest }) hg hsize T L Z LZ M LM (P1 :: Ps)
    (fun P hP => by rcases List.mem_cons.mp hP with rfl | hP; exact L1; exact hL P hP) ⟨hlink1, hlink⟩ (u0 := u0) (sen := sen) (self := a) hmsg (cell := freshCell P1.m.cls kX) (cellS := cellS)
    hcell (fun _ => by simp) (by simp) rfl rfl hsel0 hselF hcellS hneS hknownS (by rw [hkeep _ (hout' _)]; exact hu0) (by rw [hkeep _ (hout' _)]; exact hsen)
    (Takes.of_laid hk hord tyC (by rw [Y.causeType]; rfl)) (Takes.of_laid hk hord tyS (by rw [Y.stackType]; exact fits_refV_array _ u0)) (Takes.of_laid hk hord tyP (by rw [Y.suppType]; exact fits_refV_object _ sen))
    (Takes.of_laid hk hord tyM (by rw [Y.msgType]; exact fits_refV_object _ ⟨msg, hmsg⟩)) Y.objLocals hskip htr [] hd6
    (by simp only [List.length_cons, hlen]; omega) (by simp only [List.length_cons, hlen]; exact hRlocals)
  have hlt : a < ((W.setVm vm₁).setVm vm₂).heap.size := (Array.getElem?_eq_some_iff.mp hcell).1
  refine ⟨(W.setVm vm₁).setVm vm₂, _, _, X₂, fun y hy => ?_, hlt, rfl, rfl, fun target hwalk => st1 _ (fun acts => ?_)⟩
  · simp only [List.mem_cons, List.not_mem_nil, or_false] at hy
    rcases hy with rfl | rfl | rfl | rfl | rfl <;> rfl
  · rw [doInvoke_state]
    exact st2 _ hwalk
end VXKI
section VXK2I
variable {p : Program} {l : Launch} {e : Env} {R : Room} {s : State} {m : MethodId} {args : Array Value} {below : List Frame} {meth : Method} {c : Code} {H : Heap} {locs : List Loc} {cells slots : Nat} {Q : State → Prop}
variable {ls : Array Slot} {rest : List Value} {D : va_G} {cl : List vw_C} {tys : List (ClassId × FieldType)} {ws : va_W}
theorem vx_makeSWI {cc : ByteArray} {pc : Nat} (hexec : p.tables.exec = Jvm.exec) (hb : c.code = cc) (hl : l.stackTraces = false) {own cls text : String} {Y9 : String} {r9 : List String} {ix : Nat} {bx : ByteArray} (hoc : own ≠ cls) (b0 : decode bx 0 = .ok (.aload_n 0, 1)) (b1 : decode bx 1 = .ok (.aload_n 1, 1)) (b2 : decode bx 2 = .ok (.invokespecial ix, 3)) (b5 : decode bx 5 = .ok (.return_, 1)) {ik is ic sa ci : Nat} {A : Nat → Prop} {T0 : u_T}
    (hown : s.vm.findClass own = some m.cls) (hcls : Bundle.fit cls = true) (hnames : ∀ n ∈ Y9 :: r9, Bundle.fit n = true)
    (hk : (Cond.classLink own ik cls).before args s = true) (hini : (Cond.initialized cls).before args s = true) (hstr : vk_R own is text sa s) (hat : ∀ w ∈ vx_atI own ic cls Y9 r9 ix bx, w.before args s = true)
    (hgood : ∀ w ∈ Cond.classLink own ik cls :: Cond.initialized cls :: vx_atI own ic cls Y9 r9 ix bx, vx_ot w = true)
    (hU : vx_Zq Bundle.tN "UNASSIGNED_STACK" Bundle.steD A s s.heap) (hN : vx_Zq Bundle.tN "SUPPRESSED_SENTINEL" Bundle.listD A s s.heap) (hS : va_S A s.heap H locs) (hsize : ls.size = c.maxLocals)
    (d0 : decode cc pc = .ok (.new ik, 3)) (d3 : decode cc (pc + 3) = .ok (.dup, 1)) (d4 : decode cc (pc + 4) = .ok (.ldc_w is, 3)) (d6 : decode cc (pc + 7) = .ok (.invokespecial ic, 3))
    (hK : va_K D cl tys s) (hP : va_P D cl ws H) (hD : va_D A ws) (hA : ∀ q, s.heap.size ≤ q → A q) (hc : cl[ci]? = some (cls, T0, 0))
    (hRframes : (r9.length + 1) + 3 < R.frames) (hRlocals : (rest.map fun v => v.category).sum + (13 * ((r9.length + 1) + 1) + 43) ≤ R.locals) (hRcells : cells + 1 ≤ R.cells) (hRslots : slots + 6 ≤ R.slots)
    (kk : ∀ (q : Nat) (H1 : Heap), va_P D cl (ws ++ [(q, .inr (ci, []))]) H1 → va_D A (ws ++ [(q, .inr (ci, []))]) → va_S A s.heap H1 locs → W p l e R s m args below meth c H1 locs (cells + 1) (slots + 6) Q (F0 m (pc + 10) ls (.ref q :: rest))) :
    W p l e R s m args below meth c H locs cells slots Q (F0 m pc ls rest) := by
  intro T hT X
  subst hT
  have htr : e.platform.stackTraces = false := (show e.platform.stackTraces = l.stackTraces by rw [X.admits.platform]).trans hl
  have Y := vx_rebase X (R' := { frames := R.frames, locals := R.locals, cells := 1, slots := 6 }) (Nat.le_refl _) (Nat.le_refl _) hRcells hRslots
  obtain ⟨s', hA'⟩ : ∃ z, z = (T.setVm s.vm).setFrames (.invoking m args :: below) := ⟨_, rfl⟩
  rw [← hA'] at Y
  have hvm : s'.vm = s.vm := by rw [hA']; rfl
  have hhp : s'.heap = T.heap := by rw [hA']; rfl
  have hW0 : s.WarmedH s'.vm := by rw [hvm]; exact State.WarmedH.refl s
  have hat' : ∀ w ∈ vx_atI own ic cls Y9 r9 ix bx, w.before args s' = true := fun w hw => vx_ot_at hW0 hvm.symm (hgood w (List.mem_cons_of_mem _ (List.mem_cons_of_mem _ hw))) (hat w hw)
  have hk' : (Cond.classLink own ik cls).before args s' = true := vx_ot_at hW0 hvm.symm (hgood _ List.mem_cons_self) hk
  have hini' : (Cond.initialized cls).before args s' = true := vx_ot_at hW0 hvm.symm (hgood _ (List.mem_cons_of_mem _ List.mem_cons_self)) hini
  have hU' : vx_Zq Bundle.tN "UNASSIGNED_STACK" Bundle.steD A s' s'.heap := by rw [hhp]; exact vx_Zq.moved hW0.alike (hU.kept hS.2.1)
  have hN' : vx_Zq Bundle.tN "SUPPRESSED_SENTINEL" Bundle.listD A s' s'.heap := by rw [hhp]; exact vx_Zq.moved hW0.alike (hN.kept hS.2.1)
  have h : ∀ w ∈ Bundle.ownAtoms own ic cls (Y9 :: r9), w ∉ Bundle.passSAtoms cls Y9 7 Bundle.six → w.before args s' = true := by
    intro w hw hn
    refine vx_own (L := w :: []) (fun w' hw' => ?_) (vx_isRefq hU'.1) (vx_isRefq hN'.1) hU'.2.word hN'.2.word w List.mem_cons_self
    obtain ⟨hw1, hw2⟩ := List.mem_filter.mp hw'
    rw [List.mem_singleton] at hw1
    subst hw1
    exact hat' w' (List.mem_append_right _ (List.mem_filter.mpr ⟨List.mem_filter.mpr ⟨hw, hw2⟩, decide_eq_true hn⟩))
  have hP9 : ∀ w ∈ Bundle.passSAtoms cls Y9 ix bx, w.before args s' = true := fun w hw => hat' w (List.mem_append_left _ (List.mem_append_left _ (List.mem_append_left _ (List.mem_append_left _ hw))))
  have hC9 : ∀ w ∈ Bundle.chainSAtoms Y9 r9, w.before args s' = true := fun w hw => hat' w (List.mem_append_left _ (List.mem_append_left _ (List.mem_append_left _ (List.mem_append_right _ hw))))
  have hT9 : ∀ w ∈ Bundle.throwableAtoms, w.before args s' = true := by
    intro w hw
    refine vx_own (L := w :: []) (fun w' hw' => ?_) (vx_isRefq hU'.1) (vx_isRefq hN'.1) hU'.2.word hN'.2.word w List.mem_cons_self
    obtain ⟨hw1, hw2⟩ := List.mem_filter.mp hw'
    rw [List.mem_singleton] at hw1
    subst hw1
    exact hat' w' (List.mem_append_left _ (List.mem_append_left _ (List.mem_append_right _ (List.mem_filter.mpr ⟨hw, hw2⟩))))
  have hTS9 : ∀ w ∈ Bundle.throwableSAtoms, w.before args s' = true := fun w hw => hat' w (List.mem_append_left _ (List.mem_append_right _ hw))
  have hown' : s'.vm.findClass own = some m.cls := by rw [hvm]; exact hown
  have hins : (Cond.instantiable cls 6).before args s' = true := h _ (by simp [Bundle.ownAtoms]) (by simp [Bundle.passSAtoms])
  obtain ⟨vm₁, cX, kX, hfX, hkX, -, -, X₁, st1⟩ := Y.newCold hexec (own := own) (C := cls) (index := ik) (n := 6) hown' hk' hins hini'
    (g := F0 m pc ls rest) rfl (by rw [hb]; exact d0) (Nat.le_refl _) (Nat.le_refl _)
  generalize hT1 : (T.setVm vm₁).pushCell { cls := cX, slots := kX.instanceTypes.map defaultValue, vm := .none } = T1 at X₁ st1
  have hcat : (Value.ref T.heap.size).category = 1 := rfl
  have hcellA : T1.heap[T.heap.size]? = some (freshCell cX kX) := by rw [← hT1]; exact State.heap_pushCell_size _ _
  have d3' : decode c.code (pc + 3) = .ok (.dup, 1) := by rw [hb]; exact d3
  have d4' : decode c.code (pc + 4) = .ok (.ldc_w is, 3) := by rw [hb]; exact d4
  have hstr' : vk_R own is text sa s' := vk_R.warm hW0 hstr
  obtain ⟨V, ce, L, Z, hL, hlt, hcl9, hvm9, st⟩ := vx_ctorMadeSI X₁ hexec htr (own := own) (cls := cls) (Y9 := Y9) (r9 := r9) (ic := ic) (ix := ix) (bx := bx) hoc b0 b1 b2 b5 hT9 hTS9 hP9 hC9 hown' hcls hnames h (fun x hx => nomatch hx) hfX hkX hcellA (by rw [hhp]; exact Nat.le_refl _) (msg := .ref sa) rfl
    (g := { method := m, pc := pc + 7, locals := ls, stack := .ref sa :: .ref T.heap.size :: .ref T.heap.size :: rest, locked := none }) rfl hsize (rest := rest) rfl
    (by rw [hb]; exact d6) hRframes (by simp only [List.map_cons, List.sum_cons, hcat]; omega)
  have Z0 := Stand.forget (locs := []) Z (fun y hy => by rw [hL y hy, hhp]; exact Nat.le_refl _)
  obtain ⟨f1, f2⟩ := vx_frame Z0.same
  rw [hhp] at f1 f2
  have hcid : ce.cls = D.1 ci := by
    rw [hcl9]
    have h1 := (hK.1 ci _ hc).2.1
    rw [hvm] at hfX
    exact Option.some.inj (hfX.symm.trans h1)
  have hh : (V.setCell T.heap.size ce).heap[T.heap.size]? = some ce := heapAt_setCell_self (s := V) ce hlt
  subst hA'
  have X5 := vx_back9 X Y Z0
  have X6 : Stand p l e R s m args below meth c (V.setCell T.heap.size ce) locs (cells + 1) (slots + 6) := { X5 with same := X5.same.mono (by omega) (by omega) }
  have hk9 : ∀ (k : Nat) (x : Nat × va_E), ws[k]? = some x → (V.setCell T.heap.size ce).heap[x.1]? = T.heap[x.1]? := fun k x hx => f2 x.1 ((hP k x hx).lt) (fun z hz => nomatch hz)
  obtain ⟨t, a1, b1⟩ := kk T.heap.size (V.setCell T.heap.size ce).heap ((hP.kept hk9).app (fun k x hx => by
      have hz : k < 1 := (List.getElem?_eq_some_iff.mp hx).1
      rw [show k = 0 by omega] at hx
      cases hx
      exact ⟨_, hc, ce, hh, hcid, hvm9, fun k hk => absurd hk (Nat.not_lt_zero k)⟩)) (hD.push hP rfl (hA _ hS.1)) ⟨Nat.le_trans hS.1 f1, fun q h1 h2 => (f2 q (Nat.lt_of_lt_of_le h1 hS.1) (fun z hz => nomatch hz)).trans (hS.2.1 q h1 h2), hS.2.2⟩ _ rfl X6
  refine ⟨t, st1 _ ?_, b1⟩
  show Steps p.tables e below (T1.setTop { method := m, pc := pc + 3, locals := ls, stack := .ref T.heap.size :: rest, locked := none }) _
  jvm_step X₁.here [X₁.here.top, hexec, d3', Value.category]
  exact X₁.ldcStringW hexec (own := own) (text := text) (index := is) (a := sa) hown' hstr'.1 hstr'.2
    (g := { method := m, pc := pc + 4, locals := ls, stack := .ref T.heap.size :: .ref T.heap.size :: rest, locked := none }) rfl d4' _ (st _ a1)
end VXK2I
section RMI
variable {l : Launch} {s0 : State} {b L : Nat} {xs : Nat → Int32} {D : va_G} {cy : Nat → ClassId} {ad : Nat → Nat} {d : Nat} {I : MI} {pc : Nat} {lo st : List Value} {M M' : Mm} {res : Rs}
theorem r_throwI (G : GG l s0 b L xs D cy ad) {ik is ic ci si : Nat} {cls : String} {Y9 : String} {r9 : List String} {ix : Nat} {bx : ByteArray} (hoc : I.1.cls ≠ cls) (b0 : decode bx 0 = .ok (.aload_n 0, 1)) (b1 : decode bx 1 = .ok (.aload_n 1, 1)) (b2 : decode bx 2 = .ok (.invokespecial ix, 3)) (b5 : decode bx 5 = .ok (.return_, 1)) (hcls : Bundle.fit cls = true) (hnames : ∀ n ∈ Y9 :: r9, Bundle.fit n = true) (hk : Cond.classLink I.1.cls ik cls ∈ lw_tbl) (hini : Cond.initialized cls ∈ lw_tbl) (hsi : strIn I.1.cls is si)
    (hat : ∀ w ∈ vx_atI I.1.cls ic cls Y9 r9 ix bx, w ∈ lw_tbl ∧ (w.onTables && w.keepsFace) = true) (hci : clX[ci]? = some (cls, tX 0, 0)) (hnl : r9.length = 1) (hd8 : 8 ≤ d) (hw8 : (st.map (fun v => v.category)).sum ≤ 8)
    (d0 : decode I.2.1 pc = .ok (.new ik, 3)) (d3 : decode I.2.1 (pc + 3) = .ok (.dup, 1)) (d4 : decode I.2.1 (pc + 4) = .ok (.ldc_w is, 3)) (d7 : decode I.2.1 (pc + 7) = .ok (.invokespecial ic, 3)) (d10 : decode I.2.1 (pc + 10) = .ok (.athrow, 1)) (hno : Nocov I.2.2.2.2 (pc + 10)) :
    Run l s0 D cy ad d I pc lo st M (.inr cls) (sX M) := by
  have c1 : zC (sX M) = zC M + 1 := by show zN M + (zX M + 1) = (zN M + zX M) + 1; omega
  have c2 : zS (sX M) = zS M + 6 := rfl
  refine ⟨⟨by omega, by omega, fun h => by exact absurd h (Nat.succ_ne_zero _)⟩, ?_⟩
  intro p e R s m args below meth c0 H locs ls k0 z0 Q F hW hl hn hS hR g1 g2 kr kx
  have hWa := F.2.2.2.2.2.2.2.1
  have hq := F.2.2.2.2.2.2.2.2.1
  have hU := zq_at hWa hq (G.2.2.2.2.2.2.2.2.1 _ _ _ (Or.inl rfl))
  have hN := zq_at hWa hq (G.2.2.2.2.2.2.2.2.1 _ _ _ (Or.inr rfl))
  have hstr : vk_R I.1.cls is (strT si).2.2 (ad (100001 + si)) s := by
    have := vk_R.warm hWa (G.2.2.2.2.2.2.2.2.2.1 si hsi.1)
    rw [hsi.2.1, hsi.2.2] at this
    exact this
  have hgood : ∀ w ∈ Cond.classLink I.1.cls ik cls :: Cond.initialized cls :: vx_atI I.1.cls ic cls Y9 r9 ix bx, vx_ot w = true := by
    intro w hw
    rcases List.mem_cons.mp hw with rfl | hw
    · rfl
    · rcases List.mem_cons.mp hw with rfl | hw
      · rfl
      · have := (hat w hw).2
        rw [Bool.and_eq_true] at this
        show (w.onTables || goodWord w) = true
        rw [this.1, Bool.true_or]
  have hw9 : ((st.map (gv ad)).map (fun v => v.category)).sum ≤ 8 := by
    rw [List.map_map]
    have : ((fun v : Value => v.category) ∘ gv ad) = fun v => v.category := by funext v; exact gv_cat v
    rw [this]; exact hw8
  refine vx_makeSWI F.1 F.2.1 G.1 hoc b0 b1 b2 b5 F.2.2.2.2.1 hcls hnames (gwm G hWa hk rfl args) (gwm G hWa hini w_ini args) hstr (fun w hw => gwf G hWa (hat w hw).1 (hat w hw).2 args) hgood hU hN hS (by rw [F.2.2.1]; exact hl.1.trans hn) d0 d3 d4 d7 (gK G hWa) hW.2 (gD G hW.1) (fun q hq => Nat.le_trans F.2.2.2.2.2.2.2.2.2.1 hq) hci (by omega) (by omega) (by omega) (by omega) (fun q H1 hP hD hS1 => ?_)
  refine vx_athrow F.1 F.2.1 d10 ?_
  have hPl : va_P D clX (pool cy ad (sX M)) H1 := by
    intro k x hx
    have hx : (pool cy ad M)[k]? = some x := hx
    exact hP k x (by rw [List.getElem?_append_left (List.getElem?_eq_some_iff.mp hx).1]; exact hx)
  obtain ⟨r, h1, cell, q1, q2, q3, -⟩ := hP (pool cy ad M).length (q, .inr (ci, [])) (by rw [List.getElem?_append_right (Nat.le_refl _), Nat.sub_self]; rfl)
  have hcl : s.vm.findClass cls = some cell.cls := by rw [q2]; exact ((gK G hWa).1 ci _ hci).2.1
  have K := kx cls (pc + 10) ls (st.map (gv ad)) H1 locs q cell rfl hno ⟨hW.1, hPl⟩ hS1 q1 q3 hcl
  rw [show zC M - k0 + 1 = zC (sX M) - k0 by omega, show zS M - z0 + 6 = zS (sX M) - z0 by omega]
  exact K
end RMI
theorem all_mem {L1 L2 : List Cond} (h : L1.all (fun w => decide (w ∈ L2) && (w.onTables && w.keepsFace)) = true) : ∀ w ∈ L1, w ∈ L2 ∧ (w.onTables && w.keepsFace) = true := by
  intro w hw
  have := List.all_eq_true.mp h w hw
  rw [Bool.and_eq_true] at this
  exact ⟨of_decide_eq_true this.1, this.2⟩
section NT
variable {l : Launch} {s0 : State} {b L : Nat} {xs : Nat → Int32} {D : va_G} {cy : Nat → ClassId} {ad : Nat → Nat} {P : Nat → Prop} {d : Nat} {lo : List Value} {M : Mm}
theorem fit_RE : ∀ n ∈ ["java/lang/RuntimeException", "java/lang/Exception"], Bundle.fit n = true := by decide +kernel
theorem thr_X9_needArgument (G : GG l s0 b L xs D cy ad) (hd8 : 8 ≤ d) : Rn l s0 D cy ad P d KX9_needArgument 14 lo [] M (.inr "java/lang/IllegalArgumentException") (sX M) :=
  n_throw G (ik := 359) (is := 361) (ic := 363) (ci := 11) (si := 3) (names := ["java/lang/RuntimeException", "java/lang/Exception"]) (by decide +kernel) fit_RE (tin3 (List.mem_of_getElem? (i := 91) rfl)) (tin1 (List.mem_of_getElem? (i := 16) rfl)) ⟨by decide, rfl, rfl⟩ (all_mem (by decide +kernel)) rfl rfl hd8 (Nat.le_of_ble_eq_true rfl) (by decide +kernel) (by decide +kernel) (by decide +kernel) (by decide +kernel) (by decide +kernel) (fun z hz => nomatch hz)
theorem thr_X9_needCell (G : GG l s0 b L xs D cy ad) (hd8 : 8 ≤ d) : Rn l s0 D cy ad P d KX9_needCell 40 lo [] M (.inr "java/lang/IndexOutOfBoundsException") (sX M) :=
  n_throw G (ik := 366) (is := 368) (ic := 370) (ci := 12) (si := 4) (names := ["java/lang/RuntimeException", "java/lang/Exception"]) (by decide +kernel) fit_RE (tin5 (List.mem_of_getElem? (i := 135) rfl)) (tin1 (List.mem_of_getElem? (i := 25) rfl)) ⟨by decide, rfl, rfl⟩ (all_mem (by decide +kernel)) rfl rfl hd8 (Nat.le_of_ble_eq_true rfl) (by decide +kernel) (by decide +kernel) (by decide +kernel) (by decide +kernel) (by decide +kernel) (fun z hz => nomatch hz)
theorem thr_X9_needStone (G : GG l s0 b L xs D cy ad) (hd8 : 8 ≤ d) : Rn l s0 D cy ad P d KX9_needStone 25 lo [] M (.inr "java/util/NoSuchElementException") (sX M) :=
  fun hL => ⟨r_throwI G (ik := 371) (is := 373) (ic := 375) (ci := 13) (si := 5) (Y9 := "java/lang/RuntimeException") (r9 := ["java/lang/Exception"]) (ix := 13) (bx := prog_31_method_4_code) (by decide +kernel) (by decide +kernel) (by decide +kernel) (by decide +kernel) (by decide +kernel) (by decide +kernel) fit_RE (tin5 (List.mem_of_getElem? (i := 100) rfl)) (tin1 (List.mem_of_getElem? (i := 24) rfl)) ⟨by decide, rfl, rfl⟩ (all_mem (by decide +kernel)) rfl rfl hd8 (Nat.le_of_ble_eq_true rfl) (by decide +kernel) (by decide +kernel) (by decide +kernel) (by decide +kernel) (by decide +kernel) (fun z hz => nomatch hz), hL.sX⟩
end NT
