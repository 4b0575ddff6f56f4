/-! rules: throwing and catching, calls of methods with a table, copying of rows, constants, the script, texts -/
def strIn (own : String) (idx i : Nat) : Prop := i < 6 ∧ (strT i).1 = own ∧ (strT i).2.1 = idx
section RM
variable {l : Launch} {s0 : State} {b L : Nat} {xs : Nat → Int32} {D : va_G} {cy : Nat → ClassId} {ad : Nat → Nat} {d : Nat} {I : MI} {pc : Nat} {lo st : List Value} {M M' : Mm} {res : Rs}
theorem gwf {s : State} (G : GG l s0 b L xs D cy ad) (hW : s0.WarmedH s.vm) {w : Cond} (hi : w ∈ lw_tbl) (hk : (w.onTables && w.keepsFace) = true) (args : Array Value) : w.before args s = true := by
  rw [Bool.and_eq_true] at hk
  exact va_tabs hk.1 (rfl : (s0.setVm s.vm).vm = s.vm) (Cond.before_shiftedFace (State.Shifted.of_warmed hW) w hk.2 (G.2.1 w hi))
theorem zq_at {s : State} (hW : s0.WarmedH s.vm) (hq : ∀ q : Nat, q < s0.heap.size → s.heap[q]? = s0.heap[q]?) {C n dd : String} (h : vx_Zq C n dd (AF s0) s0 s0.heap) : vx_Zq C n dd (AF s0) s s.heap := vx_Zq.moved hW.alike (h.kept (fun a ha _ => hq a ha))
theorem r_throw (G : GG l s0 b L xs D cy ad) {ik is ic ci si : Nat} {cls : String} {names : List String} (hcls : Bundle.fit cls = true) (hnames : ∀ n ∈ names, Bundle.fit n = true) (hk : Cond.classLink I.1.cls ik cls ∈ lw_tbl) (hini : Cond.initialized cls ∈ lw_tbl) (hsi : strIn I.1.cls is si)
    (hat : ∀ w ∈ vx_atS I.1.cls ic cls names, w ∈ lw_tbl ∧ (w.onTables && w.keepsFace) = true) (hci : clX[ci]? = some (cls, tX 0, 0)) (hnl : names.length = 2) (hd8 : 8 ≤ d) (hw8 : (st.map (fun v => v.category)).sum ≤ 8)
    (d0 : decode I.2.1 pc = .ok (.new ik, 3)) (d3 : decode I.2.1 (pc + 3) = .ok (.dup, 1)) (d4 : decode I.2.1 (pc + 4) = .ok (.ldc_w is, 3)) (d7 : decode I.2.1 (pc + 7) = .ok (.invokespecial ic, 3)) (d10 : decode I.2.1 (pc + 10) = .ok (.athrow, 1)) (hno : Nocov I.2.2.2.2 (pc + 10)) :
    Run l s0 D cy ad d I pc lo st M (.inr cls) (sX M) := by
  have c1 : zC (sX M) = zC M + 1 := by show zN M + (zX M + 1) = (zN M + zX M) + 1; omega
  have c2 : zS (sX M) = zS M + 6 := rfl
  refine ⟨⟨by omega, by omega, fun h => by exact absurd h (Nat.succ_ne_zero _)⟩, ?_⟩
  intro p e R s m args below meth c0 H locs ls k0 z0 Q F hW hl hn hS hR g1 g2 kr kx
  have hWa := F.2.2.2.2.2.2.2.1
  have hq := F.2.2.2.2.2.2.2.2.1
  have hU := zq_at hWa hq (G.2.2.2.2.2.2.2.2.1 _ _ _ (Or.inl rfl))
  have hN := zq_at hWa hq (G.2.2.2.2.2.2.2.2.1 _ _ _ (Or.inr rfl))
  have hstr : vk_R I.1.cls is (strT si).2.2 (ad (100001 + si)) s := by
    have := vk_R.warm hWa (G.2.2.2.2.2.2.2.2.2.1 si hsi.1)
    rw [hsi.2.1, hsi.2.2] at this
    exact this
  have hgood : ∀ w ∈ Cond.classLink I.1.cls ik cls :: Cond.initialized cls :: vx_atS I.1.cls ic cls names, vx_ot w = true := by
    intro w hw
    rcases List.mem_cons.mp hw with rfl | hw
    · rfl
    · rcases List.mem_cons.mp hw with rfl | hw
      · rfl
      · have := (hat w hw).2
        rw [Bool.and_eq_true] at this
        show (w.onTables || goodWord w) = true
        rw [this.1, Bool.true_or]
  have hw9 : ((st.map (gv ad)).map (fun v => v.category)).sum ≤ 8 := by
    rw [List.map_map]
    have : ((fun v : Value => v.category) ∘ gv ad) = fun v => v.category := by funext v; exact gv_cat v
    rw [this]; exact hw8
  refine vx_makeSW F.1 F.2.1 G.1 F.2.2.2.2.1 hcls hnames (gwm G hWa hk rfl args) (gwm G hWa hini w_ini args) hstr (fun w hw => gwf G hWa (hat w hw).1 (hat w hw).2 args) hgood hU hN hS (by rw [F.2.2.1]; exact hl.1.trans hn) d0 d3 d4 d7 (gK G hWa) hW.2 (gD G hW.1) (fun q hq => Nat.le_trans F.2.2.2.2.2.2.2.2.2.1 hq) hci (by omega) (by omega) (by omega) (by omega) (fun q H1 hP hD hS1 => ?_)
  refine vx_athrow F.1 F.2.1 d10 ?_
  have hPl : va_P D clX (pool cy ad (sX M)) H1 := by
    intro k x hx
    have hx : (pool cy ad M)[k]? = some x := hx
    exact hP k x (by rw [List.getElem?_append_left (List.getElem?_eq_some_iff.mp hx).1]; exact hx)
  obtain ⟨r, h1, cell, q1, q2, q3, -⟩ := hP (pool cy ad M).length (q, .inr (ci, [])) (by rw [List.getElem?_append_right (Nat.le_refl _), Nat.sub_self]; rfl)
  have hcl : s.vm.findClass cls = some cell.cls := by rw [q2]; exact ((gK G hWa).1 ci _ hci).2.1
  have K := kx cls (pc + 10) ls (st.map (gv ad)) H1 locs q cell rfl hno ⟨hW.1, hPl⟩ hS1 q1 q3 hcl
  rw [show zC M - k0 + 1 = zC (sX M) - k0 by omega, show zS M - z0 + 6 = zS (sX M) - z0 by omega]
  exact K
end RM
