/-! rule: multianewarray of two dimensions -/
def sRw : Nat → Nat → Mm → Mm
  | 0, _, M => M
  | n + 1, k, M => sRw n k (sN M 12 k k)
def sMo (M : Mm) (n : Nat) : Mm := ((zN M + 1, zX M, zS M + n), u1 (sh M) (zN M) 14, u1 (ln M) (zN M) n, u1 (mi M) (zN M) (fun _ => 0), u1 (ml M) (zN M) (fun _ => 0), u1 (mr M) (zN M) (fun i => if i < n then some (zN M + 1 + i) else none))
def sMu (M : Mm) (n k : Nat) : Mm := sRw n k (sMo M n)
theorem sRw_N {n k : Nat} {M : Mm} : zN (sRw n k M) = zN M + n ∧ zX (sRw n k M) = zX M ∧ zS (sRw n k M) = zS M + n * k := by
  induction n generalizing M with
  | zero => exact ⟨rfl, rfl, by rw [Nat.zero_mul]; rfl⟩
  | succ n ih =>
    obtain ⟨h1, h2, h3⟩ := ih (M := sN M 12 k k)
    refine ⟨?_, h2, ?_⟩
    · show zN (sRw n k (sN M 12 k k)) = _
      rw [h1]; show zN M + 1 + n = _; omega
    · show zS (sRw n k (sN M 12 k k)) = _
      rw [h3, Nat.succ_mul]; show zS M + k + n * k = _; omega
theorem gao {l : Launch} {s0 s : State} {b L : Nat} {xs : Nat → Int32} {D : va_G} {cy : Nat → ClassId} {ad : Nat → Nat} (G : GG l s0 b L xs D cy ad) (hW : s0.WarmedH s.vm) (hi : Cond.arrayOver (.array .int) ∈ lw_tbl) (args : Array Value) : (Cond.arrayOver (.array .int)).before args s = true := by
  have h2 := Cond.arrayOver_setVmC (args := #[.ref b]) (s := s0) (vm' := s.vm) hW.alike (.array .int)
  rw [G.2.1 _ hi] at h2
  exact h2
section RMu
variable {l : Launch} {s0 : State} {b L : Nat} {xs : Nat → Int32} {D : va_G} {cy : Nat → ClassId} {ad : Nat → Nat} {d : Nat} {I : MI} {pc : Nat} {lo st : List Value} {M M' : Mm} {res : Rs}
theorem ent_row {k : Nat} {M : Mm} : ent cy ad (sN M 12 k k) (zN M) = .inl (cy 12, k, .inl (fun _ => 0)) := by
  have h1 : sh (sN M 12 k k) (zN M) = 12 := u1_same _ _ _
  have h2 : ln (sN M 12 k k) (zN M) = k := u1_same _ _ _
  have h3 : mi (sN M 12 k k) (zN M) = fun _ => 0 := u1_same _ _ _
  rw [ent_i h1, h2, h3]
theorem pool_rows {n k : Nat} {M : Mm} : pool cy ad (sRw n k M) = pool cy ad M ++ (List.range n).map (fun i => (ad (zN M + i), .inl (cy 12, k, .inl (fun _ => 0)))) := by
  induction n generalizing M with
  | zero => exact (List.append_nil _).symm
  | succ n ih =>
    show pool cy ad (sRw n k (sN M 12 k k)) = _
    rw [ih, ← pool_new (M := M) (M1 := sN M 12 k k) rfl ent_row (fun j hj => sN_off hj), List.append_assoc, List.range_succ_eq_map, List.map_cons, List.map_map]
    refine congrArg _ (congr (congrArg _ rfl) (List.map_congr_left fun i _ => ?_))
    show (ad (zN M + 1 + i), _) = (ad (zN M + (i + 1)), _)
    rw [show zN M + 1 + i = zN M + (i + 1) by omega]
theorem sMo_off {n j : Nat} {M : Mm} (hj : j < zN M) : ent cy ad (sMo M n) j = ent cy ad M j := by
  have h : j ≠ zN M := by omega
  have e1 : sh (sMo M n) j = sh M j := u1_ne h
  have e2 : ln (sMo M n) j = ln M j := u1_ne h
  have e3 : mi (sMo M n) j = mi M j := u1_ne h
  have e4 : ml (sMo M n) j = ml M j := u1_ne h
  have e5 : mr (sMo M n) j = mr M j := u1_ne h
  unfold ent fvs fv
  rw [e1, e2, e3, e4, e5]
theorem r_multi (G : GG l s0 b L xs D cy ad) {idx N K a : Nat} {n k : Int32} (hz9 : zN M = a) (hL : Cond.classLink I.1.cls idx "[[I" ∈ lw_tbl) (hO : Cond.arrayOver (.array .int) ∈ lw_tbl) (hA : Cond.arrayClass .int ∈ lw_tbl) (hn0 : ¬ n < 0) (hk0 : ¬ k < 0) (hN : n.toNatClampNeg = N) (hK : k.toNatClampNeg = K) (hN9 : N ≤ 60000) (hK9 : K ≤ 60000) (hx0 : zX M = 0) (hn9 : zN M + N < 99999) (hd : decode I.2.1 pc = .ok (.multianewarray idx 2, 4)) (k9 : Run l s0 D cy ad d I (pc + 4) lo (.ref a :: st) (sMu M N K) res M') : Run l s0 D cy ad d I pc lo (.int k :: .int n :: st) M res M' := by
  subst hz9
  obtain ⟨hm, k9⟩ := k9
  have hR1 := sRw_N (n := N) (k := K) (M := sMo M N)
  have c1 : zC (sMu M N K) = zC M + 1 + N := by
    show zN (sRw N K (sMo M N)) + zX (sRw N K (sMo M N)) = _
    rw [hR1.1, hR1.2.1]
    show zN M + 1 + N + zX M = zN M + zX M + 1 + N
    omega
  have c2 : zS (sMu M N K) = zS M + N + N * K := hR1.2.2
  have c3 : zN (sMu M N K) = zN M + 1 + N := hR1.1
  refine ⟨⟨by omega, by omega, fun _ => hx0⟩, ?_⟩
  intro p e R s m args below meth c0 H locs ls k0 z0 Q F hW hl hn hS hR g1 g2 kr kx
  have hWa := F.2.2.2.2.2.2.2.1
  have hz4 : ∀ a : Nat, a < 100000 → ad a = s0.heap.size + a := G.2.2.2.1
  subst hN
  subst hK
  intro T hT Xs
  obtain ⟨vm₁, cA, comp, -, fA, fC, -, -, X', step⟩ := Xs.multianewarray2F (index := idx) (ty := .int) F.1 F.2.2.2.2.1 (gwm G hWa hL rfl args) (gao G hWa hO args) (gwm G hWa hA rfl args) (g := F0 m pc ls (.int k :: .int n :: st.map (gv ad))) rfl (by rw [F.2.1]; exact hd) (n := n) (k := k) (rest := st.map (gv ad)) rfl hn0 hk0 (by omega) (by show k.toNatClampNeg * 4 ≤ _; omega) (by omega) rfl rfl (by omega) (by omega)
  have eC : cy 12 = comp := Option.some.inj (Eq.trans (Eq.symm ((gK G hWa).2 1 _ rfl).2) fC)
  have eA : cy 14 = cA := Option.some.inj (Eq.trans (Eq.symm ((gK G hWa).2 3 _ rfl).2) fA)
  subst eC
  subst eA
  generalize hF : Jvm.Free.Multi.fill (T.setVm vm₁) (cy 14) (cy 12) n.toNatClampNeg k.toNatClampNeg (defaultValue .int) n.toNatClampNeg = F9 at X' step
  have hTh : (T.setVm vm₁).heap = H := hT
  obtain ⟨f1, f2, -, -⟩ := Jvm.Free.Multi.fill_facts (T.setVm vm₁) (cy 14) (cy 12) n.toNatClampNeg k.toNatClampNeg (defaultValue .int) n.toNatClampNeg
  rw [hF, hTh] at f1 f2
  have hold : ∀ x : Nat, x < H.size → F9.heap[x]? = H[x]? := fun x hx => by
    have := Jvm.Free.Multi.fill_old (T.setVm vm₁) (cy 14) (cy 12) n.toNatClampNeg k.toNatClampNeg (defaultValue .int) (a := x) (by rw [hTh]; exact hx) n.toNatClampNeg
    rw [hF, hTh] at this
    exact this
  have hzi : Jvm.Free.Multi.innerC (cy 12) k.toNatClampNeg (defaultValue .int) = vp_cell (cy 12) (k.toNatClampNeg, .inl (fun _ => 0)) := by
    show ({ cls := cy 12, slots := Array.replicate k.toNatClampNeg (.int 0), vm := .none } : Cell) = _
    rw [arrV_new]
    rfl
  have hrow : ∀ j : Nat, j < n.toNatClampNeg → F9.heap[H.size + 1 + j]? = some (vp_cell (cy 12) (k.toNatClampNeg, .inl (fun _ => 0))) := fun j hj => by
    have := Jvm.Free.Multi.fill_inner (T.setVm vm₁) (cy 14) (cy 12) n.toNatClampNeg k.toNatClampNeg (defaultValue .int) n.toNatClampNeg j hj
    rw [hF, hTh, hzi] at this
    exact this
  have hout : Jvm.Free.Multi.outerC (cy 14) n.toNatClampNeg H.size n.toNatClampNeg = vp_cell (cy 14) (n.toNatClampNeg, .inr (.inr (.inr (.inr (fun i => if i < n.toNatClampNeg then some (H.size + 1 + i) else none))))) := by
    rw [vp_cell_q]
    exact vr_outer (cy 14) n.toNatClampNeg H.size n.toNatClampNeg
  rw [hout] at f2
  have hsz : H.size = s0.heap.size + zN M := by
    have up : H.size ≤ s0.heap.size + zN M := by
      have h9 := Xs.heapSize
      rw [hT] at h9
      have := g1.2 hx0
      have : zC M = zN M := by unfold zC; omega
      omega
    have lo9 : s0.heap.size + zN M ≤ H.size := by
      rcases Nat.eq_zero_or_pos (zN M) with h | h
      · have := F.2.2.2.2.2.2.2.2.2.1
        have := hS.1
        omega
      · have h8 := (hW.2 _ _ (pool_at (cy := cy) (ad := ad) (a := zN M - 1) (by omega))).lt
        have h8 : ad (zN M - 1) < H.size := h8
        rw [hz4 _ (by omega)] at h8
        omega
    omega
  have hmap : (fun i => (if i < n.toNatClampNeg then some (zN M + 1 + i) else none : Option Nat).map ad) = fun i => if i < n.toNatClampNeg then some (H.size + 1 + i) else none := by
    funext i
    by_cases h : i < n.toNatClampNeg
    · rw [if_pos h, if_pos h]
      show some (ad (zN M + 1 + i)) = _
      rw [hz4 _ (by omega), hsz]
      exact congrArg some (by omega)
    · rw [if_neg h, if_neg h]
      rfl
  have eo : ent cy ad (sMo M n.toNatClampNeg) (zN M) = .inl (cy 14, n.toNatClampNeg, .inr (.inr (.inr (.inr (fun i => if i < n.toNatClampNeg then some (H.size + 1 + i) else none))))) := by
    have h1 : sh (sMo M n.toNatClampNeg) (zN M) = 14 := u1_same _ _ _
    have h2 : ln (sMo M n.toNatClampNeg) (zN M) = n.toNatClampNeg := u1_same _ _ _
    have h5 : mr (sMo M n.toNatClampNeg) (zN M) = fun i => if i < n.toNatClampNeg then some (zN M + 1 + i) else none := u1_same _ _ _
    rw [ent_r h1, h2, h5, hmap]
  have eH : H.size = ad (zN M) := by rw [hz4 _ (by omega), hsz]
  have hp1 : pool cy ad M ++ [(H.size, .inl (cy 14, n.toNatClampNeg, .inr (.inr (.inr (.inr (fun i => if i < n.toNatClampNeg then some (H.size + 1 + i) else none))))))] = pool cy ad (sMo M n.toNatClampNeg) := by
    rw [← eo, eH]
    exact pool_new rfl rfl (fun j hj => sMo_off hj)
  have hP0 : va_P D clX (pool cy ad M) F9.heap := hW.2.kept (fun k9 x hx => hold x.1 ((hW.2 k9 x hx).lt))
  have hP1 : va_P D clX (pool cy ad (sMo M n.toNatClampNeg)) F9.heap := by
    rw [← hp1]
    exact hP0.app (fun k9 x hx => by
      have h0 : k9 < 1 := (List.getElem?_eq_some_iff.mp hx).1
      rw [show k9 = 0 by omega] at hx
      cases hx
      exact f2)
  have hP2 : va_P D clX (pool cy ad (sMu M n.toNatClampNeg k.toNatClampNeg)) F9.heap := by
    show va_P D clX (pool cy ad (sRw n.toNatClampNeg k.toNatClampNeg (sMo M n.toNatClampNeg))) F9.heap
    rw [pool_rows]
    exact hP1.app (fun k9 x hx => by
      obtain ⟨i, hi, rfl⟩ := List.mem_map.mp (List.mem_of_getElem? hx)
      have hi := List.mem_range.mp hi
      have h9 := hrow i hi
      have e9 : ad (zN (sMo M n.toNatClampNeg) + i) = H.size + 1 + i := by
        show ad (zN M + 1 + i) = _
        rw [hz4 _ (by omega), hsz]
        omega
      rw [e9]
      exact h9)
  have hS1 : va_S (AF s0) s.heap F9.heap locs := ⟨by rw [f1]; have := hS.1; omega, fun x h1 h2 => (hold x (Nat.lt_of_lt_of_le h1 hS.1)).trans (hS.2.1 x h1 h2), hS.2.2⟩
  rw [show zC M - k0 + 1 + n.toNatClampNeg = zC (sMu M n.toNatClampNeg k.toNatClampNeg) - k0 by omega, show zS M - z0 + n.toNatClampNeg + n.toNatClampNeg * k.toNatClampNeg = zS (sMu M n.toNatClampNeg k.toNatClampNeg) - z0 by omega] at X'
  obtain ⟨t, a1, b1⟩ := k9 F (H := F9.heap) ⟨by rw [c3]; omega, hP2⟩ hl hn hS1 hR ⟨by omega, fun _ => g1.2 hx0⟩ (by omega) kr kx F9 rfl X'
  refine ⟨t, step t ?_, b1⟩
  have e1 : T.heap.size = H.size := by rw [hT]
  have e2 : Value.ref H.size = gv ad (.ref (zN M)) := by
    show _ = Value.ref (ad (zN M))
    rw [eH]
  rw [e1, e2]
  exact a1
end RMu
