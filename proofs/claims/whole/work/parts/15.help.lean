/-! helpers of the printed rows -/
def tabDef (lw hi df : Int) (offs : Array Int) (x : Int32) : Prop := (x.toInt < lw ∨ hi < x.toInt) ∨ (¬ x.toInt < lw ∧ ¬ hi < x.toInt ∧ offs[(x.toInt - lw).toNat]? = some df)
section NH
variable {l : Launch} {s0 : State} {b L : Nat} {xs : Nat → Int32} {D : va_G} {cy : Nat → ClassId} {ad : Nat → Nat} {P : Nat → Prop} {d : Nat} {I : MI} {pc : Nat} {lo st : List Value} {M M' : Mm} {res : Rs}
theorem n_tabD {dflt lw hi : Int} {offs : Array Int} {len : Nat} {x : Int32} {tgt : Nat} (hd : decode I.2.1 pc = .ok (.tableswitch dflt lw hi offs, len)) (ht : (pc : Int) + dflt = (tgt : Int)) (h : tabDef lw hi dflt offs x) (k : Rn l s0 D cy ad P d I tgt lo st M res M') : Rn l s0 D cy ad P d I pc lo (.int x :: st) M res M' := by
  rcases h with h | ⟨h1, h2, h3⟩
  · exact n_tabOut hd h ht k
  · exact n_tabIn hd h1 h2 h3 ht k
theorem n_dia1 {J : Nat} {c : Prop} [Decidable c] {a b p : Int32} (k : (∀ z, z = (if c then a else b) → Rn l s0 D cy ad P d I J lo (.int z :: st) M res M') → Rn l s0 D cy ad P d I pc lo (.int p :: st) M res M') (kJ : Rn l s0 D cy ad P d I J lo (.int (if c then a else b) :: st) M res M') : Rn l s0 D cy ad P d I pc lo (.int p :: st) M res M' := k (fun z hz => by subst hz; exact kJ)
theorem n_dia2 {J : Nat} {c : Prop} [Decidable c] {a b p q : Int32} (k : (∀ z, z = (if c then a else b) → Rn l s0 D cy ad P d I J lo (.int z :: st) M res M') → Rn l s0 D cy ad P d I pc lo (.int q :: .int p :: st) M res M') (kJ : Rn l s0 D cy ad P d I J lo (.int (if c then a else b) :: st) M res M') : Rn l s0 D cy ad P d I pc lo (.int q :: .int p :: st) M res M' := k (fun z hz => by subst hz; exact kJ)
/-- a call that gives back a reference -/
theorem n_callVrL (G : GG l s0 b L xs D cy ad) {y : MethodName} {cc : ByteArray} {maxL : Nat} {ret : Option FieldType} {d' n idx a c x t : Nat} (as : List Value) {stk : List Value} {M1 : Mm} (hc : Cl l s0 D cy ad P d' (y, cc, maxL, ret, []) (.ref a :: as) M (.inl (some (.ref x))) M1) (hx : Lay P M → P x ∧ SH x = t) (hd' : d' < d) (hK : mV (y, cc, maxL, ret, []) n c) (hl0 : mL I.1.cls idx (y, cc, maxL, ret, [])) (hra : P a) (hrs : SH a = c) (ha : as.length = n) (hstk : as.reverse ++ .ref a :: st = stk) (hw8 : (st.map (fun v => v.category)).sum ≤ 8) (hd : decode I.2.1 pc = .ok (.invokevirtual idx, 3)) (k9 : P x → SH x = t → Rn l s0 D cy ad P d I (pc + 3) lo (.ref x :: st) M1 res M') : Rn l s0 D cy ad P d I pc lo stk M res M' :=
  fun hL => n_callVr G as hc hd' hK hl0 hra hrs ha hstk hw8 hd (k9 (hx hL).1 (hx hL).2) hL
/-- the length of the text i, its char at k -/
def mmax (x y : Int32) : Int32 := if x < y then y else x
def mmin (x y : Int32) : Int32 := if y < x then y else x
def mabs (x : Int32) : Int32 := if 0 ≤ x then x else 0 - x
theorem r_mmax (G : GG l s0 b L xs D cy ad) {idx : Nat} {x y : Int32} (hL : mL I.1.cls idx KJ9_max_7cf53) (hd1 : 1 ≤ d) (hw8 : (st.map (fun v => v.category)).sum ≤ 8) (hd : decode I.2.1 pc = .ok (.invokestatic idx, 3)) (k : Run l s0 D cy ad d I (pc + 3) lo (.int (mmax x y) :: st) M res M') : Run l s0 D cy ad d I pc lo (.int y :: .int x :: st) M res M' := by
  obtain ⟨hm, k⟩ := k
  refine ⟨hm, ?_⟩
  intro p e R s m args below meth c0 H locs ls k0 z0 Q F hW hl hn hS hR h1 h2 kr kx
  have hWa := F.2.2.2.2.2.2.2.1
  have hw9 : ((st.map (gv ad)).map (fun v => v.category)).sum ≤ 8 := by
    rw [List.map_map]
    have : ((fun v : Value => v.category) ∘ gv ad) = fun v => v.category := by funext v; exact gv_cat v
    rw [this]; exact hw8
  have hm' := mJ9_max_7cf53
  exact va_mmax F.1 F.2.1 (F.2.2.1.trans (hl.1.trans hn).symm) F.2.2.2.2.1 (gwm G hWa hL w_link args) (gwm G hWa hm'.2 w_stat args) (gwm G hWa hm'.1.2.2.1 w_ini args) (gwm G hWa hm'.1.2.1 w_code args) (by omega) (by omega) (by omega) (by omega) hd (k F hW hl hn hS hR h1 h2 kr kx)
theorem n_mmax (G : GG l s0 b L xs D cy ad) {idx : Nat} {x y : Int32} (hL : mL I.1.cls idx KJ9_max_7cf53) (hd1 : 1 ≤ d) (hw8 : (st.map (fun v => v.category)).sum ≤ 8) (hd : decode I.2.1 pc = .ok (.invokestatic idx, 3)) (k : Rn l s0 D cy ad P d I (pc + 3) lo (.int (mmax x y) :: st) M res M') : Rn l s0 D cy ad P d I pc lo (.int y :: .int x :: st) M res M' := fun hY => ⟨r_mmax G hL hd1 hw8 hd (k hY).1, (k hY).2⟩
theorem r_mmin (G : GG l s0 b L xs D cy ad) {idx : Nat} {x y : Int32} (hL : mL I.1.cls idx KJ9_min_7cf53) (hd1 : 1 ≤ d) (hw8 : (st.map (fun v => v.category)).sum ≤ 8) (hd : decode I.2.1 pc = .ok (.invokestatic idx, 3)) (k : Run l s0 D cy ad d I (pc + 3) lo (.int (mmin x y) :: st) M res M') : Run l s0 D cy ad d I pc lo (.int y :: .int x :: st) M res M' := by
  obtain ⟨hm, k⟩ := k
  refine ⟨hm, ?_⟩
  intro p e R s m args below meth c0 H locs ls k0 z0 Q F hW hl hn hS hR h1 h2 kr kx
  have hWa := F.2.2.2.2.2.2.2.1
  have hw9 : ((st.map (gv ad)).map (fun v => v.category)).sum ≤ 8 := by
    rw [List.map_map]
    have : ((fun v : Value => v.category) ∘ gv ad) = fun v => v.category := by funext v; exact gv_cat v
    rw [this]; exact hw8
  have hm' := mJ9_min_7cf53
  exact va_mmin F.1 F.2.1 (F.2.2.1.trans (hl.1.trans hn).symm) F.2.2.2.2.1 (gwm G hWa hL w_link args) (gwm G hWa hm'.2 w_stat args) (gwm G hWa hm'.1.2.2.1 w_ini args) (gwm G hWa hm'.1.2.1 w_code args) (by omega) (by omega) (by omega) (by omega) hd (k F hW hl hn hS hR h1 h2 kr kx)
theorem n_mmin (G : GG l s0 b L xs D cy ad) {idx : Nat} {x y : Int32} (hL : mL I.1.cls idx KJ9_min_7cf53) (hd1 : 1 ≤ d) (hw8 : (st.map (fun v => v.category)).sum ≤ 8) (hd : decode I.2.1 pc = .ok (.invokestatic idx, 3)) (k : Rn l s0 D cy ad P d I (pc + 3) lo (.int (mmin x y) :: st) M res M') : Rn l s0 D cy ad P d I pc lo (.int y :: .int x :: st) M res M' := fun hY => ⟨r_mmin G hL hd1 hw8 hd (k hY).1, (k hY).2⟩
theorem r_mabs (G : GG l s0 b L xs D cy ad) {idx : Nat} {x : Int32} (hL : mL I.1.cls idx KJ9_abs_0f7a4) (hd1 : 1 ≤ d) (hw8 : (st.map (fun v => v.category)).sum ≤ 8) (hd : decode I.2.1 pc = .ok (.invokestatic idx, 3)) (k : Run l s0 D cy ad d I (pc + 3) lo (.int (mabs x) :: st) M res M') : Run l s0 D cy ad d I pc lo (.int x :: st) M res M' := by
  obtain ⟨hm, k⟩ := k
  refine ⟨hm, ?_⟩
  intro p e R s m args below meth c0 H locs ls k0 z0 Q F hW hl hn hS hR h1 h2 kr kx
  have hWa := F.2.2.2.2.2.2.2.1
  have hw9 : ((st.map (gv ad)).map (fun v => v.category)).sum ≤ 8 := by
    rw [List.map_map]
    have : ((fun v : Value => v.category) ∘ gv ad) = fun v => v.category := by funext v; exact gv_cat v
    rw [this]; exact hw8
  have hm' := mJ9_abs_0f7a4
  exact va_mabs F.1 F.2.1 (F.2.2.1.trans (hl.1.trans hn).symm) F.2.2.2.2.1 (gwm G hWa hL w_link args) (gwm G hWa hm'.2 w_stat args) (gwm G hWa hm'.1.2.2.1 w_ini args) (gwm G hWa hm'.1.2.1 w_code args) (by omega) (by omega) (by omega) (by omega) hd (k F hW hl hn hS hR h1 h2 kr kx)
theorem n_mabs (G : GG l s0 b L xs D cy ad) {idx : Nat} {x : Int32} (hL : mL I.1.cls idx KJ9_abs_0f7a4) (hd1 : 1 ≤ d) (hw8 : (st.map (fun v => v.category)).sum ≤ 8) (hd : decode I.2.1 pc = .ok (.invokestatic idx, 3)) (k : Rn l s0 D cy ad P d I (pc + 3) lo (.int (mabs x) :: st) M res M') : Rn l s0 D cy ad P d I pc lo (.int x :: st) M res M' := fun hY => ⟨r_mabs G hL hd1 hw8 hd (k hY).1, (k hY).2⟩
end NH
