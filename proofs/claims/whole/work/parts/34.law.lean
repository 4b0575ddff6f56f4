/-! printed: the law's main -/
abbrev KLAW : MI := (yL_law_, cL_law_, 8, (some .boolean), [])
def f_L_law__j322 (xs : Nat → Int32) (L : Nat) (x4 : Int32) (M : Mm) : Option (((Int32 × Mm) ⊕ (Mm ⊕ Mm))) := some (.inl ((x4 + (7 : Int32)), M))
def f_L_law__j390 (xs : Nat → Int32) (L : Nat) (x4 : Int32) (M : Mm) : Option (((Int32 × Mm) ⊕ (Mm ⊕ Mm))) := some (.inl ((x4 + (7 : Int32)), M))
def f_L_law__j446 (xs : Nat → Int32) (L : Nat) (x4 : Int32) (M : Mm) : Option (((Int32 × Mm) ⊕ (Mm ⊕ Mm))) := some (.inl ((x4 + (7 : Int32)), M))
def f_L_law__j502 (xs : Nat → Int32) (L : Nat) (x4 : Int32) (M : Mm) : Option (((Int32 × Mm) ⊕ (Mm ⊕ Mm))) := some (.inl ((x4 + (7 : Int32)), M))
def f_L_law__j584 (xs : Nat → Int32) (L : Nat) (x4 : Int32) (M : Mm) : Option (((Int32 × Mm) ⊕ (Mm ⊕ Mm))) := some (.inl ((x4 + (7 : Int32)), M))
def f_L_law__j652 (xs : Nat → Int32) (L : Nat) (x4 : Int32) (M : Mm) : Option (((Int32 × Mm) ⊕ (Mm ⊕ Mm))) := some (.inl ((x4 + (7 : Int32)), M))
def f_L_law__j732 (xs : Nat → Int32) (L : Nat) (x4 : Int32) (M : Mm) : Option (((Int32 × Mm) ⊕ (Mm ⊕ Mm))) := some (.inl ((x4 + (7 : Int32)), M))
def f_L_law__j788 (xs : Nat → Int32) (L : Nat) (x4 : Int32) (M : Mm) : Option (((Int32 × Mm) ⊕ (Mm ⊕ Mm))) := some (.inl ((x4 + (7 : Int32)), M))
def f_L_law__j844 (xs : Nat → Int32) (L : Nat) (x4 : Int32) (M : Mm) : Option (((Int32 × Mm) ⊕ (Mm ⊕ Mm))) := some (.inl ((x4 + (7 : Int32)), M))
def f_L_law__j924 (xs : Nat → Int32) (L : Nat) (x4 : Int32) (M : Mm) : Option (((Int32 × Mm) ⊕ (Mm ⊕ Mm))) := some (.inl ((x4 + (7 : Int32)), M))
def f_L_law__j992 (xs : Nat → Int32) (L : Nat) (x4 : Int32) (M : Mm) : Option (((Int32 × Mm) ⊕ (Mm ⊕ Mm))) := some (.inl ((x4 + (7 : Int32)), M))
def f_L_law__j1048 (xs : Nat → Int32) (L : Nat) (x4 : Int32) (M : Mm) : Option (((Int32 × Mm) ⊕ (Mm ⊕ Mm))) := some (.inl ((x4 + (7 : Int32)), M))
def f_L_law__j1116 (xs : Nat → Int32) (L : Nat) (x4 : Int32) (M : Mm) : Option (((Int32 × Mm) ⊕ (Mm ⊕ Mm))) := some (.inl ((x4 + (7 : Int32)), M))
def f_L_law__j1171 (xs : Nat → Int32) (L : Nat) (x4 : Int32) (M : Mm) : Option (((Int32 × Mm) ⊕ (Mm ⊕ Mm))) := some (.inl ((x4 + (7 : Int32)), M))
def f_L_law__j1239 (xs : Nat → Int32) (L : Nat) (x4 : Int32) (M : Mm) : Option (((Int32 × Mm) ⊕ (Mm ⊕ Mm))) := some (.inl ((x4 + (7 : Int32)), M))
def f_L_law__j1307 (xs : Nat → Int32) (L : Nat) (x4 : Int32) (M : Mm) : Option (((Int32 × Mm) ⊕ (Mm ⊕ Mm))) := some (.inl ((x4 + (7 : Int32)), M))
def f_L_law__j1374 (xs : Nat → Int32) (L : Nat) (x4 : Int32) (M : Mm) : Option (((Int32 × Mm) ⊕ (Mm ⊕ Mm))) := some (.inl ((x4 + (7 : Int32)), M))
def f_L_law__j1466 (xs : Nat → Int32) (L : Nat) (x4 : Int32) (M : Mm) : Option (((Int32 × Mm) ⊕ (Mm ⊕ Mm))) := some (.inl ((x4 + (7 : Int32)), M))
def f_L_law__j1534 (xs : Nat → Int32) (L : Nat) (x4 : Int32) (M : Mm) : Option (((Int32 × Mm) ⊕ (Mm ⊕ Mm))) := some (.inl ((x4 + (7 : Int32)), M))
def f_L_law__j1602 (xs : Nat → Int32) (L : Nat) (x4 : Int32) (M : Mm) : Option (((Int32 × Mm) ⊕ (Mm ⊕ Mm))) := some (.inl ((x4 + (7 : Int32)), M))
def f_L_law__j1707 (xs : Nat → Int32) (L : Nat) (x4 : Int32) (M : Mm) : Option (((Int32 × Mm) ⊕ (Mm ⊕ Mm))) := some (.inl ((x4 + (7 : Int32)), M))
def f_L_law__j1825 (xs : Nat → Int32) (L : Nat) (x4 : Int32) (M : Mm) : Option (((Int32 × Mm) ⊕ (Mm ⊕ Mm))) := some (.inl ((x4 + (7 : Int32)), M))
def f_L_law__j1881 (xs : Nat → Int32) (L : Nat) (x4 : Int32) (M : Mm) : Option (((Int32 × Mm) ⊕ (Mm ⊕ Mm))) := some (.inl ((x4 + (7 : Int32)), M))
def f_L_law__j1949 (xs : Nat → Int32) (L : Nat) (x4 : Int32) (M : Mm) : Option (((Int32 × Mm) ⊕ (Mm ⊕ Mm))) := some (.inl ((x4 + (7 : Int32)), M))
def f_L_law__j2016 (xs : Nat → Int32) (L : Nat) (x4 : Int32) (M : Mm) : Option (((Int32 × Mm) ⊕ (Mm ⊕ Mm))) := some (.inl ((x4 + (7 : Int32)), M))
def f_L_case_0 (xs : Nat → Int32) (L : Nat) (x4 : Int32) (M : Mm) : Option ((Int32 × Mm) ⊕ (Mm ⊕ Mm)) := (ax xs L (x4 + (1 : Int32))).bind fun v4 => (ax xs L (x4 + (2 : Int32))).bind fun v5 => (ax xs L (x4 + (3 : Int32))).bind fun v6 => (ax xs L (x4 + (4 : Int32))).bind fun v7 => (ax xs L (x4 + (5 : Int32))).bind fun v8 => (f_X9_feed v4 v5 v6 v7 v8 M).bind fun (v9, M9) => (ax xs L (x4 + (1 : Int32))).bind fun v10 => (ax xs L (x4 + (2 : Int32))).bind fun v11 => (ax xs L (x4 + (3 : Int32))).bind fun v12 => (ax xs L (x4 + (4 : Int32))).bind fun v13 => (ax xs L (x4 + (5 : Int32))).bind fun v14 => (f_X10_feed v10 v11 v12 v13 v14 M9).bind fun (v15, M15) => (if v9 = v15 then some (.inl ((x4 + (7 : Int32)), M15)) else some (.inr (.inl M15)))
def f_L_case_1 (xs : Nat → Int32) (L : Nat) (x4 : Int32) (M : Mm) : Option ((Int32 × Mm) ⊕ (Mm ⊕ Mm)) := (ax xs L (x4 + (1 : Int32))).bind fun v18 => (f_L_field v18 M).bind fun (v19, M19) => (ax xs L (x4 + (1 : Int32))).bind fun v20 => (f_X10_field v20 M19).bind fun (v21, M21) => (f_X10_thrown M21).bind fun v22 => (if v22 = v19 then (if v19 = 0 then (al M21 275 1 (0 : Int32)).bind fun v25 => (if (lg_cmp v25 v21.toInt64) = 0 then f_L_law__j322 xs L x4 M21 else some (.inr (.inl M21))) else f_L_law__j322 xs L x4 M21) else some (.inr (.inl M21)))
def f_L_case_2 (xs : Nat → Int32) (L : Nat) (x4 : Int32) (M : Mm) : Option ((Int32 × Mm) ⊕ (Mm ⊕ Mm)) := (ax xs L (x4 + (1 : Int32))).bind fun v28 => (ax xs L (x4 + (2 : Int32))).bind fun v29 => (f_L_law v28 v29 M).bind fun (v30, M30) => (ax xs L (x4 + (1 : Int32))).bind fun v31 => (ax xs L (x4 + (2 : Int32))).bind fun v32 => (f_X10_law v31 v32 M30).bind fun (v33, M33) => (f_X10_thrown M33).bind fun v34 => (if v34 = v30 then (if v30 = 0 then (al M33 275 1 (0 : Int32)).bind fun v37 => (if (lg_cmp v37 v33.toInt64) = 0 then f_L_law__j390 xs L x4 M33 else some (.inr (.inl M33))) else f_L_law__j390 xs L x4 M33) else some (.inr (.inl M33)))
def f_L_case_3 (xs : Nat → Int32) (L : Nat) (x4 : Int32) (M : Mm) : Option ((Int32 × Mm) ⊕ (Mm ⊕ Mm)) := (ax xs L (x4 + (1 : Int32))).bind fun v40 => (f_L_work v40 M).bind fun (v41, M41) => (ax xs L (x4 + (1 : Int32))).bind fun v42 => (f_X10_work v42 M41).bind fun (v43, M43) => (f_X10_thrown M43).bind fun v44 => (if v44 = v41 then (if v41 = 0 then (al M43 275 1 (0 : Int32)).bind fun v47 => (if (lg_cmp v47 v43.toInt64) = 0 then f_L_law__j446 xs L x4 M43 else some (.inr (.inl M43))) else f_L_law__j446 xs L x4 M43) else some (.inr (.inl M43)))
def f_L_case_4 (xs : Nat → Int32) (L : Nat) (x4 : Int32) (M : Mm) : Option ((Int32 × Mm) ⊕ (Mm ⊕ Mm)) := (ax xs L (x4 + (1 : Int32))).bind fun v50 => (f_L_book v50 M).bind fun (v51, M51) => (ax xs L (x4 + (1 : Int32))).bind fun v52 => (f_X10_book v52 M51).bind fun (v53, M53) => (f_X10_thrown M53).bind fun v54 => (if v54 = v51 then (if v51 = 0 then (al M53 275 1 (0 : Int32)).bind fun v57 => (if (lg_cmp v57 v53.toInt64) = 0 then f_L_law__j502 xs L x4 M53 else some (.inr (.inl M53))) else f_L_law__j502 xs L x4 M53) else some (.inr (.inl M53)))
def f_L_case_5 (xs : Nat → Int32) (L : Nat) (x4 : Int32) (M : Mm) : Option ((Int32 × Mm) ⊕ (Mm ⊕ Mm)) := (f_X9_fault M).bind fun v60 => (f_X10_fault M).bind fun (v61, M61) => (if v60 = v61 then some (.inl ((x4 + (7 : Int32)), M61)) else some (.inr (.inl M61)))
def f_L_case_6 (xs : Nat → Int32) (L : Nat) (x4 : Int32) (M : Mm) : Option ((Int32 × Mm) ⊕ (Mm ⊕ Mm)) := (f_X9_undo M).bind fun (v64, M64) => (f_X10_undo M64).bind fun (v65, M65) => (if v64 = v65 then some (.inl ((x4 + (7 : Int32)), M65)) else some (.inr (.inl M65)))
def f_L_case_7 (xs : Nat → Int32) (L : Nat) (x4 : Int32) (M : Mm) : Option ((Int32 × Mm) ⊕ (Mm ⊕ Mm)) := (ax xs L (x4 + (1 : Int32))).bind fun v68 => (f_L_told v68 M).bind fun (v69, M69) => (ax xs L (x4 + (1 : Int32))).bind fun v70 => (f_X10_told v70 M69).bind fun (v71, M71) => (f_X10_thrown M71).bind fun v72 => (if v72 = v69 then (if v69 = 0 then (al M71 275 1 (0 : Int32)).bind fun v75 => (if (lg_cmp v75 v71.toInt64) = 0 then f_L_law__j584 xs L x4 M71 else some (.inr (.inl M71))) else f_L_law__j584 xs L x4 M71) else some (.inr (.inl M71)))
def f_L_case_8 (xs : Nat → Int32) (L : Nat) (x4 : Int32) (M : Mm) : Option ((Int32 × Mm) ⊕ (Mm ⊕ Mm)) := (ax xs L (x4 + (1 : Int32))).bind fun v78 => (ax xs L (x4 + (2 : Int32))).bind fun v79 => (f_L_stone v78 v79 M).bind fun (v80, M80) => (ax xs L (x4 + (1 : Int32))).bind fun v81 => (ax xs L (x4 + (2 : Int32))).bind fun v82 => (f_X10_stone v81 v82 M80).bind fun (v83, M83) => (f_X10_thrown M83).bind fun v84 => (if v84 = v80 then (if v80 = 0 then (al M83 275 1 (0 : Int32)).bind fun v87 => (if (lg_cmp v87 v83.toInt64) = 0 then f_L_law__j652 xs L x4 M83 else some (.inr (.inl M83))) else f_L_law__j652 xs L x4 M83) else some (.inr (.inl M83)))
def f_L_case_9 (xs : Nat → Int32) (L : Nat) (x4 : Int32) (M : Mm) : Option ((Int32 × Mm) ⊕ (Mm ⊕ Mm)) := (ax xs L (x4 + (1 : Int32))).bind fun v90 => (ax xs L (x4 + (2 : Int32))).bind fun v91 => (ax xs L (x4 + (3 : Int32))).bind fun v92 => (f_L_cell v90 v91 v92 M).bind fun (v93, M93) => (ax xs L (x4 + (1 : Int32))).bind fun v94 => (ax xs L (x4 + (2 : Int32))).bind fun v95 => (ax xs L (x4 + (3 : Int32))).bind fun v96 => (f_X10_cell v94 v95 v96 M93).bind fun (v97, M97) => (f_X10_thrown M97).bind fun v98 => (if v98 = v93 then (if v93 = 0 then (al M97 275 1 (0 : Int32)).bind fun v101 => (if (lg_cmp v101 v97.toInt64) = 0 then f_L_law__j732 xs L x4 M97 else some (.inr (.inl M97))) else f_L_law__j732 xs L x4 M97) else some (.inr (.inl M97)))
def f_L_case_10 (xs : Nat → Int32) (L : Nat) (x4 : Int32) (M : Mm) : Option ((Int32 × Mm) ⊕ (Mm ⊕ Mm)) := (ax xs L (x4 + (1 : Int32))).bind fun v104 => (f_L_sledge v104 M).bind fun (v105, M105) => (ax xs L (x4 + (1 : Int32))).bind fun v106 => (f_X10_sledge v106 M105).bind fun (v107, M107) => (f_X10_thrown M107).bind fun v108 => (if v108 = v105 then (if v105 = 0 then (al M107 275 1 (0 : Int32)).bind fun v111 => (if (lg_cmp v111 v107.toInt64) = 0 then f_L_law__j788 xs L x4 M107 else some (.inr (.inl M107))) else f_L_law__j788 xs L x4 M107) else some (.inr (.inl M107)))
def f_L_case_11 (xs : Nat → Int32) (L : Nat) (x4 : Int32) (M : Mm) : Option ((Int32 × Mm) ⊕ (Mm ⊕ Mm)) := (ax xs L (x4 + (1 : Int32))).bind fun v114 => (f_L_sums v114 M).bind fun (v115, M115) => (ax xs L (x4 + (1 : Int32))).bind fun v116 => (f_X10_sums v116 M115).bind fun (v117, M117) => (f_X10_thrown M117).bind fun v118 => (if v118 = v115 then (if v115 = 0 then (al M117 275 1 (0 : Int32)).bind fun v121 => (if (lg_cmp v121 v117.toInt64) = 0 then f_L_law__j844 xs L x4 M117 else some (.inr (.inl M117))) else f_L_law__j844 xs L x4 M117) else some (.inr (.inl M117)))
def f_L_case_12 (xs : Nat → Int32) (L : Nat) (x4 : Int32) (M : Mm) : Option ((Int32 × Mm) ⊕ (Mm ⊕ Mm)) := (ax xs L (x4 + (1 : Int32))).bind fun v124 => (ax xs L (x4 + (2 : Int32))).bind fun v125 => (ax xs L (x4 + (3 : Int32))).bind fun v126 => (f_L_damage v124 v125 v126 M).bind fun (v127, M127) => (ax xs L (x4 + (1 : Int32))).bind fun v128 => (ax xs L (x4 + (2 : Int32))).bind fun v129 => (ax xs L (x4 + (3 : Int32))).bind fun v130 => (f_X10_damage v128 v129 v130 M127).bind fun (v131, M131) => (f_X10_thrown M131).bind fun v132 => (if v132 = v127 then (if v127 = 0 then (al M131 275 1 (0 : Int32)).bind fun v135 => (if (lg_cmp v135 v131.toInt64) = 0 then f_L_law__j924 xs L x4 M131 else some (.inr (.inl M131))) else f_L_law__j924 xs L x4 M131) else some (.inr (.inl M131)))
def f_L_case_13 (xs : Nat → Int32) (L : Nat) (x4 : Int32) (M : Mm) : Option ((Int32 × Mm) ⊕ (Mm ⊕ Mm)) := (ax xs L (x4 + (1 : Int32))).bind fun v138 => (ax xs L (x4 + (2 : Int32))).bind fun v139 => (f_L_rises v138 v139 M).bind fun (v140, M140) => (ax xs L (x4 + (1 : Int32))).bind fun v141 => (ax xs L (x4 + (2 : Int32))).bind fun v142 => (f_X10_rises v141 v142 M140).bind fun (v143, M143) => (f_X10_thrown M143).bind fun v144 => (if v144 = v140 then (if v140 = 0 then (al M143 275 1 (0 : Int32)).bind fun v147 => (if (lg_cmp v147 v143.toInt64) = 0 then f_L_law__j992 xs L x4 M143 else some (.inr (.inl M143))) else f_L_law__j992 xs L x4 M143) else some (.inr (.inl M143)))
def f_L_case_14 (xs : Nat → Int32) (L : Nat) (x4 : Int32) (M : Mm) : Option ((Int32 × Mm) ⊕ (Mm ⊕ Mm)) := (ax xs L (x4 + (1 : Int32))).bind fun v150 => (f_L_clear v150 M).bind fun (v151, M151) => (ax xs L (x4 + (1 : Int32))).bind fun v152 => (f_X10_clear v152 M151).bind fun (v153, M153) => (f_X10_thrown M153).bind fun v154 => (if v154 = v151 then (if v151 = 0 then (al M153 275 1 (0 : Int32)).bind fun v157 => (if (lg_cmp v157 v153.toInt64) = 0 then f_L_law__j1048 xs L x4 M153 else some (.inr (.inl M153))) else f_L_law__j1048 xs L x4 M153) else some (.inr (.inl M153)))
def f_L_case_15 (xs : Nat → Int32) (L : Nat) (x4 : Int32) (M : Mm) : Option ((Int32 × Mm) ⊕ (Mm ⊕ Mm)) := (ax xs L (x4 + (1 : Int32))).bind fun v160 => (ax xs L (x4 + (2 : Int32))).bind fun v161 => (f_L_stops v160 v161 M).bind fun (v162, M162) => (ax xs L (x4 + (1 : Int32))).bind fun v163 => (ax xs L (x4 + (2 : Int32))).bind fun v164 => (f_X10_stops v163 v164 M162).bind fun (v165, M165) => (f_X10_thrown M165).bind fun v166 => (if v166 = v162 then (if v162 = 0 then (al M165 275 1 (0 : Int32)).bind fun v169 => (if (lg_cmp v169 v165.toInt64) = 0 then f_L_law__j1116 xs L x4 M165 else some (.inr (.inl M165))) else f_L_law__j1116 xs L x4 M165) else some (.inr (.inl M165)))
def f_L_case_16 (xs : Nat → Int32) (L : Nat) (x4 : Int32) (M : Mm) : Option ((Int32 × Mm) ⊕ (Mm ⊕ Mm)) := (ax xs L (x4 + (1 : Int32))).bind fun v172 => (f_L_way v172 M).bind fun (v173, M173) => (ax xs L (x4 + (1 : Int32))).bind fun v174 => (f_X10_way v174 M173).bind fun (v175, M175) => (f_X10_thrown M175).bind fun v176 => (if v176 = v173 then (if v173 = 0 then (al M175 275 1 (0 : Int32)).bind fun v179 => (if (lg_cmp v179 v175) = 0 then f_L_law__j1171 xs L x4 M175 else some (.inr (.inl M175))) else f_L_law__j1171 xs L x4 M175) else some (.inr (.inl M175)))
def f_L_case_17 (xs : Nat → Int32) (L : Nat) (x4 : Int32) (M : Mm) : Option ((Int32 × Mm) ⊕ (Mm ⊕ Mm)) := (ax xs L (x4 + (1 : Int32))).bind fun v182 => (ax xs L (x4 + (2 : Int32))).bind fun v183 => (f_L_heaps v182 v183 M).bind fun (v184, M184) => (ax xs L (x4 + (1 : Int32))).bind fun v185 => (ax xs L (x4 + (2 : Int32))).bind fun v186 => (f_X10_heaps v185 v186 M184).bind fun (v187, M187) => (f_X10_thrown M187).bind fun v188 => (if v188 = v184 then (if v184 = 0 then (al M187 275 1 (0 : Int32)).bind fun v191 => (if (lg_cmp v191 v187.toInt64) = 0 then f_L_law__j1239 xs L x4 M187 else some (.inr (.inl M187))) else f_L_law__j1239 xs L x4 M187) else some (.inr (.inl M187)))
def f_L_case_18 (xs : Nat → Int32) (L : Nat) (x4 : Int32) (M : Mm) : Option ((Int32 × Mm) ⊕ (Mm ⊕ Mm)) := (ax xs L (x4 + (1 : Int32))).bind fun v194 => (ax xs L (x4 + (2 : Int32))).bind fun v195 => (f_L_line v194 v195 M).bind fun (v196, M196) => (ax xs L (x4 + (1 : Int32))).bind fun v197 => (ax xs L (x4 + (2 : Int32))).bind fun v198 => (f_X10_line v197 v198 M196).bind fun (v199, M199) => (f_X10_thrown M199).bind fun v200 => (if v200 = v196 then (if v196 = 0 then (al M199 275 1 (0 : Int32)).bind fun v203 => (if (lg_cmp v203 v199.toInt64) = 0 then f_L_law__j1307 xs L x4 M199 else some (.inr (.inl M199))) else f_L_law__j1307 xs L x4 M199) else some (.inr (.inl M199)))
def f_L_case_19 (xs : Nat → Int32) (L : Nat) (x4 : Int32) (M : Mm) : Option ((Int32 × Mm) ⊕ (Mm ⊕ Mm)) := (ax xs L (x4 + (1 : Int32))).bind fun v206 => (ax xs L (x4 + (2 : Int32))).bind fun v207 => (f_L_first v206 v207 M).bind fun (v208, M208) => (ax xs L (x4 + (1 : Int32))).bind fun v209 => (ax xs L (x4 + (2 : Int32))).bind fun v210 => (f_X10_first v209 v210 M208).bind fun (v211, M211) => (f_X10_thrown M211).bind fun v212 => (if v212 = v208 then (if v208 = 0 then (al M211 275 1 (0 : Int32)).bind fun v215 => (if (lg_cmp v215 v211) = 0 then f_L_law__j1374 xs L x4 M211 else some (.inr (.inl M211))) else f_L_law__j1374 xs L x4 M211) else some (.inr (.inl M211)))
def f_L_case_20 (xs : Nat → Int32) (L : Nat) (x4 : Int32) (M : Mm) : Option ((Int32 × Mm) ⊕ (Mm ⊕ Mm)) := (ax xs L (x4 + (1 : Int32))).bind fun v218 => (ax xs L (x4 + (2 : Int32))).bind fun v219 => (ax xs L (x4 + (3 : Int32))).bind fun v220 => (ax xs L (x4 + (4 : Int32))).bind fun v221 => (f_L_mix v218 v219 v220 v221 M).bind fun (v222, M222) => (ax xs L (x4 + (1 : Int32))).bind fun v223 => (ax xs L (x4 + (2 : Int32))).bind fun v224 => (ax xs L (x4 + (3 : Int32))).bind fun v225 => (ax xs L (x4 + (4 : Int32))).bind fun v226 => (f_X10_mix v223 v224 v225 v226 M222).bind fun (v227, M227) => (f_X10_thrown M227).bind fun v228 => (if v228 = v222 then (if v222 = 0 then (al M227 275 1 (0 : Int32)).bind fun v231 => (if (lg_cmp v231 v227.toInt64) = 0 then f_L_law__j1466 xs L x4 M227 else some (.inr (.inl M227))) else f_L_law__j1466 xs L x4 M227) else some (.inr (.inl M227)))
def f_L_case_21 (xs : Nat → Int32) (L : Nat) (x4 : Int32) (M : Mm) : Option ((Int32 × Mm) ⊕ (Mm ⊕ Mm)) := (ax xs L (x4 + (1 : Int32))).bind fun v234 => (ax xs L (x4 + (2 : Int32))).bind fun v235 => (f_L_enough v234 v235 M).bind fun (v236, M236) => (ax xs L (x4 + (1 : Int32))).bind fun v237 => (ax xs L (x4 + (2 : Int32))).bind fun v238 => (f_X10_enough v237 v238 M236).bind fun (v239, M239) => (f_X10_thrown M239).bind fun v240 => (if v240 = v236 then (if v236 = 0 then (al M239 275 1 (0 : Int32)).bind fun v243 => (if (lg_cmp v243 v239.toInt64) = 0 then f_L_law__j1534 xs L x4 M239 else some (.inr (.inl M239))) else f_L_law__j1534 xs L x4 M239) else some (.inr (.inl M239)))
def f_L_case_22 (xs : Nat → Int32) (L : Nat) (x4 : Int32) (M : Mm) : Option ((Int32 × Mm) ⊕ (Mm ⊕ Mm)) := (ax xs L (x4 + (1 : Int32))).bind fun v246 => (ax xs L (x4 + (2 : Int32))).bind fun v247 => (f_L_left v246 v247 M).bind fun (v248, M248) => (ax xs L (x4 + (1 : Int32))).bind fun v249 => (ax xs L (x4 + (2 : Int32))).bind fun v250 => (f_X10_left v249 v250 M248).bind fun (v251, M251) => (f_X10_thrown M251).bind fun v252 => (if v252 = v248 then (if v248 = 0 then (al M251 275 1 (0 : Int32)).bind fun v255 => (if (lg_cmp v255 v251.toInt64) = 0 then f_L_law__j1602 xs L x4 M251 else some (.inr (.inl M251))) else f_L_law__j1602 xs L x4 M251) else some (.inr (.inl M251)))
def f_L_case_23 (xs : Nat → Int32) (L : Nat) (x4 : Int32) (M : Mm) : Option ((Int32 × Mm) ⊕ (Mm ⊕ Mm)) := (f_X9_fits M).bind fun (v258, M258) => (f_X10_fits M258).bind fun (v259, M259) => (if v258 = v259 then some (.inl ((x4 + (7 : Int32)), M259)) else some (.inr (.inl M259)))
def f_L_case_24 (xs : Nat → Int32) (L : Nat) (x4 : Int32) (M : Mm) : Option ((Int32 × Mm) ⊕ (Mm ⊕ Mm)) := (ax xs L (x4 + (1 : Int32))).bind fun v262 => (ax xs L (x4 + (2 : Int32))).bind fun v263 => (ax xs L (x4 + (3 : Int32))).bind fun v264 => (ax xs L (x4 + (4 : Int32))).bind fun v265 => (f_L_frost v262 v263 v264 v265 M).bind fun (v266, M266) => (ax xs L (x4 + (1 : Int32))).bind fun v267 => (ax xs L (x4 + (2 : Int32))).bind fun v268 => (ax xs L (x4 + (3 : Int32))).bind fun v269 => (ax xs L (x4 + (4 : Int32))).bind fun v270 => (f_X10_frost v267 v268 v269 v270 M266).bind fun (v271, M271) => (f_X10_thrown M271).bind fun v272 => (if v272 = v266 then (if v266 = 0 then (al M271 275 1 (0 : Int32)).bind fun v275 => (if (lg_cmp v275 v271.toInt64) = 0 then f_L_law__j1707 xs L x4 M271 else some (.inr (.inl M271))) else f_L_law__j1707 xs L x4 M271) else some (.inr (.inl M271)))
def f_L_case_25 (xs : Nat → Int32) (L : Nat) (x4 : Int32) (M : Mm) : Option ((Int32 × Mm) ⊕ (Mm ⊕ Mm)) := (ax xs L (x4 + (1 : Int32))).bind fun v278 => (ax xs L (x4 + (2 : Int32))).bind fun v279 => (ax xs L (x4 + (3 : Int32))).bind fun v280 => (ax xs L (x4 + (4 : Int32))).bind fun v281 => (ax xs L (x4 + (5 : Int32))).bind fun v282 => (ax xs L (x4 + (6 : Int32))).bind fun v283 => (f_L_span v278 v279 v280 v281 v282 v283 M).bind fun (v284, M284) => (ax xs L (x4 + (1 : Int32))).bind fun v285 => (ax xs L (x4 + (2 : Int32))).bind fun v286 => (ax xs L (x4 + (3 : Int32))).bind fun v287 => (ax xs L (x4 + (4 : Int32))).bind fun v288 => (ax xs L (x4 + (5 : Int32))).bind fun v289 => (ax xs L (x4 + (6 : Int32))).bind fun v290 => (f_X10_span v285 v286 v287 v288 v289 v290 M284).bind fun (v291, M291) => (f_X10_thrown M291).bind fun v292 => (if v292 = v284 then (if v284 = 0 then (al M291 275 1 (0 : Int32)).bind fun v295 => (if (lg_cmp v295 v291.toInt64) = 0 then f_L_law__j1825 xs L x4 M291 else some (.inr (.inl M291))) else f_L_law__j1825 xs L x4 M291) else some (.inr (.inl M291)))
def f_L_case_26 (xs : Nat → Int32) (L : Nat) (x4 : Int32) (M : Mm) : Option ((Int32 × Mm) ⊕ (Mm ⊕ Mm)) := (ax xs L (x4 + (1 : Int32))).bind fun v298 => (f_L_chosen v298 M).bind fun (v299, M299) => (ax xs L (x4 + (1 : Int32))).bind fun v300 => (f_X10_chosen v300 M299).bind fun (v301, M301) => (f_X10_thrown M301).bind fun v302 => (if v302 = v299 then (if v299 = 0 then (al M301 275 1 (0 : Int32)).bind fun v305 => (if (lg_cmp v305 v301.toInt64) = 0 then f_L_law__j1881 xs L x4 M301 else some (.inr (.inl M301))) else f_L_law__j1881 xs L x4 M301) else some (.inr (.inl M301)))
def f_L_case_27 (xs : Nat → Int32) (L : Nat) (x4 : Int32) (M : Mm) : Option ((Int32 × Mm) ⊕ (Mm ⊕ Mm)) := (ax xs L (x4 + (1 : Int32))).bind fun v308 => (ax xs L (x4 + (2 : Int32))).bind fun v309 => (f_L_lifts v308 v309 M).bind fun (v310, M310) => (ax xs L (x4 + (1 : Int32))).bind fun v311 => (ax xs L (x4 + (2 : Int32))).bind fun v312 => (f_X10_lifts v311 v312 M310).bind fun (v313, M313) => (f_X10_thrown M313).bind fun v314 => (if v314 = v310 then (if v310 = 0 then (al M313 275 1 (0 : Int32)).bind fun v317 => (if (lg_cmp v317 v313.toInt64) = 0 then f_L_law__j1949 xs L x4 M313 else some (.inr (.inl M313))) else f_L_law__j1949 xs L x4 M313) else some (.inr (.inl M313)))
def f_L_case_28 (xs : Nat → Int32) (L : Nat) (x4 : Int32) (M : Mm) : Option ((Int32 × Mm) ⊕ (Mm ⊕ Mm)) := (ax xs L (x4 + (1 : Int32))).bind fun v320 => (ax xs L (x4 + (2 : Int32))).bind fun v321 => (f_L_loads v320 v321 M).bind fun (v322, M322) => (ax xs L (x4 + (1 : Int32))).bind fun v323 => (ax xs L (x4 + (2 : Int32))).bind fun v324 => (f_X10_loads v323 v324 M322).bind fun (v325, M325) => (f_X10_thrown M325).bind fun v326 => (if v326 = v322 then (if v322 = 0 then (al M325 275 1 (0 : Int32)).bind fun v329 => (if (lg_cmp v329 v325) = 0 then f_L_law__j2016 xs L x4 M325 else some (.inr (.inl M325))) else f_L_law__j2016 xs L x4 M325) else some (.inr (.inl M325)))
def f_L_case_29 (xs : Nat → Int32) (L : Nat) (x4 : Int32) (M : Mm) : Option ((Int32 × Mm) ⊕ (Mm ⊕ Mm)) := (f_X9_stoniest M).bind fun v332 => (f_X10_stoniest M).bind fun (v333, M333) => (if v332 = v333 then some (.inl ((x4 + (7 : Int32)), M333)) else some (.inr (.inl M333)))
def f_L_case_30 (xs : Nat → Int32) (L : Nat) (x4 : Int32) (M : Mm) : Option ((Int32 × Mm) ⊕ (Mm ⊕ Mm)) := (f_X9_clean M).bind fun v336 => (f_X10_clean M).bind fun (v337, M337) => (if v336 = v337 then some (.inl ((x4 + (7 : Int32)), M337)) else some (.inr (.inl M337)))
def f_L_case_31 (xs : Nat → Int32) (L : Nat) (x4 : Int32) (M : Mm) : Option ((Int32 × Mm) ⊕ (Mm ⊕ Mm)) := (f_X9_image M).bind fun (v340, M340) => (f_X10_image M340).bind fun (v341, M341) => (if v340 = v341 then some (.inl ((x4 + (7 : Int32)), M341)) else some (.inr (.inl M341)))
def f_L_case_32 (xs : Nat → Int32) (L : Nat) (x4 : Int32) (M : Mm) : Option ((Int32 × Mm) ⊕ (Mm ⊕ Mm)) := (f_X9_restore M).bind fun (v344, M344) => (f_X10_restore M344).bind fun (v345, M345) => (if v344 = v345 then some (.inl ((x4 + (7 : Int32)), M345)) else some (.inr (.inl M345)))
def f_L_case_33 (xs : Nat → Int32) (L : Nat) (x4 : Int32) (M : Mm) : Option ((Int32 × Mm) ⊕ (Mm ⊕ Mm)) := (ax xs L (x4 + (1 : Int32))).bind fun v348 => (f_X9_status v348 M).bind fun v349 => (ax xs L (x4 + (1 : Int32))).bind fun v350 => (f_X10_status v350 M).bind fun (v351, M351) => (if v349 = v351 then some (.inl ((x4 + (7 : Int32)), M351)) else some (.inr (.inl M351)))
def f_L_case_34 (xs : Nat → Int32) (L : Nat) (x4 : Int32) (M : Mm) : Option ((Int32 × Mm) ⊕ (Mm ⊕ Mm)) := (ax xs L (x4 + (1 : Int32))).bind fun v354 => (f_X9_count v354 M).bind fun v355 => (ax xs L (x4 + (1 : Int32))).bind fun v356 => (f_X10_count v356 M).bind fun (v357, M357) => (if v355 = v357 then some (.inl ((x4 + (7 : Int32)), M357)) else some (.inr (.inl M357)))
def f_L_law__b23 (xs : Nat → Int32) (L : Nat) : (Int32 × Mm) → Option ((Int32 × Mm) ⊕ (Mm ⊕ Mm)) := fun (x4, M) => (if ((Int32.ofNat L) - (7 : Int32)) < x4 then some (.inr (.inr M)) else (ax xs L x4).bind fun v2 => (if (v2 &&& (63 : Int32)) = 0 then f_L_case_0 xs L x4 M else (if (v2 &&& (63 : Int32)) = 1 then f_L_case_1 xs L x4 M else (if (v2 &&& (63 : Int32)) = 2 then f_L_case_2 xs L x4 M else (if (v2 &&& (63 : Int32)) = 3 then f_L_case_3 xs L x4 M else (if (v2 &&& (63 : Int32)) = 4 then f_L_case_4 xs L x4 M else (if (v2 &&& (63 : Int32)) = 5 then f_L_case_5 xs L x4 M else (if (v2 &&& (63 : Int32)) = 6 then f_L_case_6 xs L x4 M else (if (v2 &&& (63 : Int32)) = 7 then f_L_case_7 xs L x4 M else (if (v2 &&& (63 : Int32)) = 8 then f_L_case_8 xs L x4 M else (if (v2 &&& (63 : Int32)) = 9 then f_L_case_9 xs L x4 M else (if (v2 &&& (63 : Int32)) = 10 then f_L_case_10 xs L x4 M else (if (v2 &&& (63 : Int32)) = 11 then f_L_case_11 xs L x4 M else (if (v2 &&& (63 : Int32)) = 12 then f_L_case_12 xs L x4 M else (if (v2 &&& (63 : Int32)) = 13 then f_L_case_13 xs L x4 M else (if (v2 &&& (63 : Int32)) = 14 then f_L_case_14 xs L x4 M else (if (v2 &&& (63 : Int32)) = 15 then f_L_case_15 xs L x4 M else (if (v2 &&& (63 : Int32)) = 16 then f_L_case_16 xs L x4 M else (if (v2 &&& (63 : Int32)) = 17 then f_L_case_17 xs L x4 M else (if (v2 &&& (63 : Int32)) = 18 then f_L_case_18 xs L x4 M else (if (v2 &&& (63 : Int32)) = 19 then f_L_case_19 xs L x4 M else (if (v2 &&& (63 : Int32)) = 20 then f_L_case_20 xs L x4 M else (if (v2 &&& (63 : Int32)) = 21 then f_L_case_21 xs L x4 M else (if (v2 &&& (63 : Int32)) = 22 then f_L_case_22 xs L x4 M else (if (v2 &&& (63 : Int32)) = 23 then f_L_case_23 xs L x4 M else (if (v2 &&& (63 : Int32)) = 24 then f_L_case_24 xs L x4 M else (if (v2 &&& (63 : Int32)) = 25 then f_L_case_25 xs L x4 M else (if (v2 &&& (63 : Int32)) = 26 then f_L_case_26 xs L x4 M else (if (v2 &&& (63 : Int32)) = 27 then f_L_case_27 xs L x4 M else (if (v2 &&& (63 : Int32)) = 28 then f_L_case_28 xs L x4 M else (if (v2 &&& (63 : Int32)) = 29 then f_L_case_29 xs L x4 M else (if (v2 &&& (63 : Int32)) = 30 then f_L_case_30 xs L x4 M else (if (v2 &&& (63 : Int32)) = 31 then f_L_case_31 xs L x4 M else (if (v2 &&& (63 : Int32)) = 32 then f_L_case_32 xs L x4 M else (if (v2 &&& (63 : Int32)) = 33 then f_L_case_33 xs L x4 M else (if (v2 &&& (63 : Int32)) = 34 then f_L_case_34 xs L x4 M else some (.inl ((x4 + (7 : Int32)), M))))))))))))))))))))))))))))))))))))))
def f_L_law_20 (xs : Nat → Int32) (L : Nat) (M : Mm) : Option (Int32 × Mm) := (whl fu (f_L_law__b23 xs L) ((0 : Int32), M)).bind fun e359 => (match e359 with | .inl M359 => some ((0 : Int32), M359) | .inr M359 => some ((1 : Int32), M359))
section NB
variable {l : Launch} {s0 : State} {b L : Nat} {xs : Nat → Int32} {D : va_G} {cy : Nat → ClassId} {ad : Nat → Nat} {P : Nat → Prop}
set_option maxRecDepth 100000 in
abbrev P_L_law__b23 (l : Launch) (s0 : State) (D : va_G) (cy : Nat → ClassId) (ad : Nat → Nat) (P : Nat → Prop)   (res : Rs) (M' : Mm) (s : (Int32 × Mm)) : Prop := Rn l s0 D cy ad P 77 KLAW 23 [.ref 100000, .ref 0, .ref 76, .ref 275, .int (s.1), .null, .null, .null] [] (s.2) res M'
set_option maxRecDepth 100000 in
abbrev Q_L_law__b23 (l : Launch) (s0 : State) (D : va_G) (cy : Nat → ClassId) (ad : Nat → Nat) (P : Nat → Prop)   (res : Rs) (M' : Mm) (e : (Mm ⊕ Mm)) : Prop := (match e with | .inl e => (res = .inl (some (.int 0)) ∧ M' = e) | .inr e => Rn l s0 D cy ad P 77 KLAW 2127 [.null, .null, .null, .null, .null, .null, .null, .null] [] (e) res M')
set_option maxRecDepth 100000 in
theorem B_L_law__j322 (G : GG l s0 b L xs D cy ad) {x4 : Int32} {M : Mm}  {res : Rs} {M' : Mm} {r : ((Int32 × Mm) ⊕ (Mm ⊕ Mm))} (hp1 : P 0) (hp2 : P 76) (hp3 : P 275) (hr : f_L_law__j322 xs L x4 M = some r) (hk : mtc (P_L_law__b23 l s0 D cy ad P  res M') (Q_L_law__b23 l s0 D cy ad P  res M') r) : Rn l s0 D cy ad P 77 KLAW 322 [.ref 100000, .ref 0, .ref 76, .ref 275, .int x4, .null, .null, .null] [] M res M' := by
  unfold f_L_law__j322 at hr
  refine n_goto (off := 1799) (tgt := 2121) (by decide +kernel) (by decide) ?_
  refine n_iincK (n := 4) (j := 7) (w := 7) (lo2 := [_, _, _, _, _, _, _, _]) (by decide +kernel) rfl rfl rfl ?_
  refine n_goto (off := -2101) (tgt := 23) (by decide +kernel) (by decide) ?_
  cases hr
  exact hk
set_option maxRecDepth 100000 in
theorem B_L_law__j390 (G : GG l s0 b L xs D cy ad) {x4 : Int32} {M : Mm}  {res : Rs} {M' : Mm} {r : ((Int32 × Mm) ⊕ (Mm ⊕ Mm))} (hp1 : P 0) (hp2 : P 76) (hp3 : P 275) (hr : f_L_law__j390 xs L x4 M = some r) (hk : mtc (P_L_law__b23 l s0 D cy ad P  res M') (Q_L_law__b23 l s0 D cy ad P  res M') r) : Rn l s0 D cy ad P 77 KLAW 390 [.ref 100000, .ref 0, .ref 76, .ref 275, .int x4, .null, .null, .null] [] M res M' := by
  unfold f_L_law__j390 at hr
  refine n_goto (off := 1731) (tgt := 2121) (by decide +kernel) (by decide) ?_
  refine n_iincK (n := 4) (j := 7) (w := 7) (lo2 := [_, _, _, _, _, _, _, _]) (by decide +kernel) rfl rfl rfl ?_
  refine n_goto (off := -2101) (tgt := 23) (by decide +kernel) (by decide) ?_
  cases hr
  exact hk
set_option maxRecDepth 100000 in
theorem B_L_law__j446 (G : GG l s0 b L xs D cy ad) {x4 : Int32} {M : Mm}  {res : Rs} {M' : Mm} {r : ((Int32 × Mm) ⊕ (Mm ⊕ Mm))} (hp1 : P 0) (hp2 : P 76) (hp3 : P 275) (hr : f_L_law__j446 xs L x4 M = some r) (hk : mtc (P_L_law__b23 l s0 D cy ad P  res M') (Q_L_law__b23 l s0 D cy ad P  res M') r) : Rn l s0 D cy ad P 77 KLAW 446 [.ref 100000, .ref 0, .ref 76, .ref 275, .int x4, .null, .null, .null] [] M res M' := by
  unfold f_L_law__j446 at hr
  refine n_goto (off := 1675) (tgt := 2121) (by decide +kernel) (by decide) ?_
  refine n_iincK (n := 4) (j := 7) (w := 7) (lo2 := [_, _, _, _, _, _, _, _]) (by decide +kernel) rfl rfl rfl ?_
  refine n_goto (off := -2101) (tgt := 23) (by decide +kernel) (by decide) ?_
  cases hr
  exact hk
set_option maxRecDepth 100000 in
theorem B_L_law__j502 (G : GG l s0 b L xs D cy ad) {x4 : Int32} {M : Mm}  {res : Rs} {M' : Mm} {r : ((Int32 × Mm) ⊕ (Mm ⊕ Mm))} (hp1 : P 0) (hp2 : P 76) (hp3 : P 275) (hr : f_L_law__j502 xs L x4 M = some r) (hk : mtc (P_L_law__b23 l s0 D cy ad P  res M') (Q_L_law__b23 l s0 D cy ad P  res M') r) : Rn l s0 D cy ad P 77 KLAW 502 [.ref 100000, .ref 0, .ref 76, .ref 275, .int x4, .null, .null, .null] [] M res M' := by
  unfold f_L_law__j502 at hr
  refine n_goto (off := 1619) (tgt := 2121) (by decide +kernel) (by decide) ?_
  refine n_iincK (n := 4) (j := 7) (w := 7) (lo2 := [_, _, _, _, _, _, _, _]) (by decide +kernel) rfl rfl rfl ?_
  refine n_goto (off := -2101) (tgt := 23) (by decide +kernel) (by decide) ?_
  cases hr
  exact hk
set_option maxRecDepth 100000 in
theorem B_L_law__j584 (G : GG l s0 b L xs D cy ad) {x4 : Int32} {M : Mm}  {res : Rs} {M' : Mm} {r : ((Int32 × Mm) ⊕ (Mm ⊕ Mm))} (hp1 : P 0) (hp2 : P 76) (hp3 : P 275) (hr : f_L_law__j584 xs L x4 M = some r) (hk : mtc (P_L_law__b23 l s0 D cy ad P  res M') (Q_L_law__b23 l s0 D cy ad P  res M') r) : Rn l s0 D cy ad P 77 KLAW 584 [.ref 100000, .ref 0, .ref 76, .ref 275, .int x4, .null, .null, .null] [] M res M' := by
  unfold f_L_law__j584 at hr
  refine n_goto (off := 1537) (tgt := 2121) (by decide +kernel) (by decide) ?_
  refine n_iincK (n := 4) (j := 7) (w := 7) (lo2 := [_, _, _, _, _, _, _, _]) (by decide +kernel) rfl rfl rfl ?_
  refine n_goto (off := -2101) (tgt := 23) (by decide +kernel) (by decide) ?_
  cases hr
  exact hk
set_option maxRecDepth 100000 in
theorem B_L_law__j652 (G : GG l s0 b L xs D cy ad) {x4 : Int32} {M : Mm}  {res : Rs} {M' : Mm} {r : ((Int32 × Mm) ⊕ (Mm ⊕ Mm))} (hp1 : P 0) (hp2 : P 76) (hp3 : P 275) (hr : f_L_law__j652 xs L x4 M = some r) (hk : mtc (P_L_law__b23 l s0 D cy ad P  res M') (Q_L_law__b23 l s0 D cy ad P  res M') r) : Rn l s0 D cy ad P 77 KLAW 652 [.ref 100000, .ref 0, .ref 76, .ref 275, .int x4, .null, .null, .null] [] M res M' := by
  unfold f_L_law__j652 at hr
  refine n_goto (off := 1469) (tgt := 2121) (by decide +kernel) (by decide) ?_
  refine n_iincK (n := 4) (j := 7) (w := 7) (lo2 := [_, _, _, _, _, _, _, _]) (by decide +kernel) rfl rfl rfl ?_
  refine n_goto (off := -2101) (tgt := 23) (by decide +kernel) (by decide) ?_
  cases hr
  exact hk
set_option maxRecDepth 100000 in
theorem B_L_law__j732 (G : GG l s0 b L xs D cy ad) {x4 : Int32} {M : Mm}  {res : Rs} {M' : Mm} {r : ((Int32 × Mm) ⊕ (Mm ⊕ Mm))} (hp1 : P 0) (hp2 : P 76) (hp3 : P 275) (hr : f_L_law__j732 xs L x4 M = some r) (hk : mtc (P_L_law__b23 l s0 D cy ad P  res M') (Q_L_law__b23 l s0 D cy ad P  res M') r) : Rn l s0 D cy ad P 77 KLAW 732 [.ref 100000, .ref 0, .ref 76, .ref 275, .int x4, .null, .null, .null] [] M res M' := by
  unfold f_L_law__j732 at hr
  refine n_goto (off := 1389) (tgt := 2121) (by decide +kernel) (by decide) ?_
  refine n_iincK (n := 4) (j := 7) (w := 7) (lo2 := [_, _, _, _, _, _, _, _]) (by decide +kernel) rfl rfl rfl ?_
  refine n_goto (off := -2101) (tgt := 23) (by decide +kernel) (by decide) ?_
  cases hr
  exact hk
set_option maxRecDepth 100000 in
theorem B_L_law__j788 (G : GG l s0 b L xs D cy ad) {x4 : Int32} {M : Mm}  {res : Rs} {M' : Mm} {r : ((Int32 × Mm) ⊕ (Mm ⊕ Mm))} (hp1 : P 0) (hp2 : P 76) (hp3 : P 275) (hr : f_L_law__j788 xs L x4 M = some r) (hk : mtc (P_L_law__b23 l s0 D cy ad P  res M') (Q_L_law__b23 l s0 D cy ad P  res M') r) : Rn l s0 D cy ad P 77 KLAW 788 [.ref 100000, .ref 0, .ref 76, .ref 275, .int x4, .null, .null, .null] [] M res M' := by
  unfold f_L_law__j788 at hr
  refine n_goto (off := 1333) (tgt := 2121) (by decide +kernel) (by decide) ?_
  refine n_iincK (n := 4) (j := 7) (w := 7) (lo2 := [_, _, _, _, _, _, _, _]) (by decide +kernel) rfl rfl rfl ?_
  refine n_goto (off := -2101) (tgt := 23) (by decide +kernel) (by decide) ?_
  cases hr
  exact hk
set_option maxRecDepth 100000 in
theorem B_L_law__j844 (G : GG l s0 b L xs D cy ad) {x4 : Int32} {M : Mm}  {res : Rs} {M' : Mm} {r : ((Int32 × Mm) ⊕ (Mm ⊕ Mm))} (hp1 : P 0) (hp2 : P 76) (hp3 : P 275) (hr : f_L_law__j844 xs L x4 M = some r) (hk : mtc (P_L_law__b23 l s0 D cy ad P  res M') (Q_L_law__b23 l s0 D cy ad P  res M') r) : Rn l s0 D cy ad P 77 KLAW 844 [.ref 100000, .ref 0, .ref 76, .ref 275, .int x4, .null, .null, .null] [] M res M' := by
  unfold f_L_law__j844 at hr
  refine n_goto (off := 1277) (tgt := 2121) (by decide +kernel) (by decide) ?_
  refine n_iincK (n := 4) (j := 7) (w := 7) (lo2 := [_, _, _, _, _, _, _, _]) (by decide +kernel) rfl rfl rfl ?_
  refine n_goto (off := -2101) (tgt := 23) (by decide +kernel) (by decide) ?_
  cases hr
  exact hk
set_option maxRecDepth 100000 in
theorem B_L_law__j924 (G : GG l s0 b L xs D cy ad) {x4 : Int32} {M : Mm}  {res : Rs} {M' : Mm} {r : ((Int32 × Mm) ⊕ (Mm ⊕ Mm))} (hp1 : P 0) (hp2 : P 76) (hp3 : P 275) (hr : f_L_law__j924 xs L x4 M = some r) (hk : mtc (P_L_law__b23 l s0 D cy ad P  res M') (Q_L_law__b23 l s0 D cy ad P  res M') r) : Rn l s0 D cy ad P 77 KLAW 924 [.ref 100000, .ref 0, .ref 76, .ref 275, .int x4, .null, .null, .null] [] M res M' := by
  unfold f_L_law__j924 at hr
  refine n_goto (off := 1197) (tgt := 2121) (by decide +kernel) (by decide) ?_
  refine n_iincK (n := 4) (j := 7) (w := 7) (lo2 := [_, _, _, _, _, _, _, _]) (by decide +kernel) rfl rfl rfl ?_
  refine n_goto (off := -2101) (tgt := 23) (by decide +kernel) (by decide) ?_
  cases hr
  exact hk
set_option maxRecDepth 100000 in
theorem B_L_law__j992 (G : GG l s0 b L xs D cy ad) {x4 : Int32} {M : Mm}  {res : Rs} {M' : Mm} {r : ((Int32 × Mm) ⊕ (Mm ⊕ Mm))} (hp1 : P 0) (hp2 : P 76) (hp3 : P 275) (hr : f_L_law__j992 xs L x4 M = some r) (hk : mtc (P_L_law__b23 l s0 D cy ad P  res M') (Q_L_law__b23 l s0 D cy ad P  res M') r) : Rn l s0 D cy ad P 77 KLAW 992 [.ref 100000, .ref 0, .ref 76, .ref 275, .int x4, .null, .null, .null] [] M res M' := by
  unfold f_L_law__j992 at hr
  refine n_goto (off := 1129) (tgt := 2121) (by decide +kernel) (by decide) ?_
  refine n_iincK (n := 4) (j := 7) (w := 7) (lo2 := [_, _, _, _, _, _, _, _]) (by decide +kernel) rfl rfl rfl ?_
  refine n_goto (off := -2101) (tgt := 23) (by decide +kernel) (by decide) ?_
  cases hr
  exact hk
set_option maxRecDepth 100000 in
theorem B_L_law__j1048 (G : GG l s0 b L xs D cy ad) {x4 : Int32} {M : Mm}  {res : Rs} {M' : Mm} {r : ((Int32 × Mm) ⊕ (Mm ⊕ Mm))} (hp1 : P 0) (hp2 : P 76) (hp3 : P 275) (hr : f_L_law__j1048 xs L x4 M = some r) (hk : mtc (P_L_law__b23 l s0 D cy ad P  res M') (Q_L_law__b23 l s0 D cy ad P  res M') r) : Rn l s0 D cy ad P 77 KLAW 1048 [.ref 100000, .ref 0, .ref 76, .ref 275, .int x4, .null, .null, .null] [] M res M' := by
  unfold f_L_law__j1048 at hr
  refine n_goto (off := 1073) (tgt := 2121) (by decide +kernel) (by decide) ?_
  refine n_iincK (n := 4) (j := 7) (w := 7) (lo2 := [_, _, _, _, _, _, _, _]) (by decide +kernel) rfl rfl rfl ?_
  refine n_goto (off := -2101) (tgt := 23) (by decide +kernel) (by decide) ?_
  cases hr
  exact hk
set_option maxRecDepth 100000 in
theorem B_L_law__j1116 (G : GG l s0 b L xs D cy ad) {x4 : Int32} {M : Mm}  {res : Rs} {M' : Mm} {r : ((Int32 × Mm) ⊕ (Mm ⊕ Mm))} (hp1 : P 0) (hp2 : P 76) (hp3 : P 275) (hr : f_L_law__j1116 xs L x4 M = some r) (hk : mtc (P_L_law__b23 l s0 D cy ad P  res M') (Q_L_law__b23 l s0 D cy ad P  res M') r) : Rn l s0 D cy ad P 77 KLAW 1116 [.ref 100000, .ref 0, .ref 76, .ref 275, .int x4, .null, .null, .null] [] M res M' := by
  unfold f_L_law__j1116 at hr
  refine n_goto (off := 1005) (tgt := 2121) (by decide +kernel) (by decide) ?_
  refine n_iincK (n := 4) (j := 7) (w := 7) (lo2 := [_, _, _, _, _, _, _, _]) (by decide +kernel) rfl rfl rfl ?_
  refine n_goto (off := -2101) (tgt := 23) (by decide +kernel) (by decide) ?_
  cases hr
  exact hk
set_option maxRecDepth 100000 in
theorem B_L_law__j1171 (G : GG l s0 b L xs D cy ad) {x4 : Int32} {M : Mm}  {res : Rs} {M' : Mm} {r : ((Int32 × Mm) ⊕ (Mm ⊕ Mm))} (hp1 : P 0) (hp2 : P 76) (hp3 : P 275) (hr : f_L_law__j1171 xs L x4 M = some r) (hk : mtc (P_L_law__b23 l s0 D cy ad P  res M') (Q_L_law__b23 l s0 D cy ad P  res M') r) : Rn l s0 D cy ad P 77 KLAW 1171 [.ref 100000, .ref 0, .ref 76, .ref 275, .int x4, .null, .null, .null] [] M res M' := by
  unfold f_L_law__j1171 at hr
  refine n_goto (off := 950) (tgt := 2121) (by decide +kernel) (by decide) ?_
  refine n_iincK (n := 4) (j := 7) (w := 7) (lo2 := [_, _, _, _, _, _, _, _]) (by decide +kernel) rfl rfl rfl ?_
  refine n_goto (off := -2101) (tgt := 23) (by decide +kernel) (by decide) ?_
  cases hr
  exact hk
set_option maxRecDepth 100000 in
theorem B_L_law__j1239 (G : GG l s0 b L xs D cy ad) {x4 : Int32} {M : Mm}  {res : Rs} {M' : Mm} {r : ((Int32 × Mm) ⊕ (Mm ⊕ Mm))} (hp1 : P 0) (hp2 : P 76) (hp3 : P 275) (hr : f_L_law__j1239 xs L x4 M = some r) (hk : mtc (P_L_law__b23 l s0 D cy ad P  res M') (Q_L_law__b23 l s0 D cy ad P  res M') r) : Rn l s0 D cy ad P 77 KLAW 1239 [.ref 100000, .ref 0, .ref 76, .ref 275, .int x4, .null, .null, .null] [] M res M' := by
  unfold f_L_law__j1239 at hr
  refine n_goto (off := 882) (tgt := 2121) (by decide +kernel) (by decide) ?_
  refine n_iincK (n := 4) (j := 7) (w := 7) (lo2 := [_, _, _, _, _, _, _, _]) (by decide +kernel) rfl rfl rfl ?_
  refine n_goto (off := -2101) (tgt := 23) (by decide +kernel) (by decide) ?_
  cases hr
  exact hk
set_option maxRecDepth 100000 in
theorem B_L_law__j1307 (G : GG l s0 b L xs D cy ad) {x4 : Int32} {M : Mm}  {res : Rs} {M' : Mm} {r : ((Int32 × Mm) ⊕ (Mm ⊕ Mm))} (hp1 : P 0) (hp2 : P 76) (hp3 : P 275) (hr : f_L_law__j1307 xs L x4 M = some r) (hk : mtc (P_L_law__b23 l s0 D cy ad P  res M') (Q_L_law__b23 l s0 D cy ad P  res M') r) : Rn l s0 D cy ad P 77 KLAW 1307 [.ref 100000, .ref 0, .ref 76, .ref 275, .int x4, .null, .null, .null] [] M res M' := by
  unfold f_L_law__j1307 at hr
  refine n_goto (off := 814) (tgt := 2121) (by decide +kernel) (by decide) ?_
  refine n_iincK (n := 4) (j := 7) (w := 7) (lo2 := [_, _, _, _, _, _, _, _]) (by decide +kernel) rfl rfl rfl ?_
  refine n_goto (off := -2101) (tgt := 23) (by decide +kernel) (by decide) ?_
  cases hr
  exact hk
set_option maxRecDepth 100000 in
theorem B_L_law__j1374 (G : GG l s0 b L xs D cy ad) {x4 : Int32} {M : Mm}  {res : Rs} {M' : Mm} {r : ((Int32 × Mm) ⊕ (Mm ⊕ Mm))} (hp1 : P 0) (hp2 : P 76) (hp3 : P 275) (hr : f_L_law__j1374 xs L x4 M = some r) (hk : mtc (P_L_law__b23 l s0 D cy ad P  res M') (Q_L_law__b23 l s0 D cy ad P  res M') r) : Rn l s0 D cy ad P 77 KLAW 1374 [.ref 100000, .ref 0, .ref 76, .ref 275, .int x4, .null, .null, .null] [] M res M' := by
  unfold f_L_law__j1374 at hr
  refine n_goto (off := 747) (tgt := 2121) (by decide +kernel) (by decide) ?_
  refine n_iincK (n := 4) (j := 7) (w := 7) (lo2 := [_, _, _, _, _, _, _, _]) (by decide +kernel) rfl rfl rfl ?_
  refine n_goto (off := -2101) (tgt := 23) (by decide +kernel) (by decide) ?_
  cases hr
  exact hk
set_option maxRecDepth 100000 in
theorem B_L_law__j1466 (G : GG l s0 b L xs D cy ad) {x4 : Int32} {M : Mm}  {res : Rs} {M' : Mm} {r : ((Int32 × Mm) ⊕ (Mm ⊕ Mm))} (hp1 : P 0) (hp2 : P 76) (hp3 : P 275) (hr : f_L_law__j1466 xs L x4 M = some r) (hk : mtc (P_L_law__b23 l s0 D cy ad P  res M') (Q_L_law__b23 l s0 D cy ad P  res M') r) : Rn l s0 D cy ad P 77 KLAW 1466 [.ref 100000, .ref 0, .ref 76, .ref 275, .int x4, .null, .null, .null] [] M res M' := by
  unfold f_L_law__j1466 at hr
  refine n_goto (off := 655) (tgt := 2121) (by decide +kernel) (by decide) ?_
  refine n_iincK (n := 4) (j := 7) (w := 7) (lo2 := [_, _, _, _, _, _, _, _]) (by decide +kernel) rfl rfl rfl ?_
  refine n_goto (off := -2101) (tgt := 23) (by decide +kernel) (by decide) ?_
  cases hr
  exact hk
set_option maxRecDepth 100000 in
theorem B_L_law__j1534 (G : GG l s0 b L xs D cy ad) {x4 : Int32} {M : Mm}  {res : Rs} {M' : Mm} {r : ((Int32 × Mm) ⊕ (Mm ⊕ Mm))} (hp1 : P 0) (hp2 : P 76) (hp3 : P 275) (hr : f_L_law__j1534 xs L x4 M = some r) (hk : mtc (P_L_law__b23 l s0 D cy ad P  res M') (Q_L_law__b23 l s0 D cy ad P  res M') r) : Rn l s0 D cy ad P 77 KLAW 1534 [.ref 100000, .ref 0, .ref 76, .ref 275, .int x4, .null, .null, .null] [] M res M' := by
  unfold f_L_law__j1534 at hr
  refine n_goto (off := 587) (tgt := 2121) (by decide +kernel) (by decide) ?_
  refine n_iincK (n := 4) (j := 7) (w := 7) (lo2 := [_, _, _, _, _, _, _, _]) (by decide +kernel) rfl rfl rfl ?_
  refine n_goto (off := -2101) (tgt := 23) (by decide +kernel) (by decide) ?_
  cases hr
  exact hk
set_option maxRecDepth 100000 in
theorem B_L_law__j1602 (G : GG l s0 b L xs D cy ad) {x4 : Int32} {M : Mm}  {res : Rs} {M' : Mm} {r : ((Int32 × Mm) ⊕ (Mm ⊕ Mm))} (hp1 : P 0) (hp2 : P 76) (hp3 : P 275) (hr : f_L_law__j1602 xs L x4 M = some r) (hk : mtc (P_L_law__b23 l s0 D cy ad P  res M') (Q_L_law__b23 l s0 D cy ad P  res M') r) : Rn l s0 D cy ad P 77 KLAW 1602 [.ref 100000, .ref 0, .ref 76, .ref 275, .int x4, .null, .null, .null] [] M res M' := by
  unfold f_L_law__j1602 at hr
  refine n_goto (off := 519) (tgt := 2121) (by decide +kernel) (by decide) ?_
  refine n_iincK (n := 4) (j := 7) (w := 7) (lo2 := [_, _, _, _, _, _, _, _]) (by decide +kernel) rfl rfl rfl ?_
  refine n_goto (off := -2101) (tgt := 23) (by decide +kernel) (by decide) ?_
  cases hr
  exact hk
set_option maxRecDepth 100000 in
theorem B_L_law__j1707 (G : GG l s0 b L xs D cy ad) {x4 : Int32} {M : Mm}  {res : Rs} {M' : Mm} {r : ((Int32 × Mm) ⊕ (Mm ⊕ Mm))} (hp1 : P 0) (hp2 : P 76) (hp3 : P 275) (hr : f_L_law__j1707 xs L x4 M = some r) (hk : mtc (P_L_law__b23 l s0 D cy ad P  res M') (Q_L_law__b23 l s0 D cy ad P  res M') r) : Rn l s0 D cy ad P 77 KLAW 1707 [.ref 100000, .ref 0, .ref 76, .ref 275, .int x4, .null, .null, .null] [] M res M' := by
  unfold f_L_law__j1707 at hr
  refine n_goto (off := 414) (tgt := 2121) (by decide +kernel) (by decide) ?_
  refine n_iincK (n := 4) (j := 7) (w := 7) (lo2 := [_, _, _, _, _, _, _, _]) (by decide +kernel) rfl rfl rfl ?_
  refine n_goto (off := -2101) (tgt := 23) (by decide +kernel) (by decide) ?_
  cases hr
  exact hk
set_option maxRecDepth 100000 in
theorem B_L_law__j1825 (G : GG l s0 b L xs D cy ad) {x4 : Int32} {M : Mm}  {res : Rs} {M' : Mm} {r : ((Int32 × Mm) ⊕ (Mm ⊕ Mm))} (hp1 : P 0) (hp2 : P 76) (hp3 : P 275) (hr : f_L_law__j1825 xs L x4 M = some r) (hk : mtc (P_L_law__b23 l s0 D cy ad P  res M') (Q_L_law__b23 l s0 D cy ad P  res M') r) : Rn l s0 D cy ad P 77 KLAW 1825 [.ref 100000, .ref 0, .ref 76, .ref 275, .int x4, .null, .null, .null] [] M res M' := by
  unfold f_L_law__j1825 at hr
  refine n_goto (off := 296) (tgt := 2121) (by decide +kernel) (by decide) ?_
  refine n_iincK (n := 4) (j := 7) (w := 7) (lo2 := [_, _, _, _, _, _, _, _]) (by decide +kernel) rfl rfl rfl ?_
  refine n_goto (off := -2101) (tgt := 23) (by decide +kernel) (by decide) ?_
  cases hr
  exact hk
set_option maxRecDepth 100000 in
theorem B_L_law__j1881 (G : GG l s0 b L xs D cy ad) {x4 : Int32} {M : Mm}  {res : Rs} {M' : Mm} {r : ((Int32 × Mm) ⊕ (Mm ⊕ Mm))} (hp1 : P 0) (hp2 : P 76) (hp3 : P 275) (hr : f_L_law__j1881 xs L x4 M = some r) (hk : mtc (P_L_law__b23 l s0 D cy ad P  res M') (Q_L_law__b23 l s0 D cy ad P  res M') r) : Rn l s0 D cy ad P 77 KLAW 1881 [.ref 100000, .ref 0, .ref 76, .ref 275, .int x4, .null, .null, .null] [] M res M' := by
  unfold f_L_law__j1881 at hr
  refine n_goto (off := 240) (tgt := 2121) (by decide +kernel) (by decide) ?_
  refine n_iincK (n := 4) (j := 7) (w := 7) (lo2 := [_, _, _, _, _, _, _, _]) (by decide +kernel) rfl rfl rfl ?_
  refine n_goto (off := -2101) (tgt := 23) (by decide +kernel) (by decide) ?_
  cases hr
  exact hk
set_option maxRecDepth 100000 in
theorem B_L_law__j1949 (G : GG l s0 b L xs D cy ad) {x4 : Int32} {M : Mm}  {res : Rs} {M' : Mm} {r : ((Int32 × Mm) ⊕ (Mm ⊕ Mm))} (hp1 : P 0) (hp2 : P 76) (hp3 : P 275) (hr : f_L_law__j1949 xs L x4 M = some r) (hk : mtc (P_L_law__b23 l s0 D cy ad P  res M') (Q_L_law__b23 l s0 D cy ad P  res M') r) : Rn l s0 D cy ad P 77 KLAW 1949 [.ref 100000, .ref 0, .ref 76, .ref 275, .int x4, .null, .null, .null] [] M res M' := by
  unfold f_L_law__j1949 at hr
  refine n_goto (off := 172) (tgt := 2121) (by decide +kernel) (by decide) ?_
  refine n_iincK (n := 4) (j := 7) (w := 7) (lo2 := [_, _, _, _, _, _, _, _]) (by decide +kernel) rfl rfl rfl ?_
  refine n_goto (off := -2101) (tgt := 23) (by decide +kernel) (by decide) ?_
  cases hr
  exact hk
set_option maxRecDepth 100000 in
theorem B_L_law__j2016 (G : GG l s0 b L xs D cy ad) {x4 : Int32} {M : Mm}  {res : Rs} {M' : Mm} {r : ((Int32 × Mm) ⊕ (Mm ⊕ Mm))} (hp1 : P 0) (hp2 : P 76) (hp3 : P 275) (hr : f_L_law__j2016 xs L x4 M = some r) (hk : mtc (P_L_law__b23 l s0 D cy ad P  res M') (Q_L_law__b23 l s0 D cy ad P  res M') r) : Rn l s0 D cy ad P 77 KLAW 2016 [.ref 100000, .ref 0, .ref 76, .ref 275, .int x4, .null, .null, .null] [] M res M' := by
  unfold f_L_law__j2016 at hr
  refine n_goto (off := 105) (tgt := 2121) (by decide +kernel) (by decide) ?_
  refine n_iincK (n := 4) (j := 7) (w := 7) (lo2 := [_, _, _, _, _, _, _, _]) (by decide +kernel) rfl rfl rfl ?_
  refine n_goto (off := -2101) (tgt := 23) (by decide +kernel) (by decide) ?_
  cases hr
  exact hk
set_option maxRecDepth 100000 in
theorem B_L_case_0 (G : GG l s0 b L xs D cy ad) {x4 : Int32} {M : Mm} {res : Rs} {M' : Mm} {r : ((Int32 × Mm) ⊕ (Mm ⊕ Mm))} (hp1 : P 0) (hp2 : P 76) (hp3 : P 275) (hr : f_L_case_0 xs L x4 M = some r) (hk : mtc (P_L_law__b23 l s0 D cy ad P  res M') (Q_L_law__b23 l s0 D cy ad P  res M') r) : Rn l s0 D cy ad P 77 KLAW 196 [.ref 100000, .ref 0, .ref 76, .ref 275, .int x4, .null, .null, .null] [] M res M' := by
  unfold f_L_case_0 at hr
  refine n_aload_n (n := 1) (by decide +kernel) rfl ?_
  refine n_aload_n (n := 0) (by decide +kernel) rfl ?_
  refine n_iload (n := 4) (by decide +kernel) rfl ?_
  refine n_iconst (n := 1) (v := 1) (by decide +kernel) rfl ?_
  refine n_iadd (by decide +kernel) ?_
  obtain ⟨v4, h4, hr⟩ := bso hr
  refine n_sld G h4 (by decide +kernel) ?_
  refine n_aload_n (n := 0) (by decide +kernel) rfl ?_
  refine n_iload (n := 4) (by decide +kernel) rfl ?_
  refine n_iconst (n := 2) (v := 2) (by decide +kernel) rfl ?_
  refine n_iadd (by decide +kernel) ?_
  obtain ⟨v5, h5, hr⟩ := bso hr
  refine n_sld G h5 (by decide +kernel) ?_
  refine n_aload_n (n := 0) (by decide +kernel) rfl ?_
  refine n_iload (n := 4) (by decide +kernel) rfl ?_
  refine n_iconst (n := 3) (v := 3) (by decide +kernel) rfl ?_
  refine n_iadd (by decide +kernel) ?_
  obtain ⟨v6, h6, hr⟩ := bso hr
  refine n_sld G h6 (by decide +kernel) ?_
  refine n_aload_n (n := 0) (by decide +kernel) rfl ?_
  refine n_iload (n := 4) (by decide +kernel) rfl ?_
  refine n_iconst (n := 4) (v := 4) (by decide +kernel) rfl ?_
  refine n_iadd (by decide +kernel) ?_
  obtain ⟨v7, h7, hr⟩ := bso hr
  refine n_sld G h7 (by decide +kernel) ?_
  refine n_aload_n (n := 0) (by decide +kernel) rfl ?_
  refine n_iload (n := 4) (by decide +kernel) rfl ?_
  refine n_iconst (n := 5) (v := 5) (by decide +kernel) rfl ?_
  refine n_iadd (by decide +kernel) ?_
  obtain ⟨v8, h8, hr⟩ := bso hr
  refine n_sld G h8 (by decide +kernel) ?_
  obtain ⟨⟨v9, M9⟩, h9, hr⟩ := bso hr
  try dsimp only at hr
  refine n_callVi G [_, _, _, _, _] (x := v9) (M1 := M9) (B_X9_feed G hp1 h9) (by decide) mX9_feed ml_RL_101 hp1 (by decide +kernel) rfl rfl (Nat.le_of_ble_eq_true rfl) (by decide +kernel) ?_
  refine n_aload_n (n := 2) (by decide +kernel) rfl ?_
  refine n_aload_n (n := 0) (by decide +kernel) rfl ?_
  refine n_iload (n := 4) (by decide +kernel) rfl ?_
  refine n_iconst (n := 1) (v := 1) (by decide +kernel) rfl ?_
  refine n_iadd (by decide +kernel) ?_
  obtain ⟨v10, h10, hr⟩ := bso hr
  refine n_sld G h10 (by decide +kernel) ?_
  refine n_aload_n (n := 0) (by decide +kernel) rfl ?_
  refine n_iload (n := 4) (by decide +kernel) rfl ?_
  refine n_iconst (n := 2) (v := 2) (by decide +kernel) rfl ?_
  refine n_iadd (by decide +kernel) ?_
  obtain ⟨v11, h11, hr⟩ := bso hr
  refine n_sld G h11 (by decide +kernel) ?_
  refine n_aload_n (n := 0) (by decide +kernel) rfl ?_
  refine n_iload (n := 4) (by decide +kernel) rfl ?_
  refine n_iconst (n := 3) (v := 3) (by decide +kernel) rfl ?_
  refine n_iadd (by decide +kernel) ?_
  obtain ⟨v12, h12, hr⟩ := bso hr
  refine n_sld G h12 (by decide +kernel) ?_
  refine n_aload_n (n := 0) (by decide +kernel) rfl ?_
  refine n_iload (n := 4) (by decide +kernel) rfl ?_
  refine n_iconst (n := 4) (v := 4) (by decide +kernel) rfl ?_
  refine n_iadd (by decide +kernel) ?_
  obtain ⟨v13, h13, hr⟩ := bso hr
  refine n_sld G h13 (by decide +kernel) ?_
  refine n_aload_n (n := 0) (by decide +kernel) rfl ?_
  refine n_iload (n := 4) (by decide +kernel) rfl ?_
  refine n_iconst (n := 5) (v := 5) (by decide +kernel) rfl ?_
  refine n_iadd (by decide +kernel) ?_
  obtain ⟨v14, h14, hr⟩ := bso hr
  refine n_sld G h14 (by decide +kernel) ?_
  obtain ⟨⟨v15, M15⟩, h15, hr⟩ := bso hr
  try dsimp only at hr
  refine n_callVi G [_, _, _, _, _] (x := v15) (M1 := M15) (B_X10_feed G hp2 h15) (by decide) mX10_feed ml_RL_105 hp2 (by decide +kernel) rfl rfl (Nat.le_of_ble_eq_true rfl) (by decide +kernel) ?_
  refine n_icmp_eq (off := 1857) (tgt := 2121) (by decide +kernel) (by decide) (fun hc16 => ?_) (fun hc16 => ?_)
  · rw [if_pos hc16] at hr
    refine n_iincK (n := 4) (j := 7) (w := 7) (lo2 := [_, _, _, _, _, _, _, _]) (by decide +kernel) rfl rfl rfl ?_
    refine n_goto (off := -2101) (tgt := 23) (by decide +kernel) (by decide) ?_
    cases hr
    exact hk
  · rw [if_neg hc16] at hr
    cases hr
    obtain ⟨h9, h8⟩ := hk
    subst h9; subst h8
    refine n_iconst (n := 0) (v := 0) (by decide +kernel) rfl ?_
    exact n_ireturn (by decide +kernel)
set_option maxRecDepth 100000 in
theorem B_L_case_1 (G : GG l s0 b L xs D cy ad) {x4 : Int32} {M : Mm} {res : Rs} {M' : Mm} {r : ((Int32 × Mm) ⊕ (Mm ⊕ Mm))} (hp1 : P 0) (hp2 : P 76) (hp3 : P 275) (hr : f_L_case_1 xs L x4 M = some r) (hk : mtc (P_L_law__b23 l s0 D cy ad P  res M') (Q_L_law__b23 l s0 D cy ad P  res M') r) : Rn l s0 D cy ad P 77 KLAW 269 [.ref 100000, .ref 0, .ref 76, .ref 275, .int x4, .null, .null, .null] [] M res M' := by
  unfold f_L_case_1 at hr
  refine n_aload_n (n := 1) (by decide +kernel) rfl ?_
  refine n_aload_n (n := 0) (by decide +kernel) rfl ?_
  refine n_iload (n := 4) (by decide +kernel) rfl ?_
  refine n_iconst (n := 1) (v := 1) (by decide +kernel) rfl ?_
  refine n_iadd (by decide +kernel) ?_
  obtain ⟨v18, h18, hr⟩ := bso hr
  refine n_sld G h18 (by decide +kernel) ?_
  refine n_aload_n (n := 3) (by decide +kernel) rfl ?_
  obtain ⟨⟨v19, M19⟩, h19, hr⟩ := bso hr
  try dsimp only at hr
  refine n_callSWi G [_, _, _] (x := v19) (M1 := M19) (B_L_field G hp1 hp3 h19) (by decide) mL_field ml_RL_106 rfl rfl (Nat.le_of_ble_eq_true rfl) (by decide +kernel) ?_
  refine n_istore (n := 5) (lo2 := [_, _, _, _, _, _, _, _]) (by decide +kernel) (Nat.le_of_ble_eq_true rfl) rfl ?_
  refine n_aload_n (n := 2) (by decide +kernel) rfl ?_
  refine n_aload_n (n := 0) (by decide +kernel) rfl ?_
  refine n_iload (n := 4) (by decide +kernel) rfl ?_
  refine n_iconst (n := 1) (v := 1) (by decide +kernel) rfl ?_
  refine n_iadd (by decide +kernel) ?_
  obtain ⟨v20, h20, hr⟩ := bso hr
  refine n_sld G h20 (by decide +kernel) ?_
  obtain ⟨⟨v21, M21⟩, h21, hr⟩ := bso hr
  try dsimp only at hr
  refine n_callVi G [_] (x := v21) (M1 := M21) (B_X10_field G hp2 h21) (by decide) mX10_field ml_RL_111 hp2 (by decide +kernel) rfl rfl (Nat.le_of_ble_eq_true rfl) (by decide +kernel) ?_
  refine n_istore (n := 6) (lo2 := [_, _, _, _, _, _, _, _]) (by decide +kernel) (Nat.le_of_ble_eq_true rfl) rfl ?_
  refine n_aload_n (n := 2) (by decide +kernel) rfl ?_
  obtain ⟨v22, h22, hr⟩ := bso hr
  refine n_callVi G [] (x := v22) (B_X10_thrown G hp2 h22) (by decide) mX10_thrown ml_RL_112 hp2 (by decide +kernel) rfl rfl (Nat.le_of_ble_eq_true rfl) (by decide +kernel) ?_
  refine n_iload (n := 5) (by decide +kernel) rfl ?_
  refine n_icmp_eq (off := 5) (tgt := 305) (by decide +kernel) (by decide) (fun hc23 => ?_) (fun hc23 => ?_)
  · rw [if_pos hc23] at hr
    refine n_iload (n := 5) (by decide +kernel) rfl ?_
    refine n_if_ne (off := 15) (tgt := 322) (by decide +kernel) (by decide) (fun hc24 => ?_) (fun hc24 => ?_)
    · rw [if_neg hc24] at hr
      refine n_msk [true, true, true, true, true, false, false, false] (lo2 := [_, _, _, _, _, .null, .null, .null]) rfl rfl ?_
      exact B_L_law__j322 G hp1 hp2 hp3 hr hk
    · rw [if_pos hc24] at hr
      refine n_aload_n (n := 3) (by decide +kernel) rfl ?_
      refine n_iconst (n := 0) (v := 0) (by decide +kernel) rfl ?_
      obtain ⟨v25, h25, hr⟩ := bso hr
      refine n_lald G h25 hp3 (by decide +kernel) (by decide +kernel) (by decide +kernel) ?_
      refine n_iload (n := 6) (by decide +kernel) rfl ?_
      refine n_i2l (by decide +kernel) ?_
      refine n_lcmp (by decide +kernel) ?_
      refine n_if_eq (off := 5) (tgt := 322) (by decide +kernel) (by decide) (fun hc26 => ?_) (fun hc26 => ?_)
      · rw [if_pos hc26] at hr
        refine n_msk [true, true, true, true, true, false, false, false] (lo2 := [_, _, _, _, _, .null, .null, .null]) rfl rfl ?_
        exact B_L_law__j322 G hp1 hp2 hp3 hr hk
      · rw [if_neg hc26] at hr
        cases hr
        obtain ⟨h9, h8⟩ := hk
        subst h9; subst h8
        refine n_iconst (n := 0) (v := 0) (by decide +kernel) rfl ?_
        exact n_ireturn (by decide +kernel)
  · rw [if_neg hc23] at hr
    cases hr
    obtain ⟨h9, h8⟩ := hk
    subst h9; subst h8
    refine n_iconst (n := 0) (v := 0) (by decide +kernel) rfl ?_
    exact n_ireturn (by decide +kernel)
set_option maxRecDepth 100000 in
theorem B_L_case_2 (G : GG l s0 b L xs D cy ad) {x4 : Int32} {M : Mm} {res : Rs} {M' : Mm} {r : ((Int32 × Mm) ⊕ (Mm ⊕ Mm))} (hp1 : P 0) (hp2 : P 76) (hp3 : P 275) (hr : f_L_case_2 xs L x4 M = some r) (hk : mtc (P_L_law__b23 l s0 D cy ad P  res M') (Q_L_law__b23 l s0 D cy ad P  res M') r) : Rn l s0 D cy ad P 77 KLAW 325 [.ref 100000, .ref 0, .ref 76, .ref 275, .int x4, .null, .null, .null] [] M res M' := by
  unfold f_L_case_2 at hr
  refine n_aload_n (n := 1) (by decide +kernel) rfl ?_
  refine n_aload_n (n := 0) (by decide +kernel) rfl ?_
  refine n_iload (n := 4) (by decide +kernel) rfl ?_
  refine n_iconst (n := 1) (v := 1) (by decide +kernel) rfl ?_
  refine n_iadd (by decide +kernel) ?_
  obtain ⟨v28, h28, hr⟩ := bso hr
  refine n_sld G h28 (by decide +kernel) ?_
  refine n_aload_n (n := 0) (by decide +kernel) rfl ?_
  refine n_iload (n := 4) (by decide +kernel) rfl ?_
  refine n_iconst (n := 2) (v := 2) (by decide +kernel) rfl ?_
  refine n_iadd (by decide +kernel) ?_
  obtain ⟨v29, h29, hr⟩ := bso hr
  refine n_sld G h29 (by decide +kernel) ?_
  refine n_aload_n (n := 3) (by decide +kernel) rfl ?_
  obtain ⟨⟨v30, M30⟩, h30, hr⟩ := bso hr
  try dsimp only at hr
  refine n_callSWi G [_, _, _, _] (x := v30) (M1 := M30) (B_L_law G hp1 hp3 h30) (by decide) mL_law ml_RL_116 rfl rfl (Nat.le_of_ble_eq_true rfl) (by decide +kernel) ?_
  refine n_istore (n := 5) (lo2 := [_, _, _, _, _, _, _, _]) (by decide +kernel) (Nat.le_of_ble_eq_true rfl) rfl ?_
  refine n_aload_n (n := 2) (by decide +kernel) rfl ?_
  refine n_aload_n (n := 0) (by decide +kernel) rfl ?_
  refine n_iload (n := 4) (by decide +kernel) rfl ?_
  refine n_iconst (n := 1) (v := 1) (by decide +kernel) rfl ?_
  refine n_iadd (by decide +kernel) ?_
  obtain ⟨v31, h31, hr⟩ := bso hr
  refine n_sld G h31 (by decide +kernel) ?_
  refine n_aload_n (n := 0) (by decide +kernel) rfl ?_
  refine n_iload (n := 4) (by decide +kernel) rfl ?_
  refine n_iconst (n := 2) (v := 2) (by decide +kernel) rfl ?_
  refine n_iadd (by decide +kernel) ?_
  obtain ⟨v32, h32, hr⟩ := bso hr
  refine n_sld G h32 (by decide +kernel) ?_
  obtain ⟨⟨v33, M33⟩, h33, hr⟩ := bso hr
  try dsimp only at hr
  refine n_callVi G [_, _] (x := v33) (M1 := M33) (B_X10_law G hp2 h33) (by decide) mX10_law ml_RL_119 hp2 (by decide +kernel) rfl rfl (Nat.le_of_ble_eq_true rfl) (by decide +kernel) ?_
  refine n_istore (n := 6) (lo2 := [_, _, _, _, _, _, _, _]) (by decide +kernel) (Nat.le_of_ble_eq_true rfl) rfl ?_
  refine n_aload_n (n := 2) (by decide +kernel) rfl ?_
  obtain ⟨v34, h34, hr⟩ := bso hr
  refine n_callVi G [] (x := v34) (B_X10_thrown G hp2 h34) (by decide) mX10_thrown ml_RL_112 hp2 (by decide +kernel) rfl rfl (Nat.le_of_ble_eq_true rfl) (by decide +kernel) ?_
  refine n_iload (n := 5) (by decide +kernel) rfl ?_
  refine n_icmp_eq (off := 5) (tgt := 373) (by decide +kernel) (by decide) (fun hc35 => ?_) (fun hc35 => ?_)
  · rw [if_pos hc35] at hr
    refine n_iload (n := 5) (by decide +kernel) rfl ?_
    refine n_if_ne (off := 15) (tgt := 390) (by decide +kernel) (by decide) (fun hc36 => ?_) (fun hc36 => ?_)
    · rw [if_neg hc36] at hr
      refine n_msk [true, true, true, true, true, false, false, false] (lo2 := [_, _, _, _, _, .null, .null, .null]) rfl rfl ?_
      exact B_L_law__j390 G hp1 hp2 hp3 hr hk
    · rw [if_pos hc36] at hr
      refine n_aload_n (n := 3) (by decide +kernel) rfl ?_
      refine n_iconst (n := 0) (v := 0) (by decide +kernel) rfl ?_
      obtain ⟨v37, h37, hr⟩ := bso hr
      refine n_lald G h37 hp3 (by decide +kernel) (by decide +kernel) (by decide +kernel) ?_
      refine n_iload (n := 6) (by decide +kernel) rfl ?_
      refine n_i2l (by decide +kernel) ?_
      refine n_lcmp (by decide +kernel) ?_
      refine n_if_eq (off := 5) (tgt := 390) (by decide +kernel) (by decide) (fun hc38 => ?_) (fun hc38 => ?_)
      · rw [if_pos hc38] at hr
        refine n_msk [true, true, true, true, true, false, false, false] (lo2 := [_, _, _, _, _, .null, .null, .null]) rfl rfl ?_
        exact B_L_law__j390 G hp1 hp2 hp3 hr hk
      · rw [if_neg hc38] at hr
        cases hr
        obtain ⟨h9, h8⟩ := hk
        subst h9; subst h8
        refine n_iconst (n := 0) (v := 0) (by decide +kernel) rfl ?_
        exact n_ireturn (by decide +kernel)
  · rw [if_neg hc35] at hr
    cases hr
    obtain ⟨h9, h8⟩ := hk
    subst h9; subst h8
    refine n_iconst (n := 0) (v := 0) (by decide +kernel) rfl ?_
    exact n_ireturn (by decide +kernel)
set_option maxRecDepth 100000 in
theorem B_L_case_3 (G : GG l s0 b L xs D cy ad) {x4 : Int32} {M : Mm} {res : Rs} {M' : Mm} {r : ((Int32 × Mm) ⊕ (Mm ⊕ Mm))} (hp1 : P 0) (hp2 : P 76) (hp3 : P 275) (hr : f_L_case_3 xs L x4 M = some r) (hk : mtc (P_L_law__b23 l s0 D cy ad P  res M') (Q_L_law__b23 l s0 D cy ad P  res M') r) : Rn l s0 D cy ad P 77 KLAW 393 [.ref 100000, .ref 0, .ref 76, .ref 275, .int x4, .null, .null, .null] [] M res M' := by
  unfold f_L_case_3 at hr
  refine n_aload_n (n := 1) (by decide +kernel) rfl ?_
  refine n_aload_n (n := 0) (by decide +kernel) rfl ?_
  refine n_iload (n := 4) (by decide +kernel) rfl ?_
  refine n_iconst (n := 1) (v := 1) (by decide +kernel) rfl ?_
  refine n_iadd (by decide +kernel) ?_
  obtain ⟨v40, h40, hr⟩ := bso hr
  refine n_sld G h40 (by decide +kernel) ?_
  refine n_aload_n (n := 3) (by decide +kernel) rfl ?_
  obtain ⟨⟨v41, M41⟩, h41, hr⟩ := bso hr
  try dsimp only at hr
  refine n_callSWi G [_, _, _] (x := v41) (M1 := M41) (B_L_work G hp1 hp3 h41) (by decide) mL_work ml_RL_120 rfl rfl (Nat.le_of_ble_eq_true rfl) (by decide +kernel) ?_
  refine n_istore (n := 5) (lo2 := [_, _, _, _, _, _, _, _]) (by decide +kernel) (Nat.le_of_ble_eq_true rfl) rfl ?_
  refine n_aload_n (n := 2) (by decide +kernel) rfl ?_
  refine n_aload_n (n := 0) (by decide +kernel) rfl ?_
  refine n_iload (n := 4) (by decide +kernel) rfl ?_
  refine n_iconst (n := 1) (v := 1) (by decide +kernel) rfl ?_
  refine n_iadd (by decide +kernel) ?_
  obtain ⟨v42, h42, hr⟩ := bso hr
  refine n_sld G h42 (by decide +kernel) ?_
  obtain ⟨⟨v43, M43⟩, h43, hr⟩ := bso hr
  try dsimp only at hr
  refine n_callVi G [_] (x := v43) (M1 := M43) (B_X10_work G hp2 h43) (by decide) mX10_work ml_RL_122 hp2 (by decide +kernel) rfl rfl (Nat.le_of_ble_eq_true rfl) (by decide +kernel) ?_
  refine n_istore (n := 6) (lo2 := [_, _, _, _, _, _, _, _]) (by decide +kernel) (Nat.le_of_ble_eq_true rfl) rfl ?_
  refine n_aload_n (n := 2) (by decide +kernel) rfl ?_
  obtain ⟨v44, h44, hr⟩ := bso hr
  refine n_callVi G [] (x := v44) (B_X10_thrown G hp2 h44) (by decide) mX10_thrown ml_RL_112 hp2 (by decide +kernel) rfl rfl (Nat.le_of_ble_eq_true rfl) (by decide +kernel) ?_
  refine n_iload (n := 5) (by decide +kernel) rfl ?_
  refine n_icmp_eq (off := 5) (tgt := 429) (by decide +kernel) (by decide) (fun hc45 => ?_) (fun hc45 => ?_)
  · rw [if_pos hc45] at hr
    refine n_iload (n := 5) (by decide +kernel) rfl ?_
    refine n_if_ne (off := 15) (tgt := 446) (by decide +kernel) (by decide) (fun hc46 => ?_) (fun hc46 => ?_)
    · rw [if_neg hc46] at hr
      refine n_msk [true, true, true, true, true, false, false, false] (lo2 := [_, _, _, _, _, .null, .null, .null]) rfl rfl ?_
      exact B_L_law__j446 G hp1 hp2 hp3 hr hk
    · rw [if_pos hc46] at hr
      refine n_aload_n (n := 3) (by decide +kernel) rfl ?_
      refine n_iconst (n := 0) (v := 0) (by decide +kernel) rfl ?_
      obtain ⟨v47, h47, hr⟩ := bso hr
      refine n_lald G h47 hp3 (by decide +kernel) (by decide +kernel) (by decide +kernel) ?_
      refine n_iload (n := 6) (by decide +kernel) rfl ?_
      refine n_i2l (by decide +kernel) ?_
      refine n_lcmp (by decide +kernel) ?_
      refine n_if_eq (off := 5) (tgt := 446) (by decide +kernel) (by decide) (fun hc48 => ?_) (fun hc48 => ?_)
      · rw [if_pos hc48] at hr
        refine n_msk [true, true, true, true, true, false, false, false] (lo2 := [_, _, _, _, _, .null, .null, .null]) rfl rfl ?_
        exact B_L_law__j446 G hp1 hp2 hp3 hr hk
      · rw [if_neg hc48] at hr
        cases hr
        obtain ⟨h9, h8⟩ := hk
        subst h9; subst h8
        refine n_iconst (n := 0) (v := 0) (by decide +kernel) rfl ?_
        exact n_ireturn (by decide +kernel)
  · rw [if_neg hc45] at hr
    cases hr
    obtain ⟨h9, h8⟩ := hk
    subst h9; subst h8
    refine n_iconst (n := 0) (v := 0) (by decide +kernel) rfl ?_
    exact n_ireturn (by decide +kernel)
set_option maxRecDepth 100000 in
theorem B_L_case_4 (G : GG l s0 b L xs D cy ad) {x4 : Int32} {M : Mm} {res : Rs} {M' : Mm} {r : ((Int32 × Mm) ⊕ (Mm ⊕ Mm))} (hp1 : P 0) (hp2 : P 76) (hp3 : P 275) (hr : f_L_case_4 xs L x4 M = some r) (hk : mtc (P_L_law__b23 l s0 D cy ad P  res M') (Q_L_law__b23 l s0 D cy ad P  res M') r) : Rn l s0 D cy ad P 77 KLAW 449 [.ref 100000, .ref 0, .ref 76, .ref 275, .int x4, .null, .null, .null] [] M res M' := by
  unfold f_L_case_4 at hr
  refine n_aload_n (n := 1) (by decide +kernel) rfl ?_
  refine n_aload_n (n := 0) (by decide +kernel) rfl ?_
  refine n_iload (n := 4) (by decide +kernel) rfl ?_
  refine n_iconst (n := 1) (v := 1) (by decide +kernel) rfl ?_
  refine n_iadd (by decide +kernel) ?_
  obtain ⟨v50, h50, hr⟩ := bso hr
  refine n_sld G h50 (by decide +kernel) ?_
  refine n_aload_n (n := 3) (by decide +kernel) rfl ?_
  obtain ⟨⟨v51, M51⟩, h51, hr⟩ := bso hr
  try dsimp only at hr
  refine n_callSWi G [_, _, _] (x := v51) (M1 := M51) (B_L_book G hp1 hp3 h51) (by decide) mL_book ml_RL_123 rfl rfl (Nat.le_of_ble_eq_true rfl) (by decide +kernel) ?_
  refine n_istore (n := 5) (lo2 := [_, _, _, _, _, _, _, _]) (by decide +kernel) (Nat.le_of_ble_eq_true rfl) rfl ?_
  refine n_aload_n (n := 2) (by decide +kernel) rfl ?_
  refine n_aload_n (n := 0) (by decide +kernel) rfl ?_
  refine n_iload (n := 4) (by decide +kernel) rfl ?_
  refine n_iconst (n := 1) (v := 1) (by decide +kernel) rfl ?_
  refine n_iadd (by decide +kernel) ?_
  obtain ⟨v52, h52, hr⟩ := bso hr
  refine n_sld G h52 (by decide +kernel) ?_
  obtain ⟨⟨v53, M53⟩, h53, hr⟩ := bso hr
  try dsimp only at hr
  refine n_callVi G [_] (x := v53) (M1 := M53) (B_X10_book G hp2 h53) (by decide) mX10_book ml_RL_125 hp2 (by decide +kernel) rfl rfl (Nat.le_of_ble_eq_true rfl) (by decide +kernel) ?_
  refine n_istore (n := 6) (lo2 := [_, _, _, _, _, _, _, _]) (by decide +kernel) (Nat.le_of_ble_eq_true rfl) rfl ?_
  refine n_aload_n (n := 2) (by decide +kernel) rfl ?_
  obtain ⟨v54, h54, hr⟩ := bso hr
  refine n_callVi G [] (x := v54) (B_X10_thrown G hp2 h54) (by decide) mX10_thrown ml_RL_112 hp2 (by decide +kernel) rfl rfl (Nat.le_of_ble_eq_true rfl) (by decide +kernel) ?_
  refine n_iload (n := 5) (by decide +kernel) rfl ?_
  refine n_icmp_eq (off := 5) (tgt := 485) (by decide +kernel) (by decide) (fun hc55 => ?_) (fun hc55 => ?_)
  · rw [if_pos hc55] at hr
    refine n_iload (n := 5) (by decide +kernel) rfl ?_
    refine n_if_ne (off := 15) (tgt := 502) (by decide +kernel) (by decide) (fun hc56 => ?_) (fun hc56 => ?_)
    · rw [if_neg hc56] at hr
      refine n_msk [true, true, true, true, true, false, false, false] (lo2 := [_, _, _, _, _, .null, .null, .null]) rfl rfl ?_
      exact B_L_law__j502 G hp1 hp2 hp3 hr hk
    · rw [if_pos hc56] at hr
      refine n_aload_n (n := 3) (by decide +kernel) rfl ?_
      refine n_iconst (n := 0) (v := 0) (by decide +kernel) rfl ?_
      obtain ⟨v57, h57, hr⟩ := bso hr
      refine n_lald G h57 hp3 (by decide +kernel) (by decide +kernel) (by decide +kernel) ?_
      refine n_iload (n := 6) (by decide +kernel) rfl ?_
      refine n_i2l (by decide +kernel) ?_
      refine n_lcmp (by decide +kernel) ?_
      refine n_if_eq (off := 5) (tgt := 502) (by decide +kernel) (by decide) (fun hc58 => ?_) (fun hc58 => ?_)
      · rw [if_pos hc58] at hr
        refine n_msk [true, true, true, true, true, false, false, false] (lo2 := [_, _, _, _, _, .null, .null, .null]) rfl rfl ?_
        exact B_L_law__j502 G hp1 hp2 hp3 hr hk
      · rw [if_neg hc58] at hr
        cases hr
        obtain ⟨h9, h8⟩ := hk
        subst h9; subst h8
        refine n_iconst (n := 0) (v := 0) (by decide +kernel) rfl ?_
        exact n_ireturn (by decide +kernel)
  · rw [if_neg hc55] at hr
    cases hr
    obtain ⟨h9, h8⟩ := hk
    subst h9; subst h8
    refine n_iconst (n := 0) (v := 0) (by decide +kernel) rfl ?_
    exact n_ireturn (by decide +kernel)
set_option maxRecDepth 100000 in
theorem B_L_case_5 (G : GG l s0 b L xs D cy ad) {x4 : Int32} {M : Mm} {res : Rs} {M' : Mm} {r : ((Int32 × Mm) ⊕ (Mm ⊕ Mm))} (hp1 : P 0) (hp2 : P 76) (hp3 : P 275) (hr : f_L_case_5 xs L x4 M = some r) (hk : mtc (P_L_law__b23 l s0 D cy ad P  res M') (Q_L_law__b23 l s0 D cy ad P  res M') r) : Rn l s0 D cy ad P 77 KLAW 505 [.ref 100000, .ref 0, .ref 76, .ref 275, .int x4, .null, .null, .null] [] M res M' := by
  unfold f_L_case_5 at hr
  refine n_aload_n (n := 1) (by decide +kernel) rfl ?_
  obtain ⟨v60, h60, hr⟩ := bso hr
  refine n_callVi G [] (x := v60) (B_X9_fault G hp1 h60) (by decide) mX9_fault ml_RL_126 hp1 (by decide +kernel) rfl rfl (Nat.le_of_ble_eq_true rfl) (by decide +kernel) ?_
  refine n_aload_n (n := 2) (by decide +kernel) rfl ?_
  obtain ⟨⟨v61, M61⟩, h61, hr⟩ := bso hr
  try dsimp only at hr
  refine n_callVi G [] (x := v61) (M1 := M61) (B_X10_fault G hp2 h61) (by decide) mX10_fault ml_RL_129 hp2 (by decide +kernel) rfl rfl (Nat.le_of_ble_eq_true rfl) (by decide +kernel) ?_
  refine n_icmp_eq (off := 1608) (tgt := 2121) (by decide +kernel) (by decide) (fun hc62 => ?_) (fun hc62 => ?_)
  · rw [if_pos hc62] at hr
    refine n_iincK (n := 4) (j := 7) (w := 7) (lo2 := [_, _, _, _, _, _, _, _]) (by decide +kernel) rfl rfl rfl ?_
    refine n_goto (off := -2101) (tgt := 23) (by decide +kernel) (by decide) ?_
    cases hr
    exact hk
  · rw [if_neg hc62] at hr
    cases hr
    obtain ⟨h9, h8⟩ := hk
    subst h9; subst h8
    refine n_iconst (n := 0) (v := 0) (by decide +kernel) rfl ?_
    exact n_ireturn (by decide +kernel)
set_option maxRecDepth 100000 in
theorem B_L_case_6 (G : GG l s0 b L xs D cy ad) {x4 : Int32} {M : Mm} {res : Rs} {M' : Mm} {r : ((Int32 × Mm) ⊕ (Mm ⊕ Mm))} (hp1 : P 0) (hp2 : P 76) (hp3 : P 275) (hr : f_L_case_6 xs L x4 M = some r) (hk : mtc (P_L_law__b23 l s0 D cy ad P  res M') (Q_L_law__b23 l s0 D cy ad P  res M') r) : Rn l s0 D cy ad P 77 KLAW 518 [.ref 100000, .ref 0, .ref 76, .ref 275, .int x4, .null, .null, .null] [] M res M' := by
  unfold f_L_case_6 at hr
  refine n_aload_n (n := 1) (by decide +kernel) rfl ?_
  obtain ⟨⟨v64, M64⟩, h64, hr⟩ := bso hr
  try dsimp only at hr
  refine n_callVi G [] (x := v64) (M1 := M64) (B_X9_undo G hp1 h64) (by decide) mX9_undo ml_RL_130 hp1 (by decide +kernel) rfl rfl (Nat.le_of_ble_eq_true rfl) (by decide +kernel) ?_
  refine n_aload_n (n := 2) (by decide +kernel) rfl ?_
  obtain ⟨⟨v65, M65⟩, h65, hr⟩ := bso hr
  try dsimp only at hr
  refine n_callVi G [] (x := v65) (M1 := M65) (B_X10_undo G hp2 h65) (by decide) mX10_undo ml_RL_133 hp2 (by decide +kernel) rfl rfl (Nat.le_of_ble_eq_true rfl) (by decide +kernel) ?_
  refine n_icmp_eq (off := 1595) (tgt := 2121) (by decide +kernel) (by decide) (fun hc66 => ?_) (fun hc66 => ?_)
  · rw [if_pos hc66] at hr
    refine n_iincK (n := 4) (j := 7) (w := 7) (lo2 := [_, _, _, _, _, _, _, _]) (by decide +kernel) rfl rfl rfl ?_
    refine n_goto (off := -2101) (tgt := 23) (by decide +kernel) (by decide) ?_
    cases hr
    exact hk
  · rw [if_neg hc66] at hr
    cases hr
    obtain ⟨h9, h8⟩ := hk
    subst h9; subst h8
    refine n_iconst (n := 0) (v := 0) (by decide +kernel) rfl ?_
    exact n_ireturn (by decide +kernel)
set_option maxRecDepth 100000 in
theorem B_L_case_7 (G : GG l s0 b L xs D cy ad) {x4 : Int32} {M : Mm} {res : Rs} {M' : Mm} {r : ((Int32 × Mm) ⊕ (Mm ⊕ Mm))} (hp1 : P 0) (hp2 : P 76) (hp3 : P 275) (hr : f_L_case_7 xs L x4 M = some r) (hk : mtc (P_L_law__b23 l s0 D cy ad P  res M') (Q_L_law__b23 l s0 D cy ad P  res M') r) : Rn l s0 D cy ad P 77 KLAW 531 [.ref 100000, .ref 0, .ref 76, .ref 275, .int x4, .null, .null, .null] [] M res M' := by
  unfold f_L_case_7 at hr
  refine n_aload_n (n := 1) (by decide +kernel) rfl ?_
  refine n_aload_n (n := 0) (by decide +kernel) rfl ?_
  refine n_iload (n := 4) (by decide +kernel) rfl ?_
  refine n_iconst (n := 1) (v := 1) (by decide +kernel) rfl ?_
  refine n_iadd (by decide +kernel) ?_
  obtain ⟨v68, h68, hr⟩ := bso hr
  refine n_sld G h68 (by decide +kernel) ?_
  refine n_aload_n (n := 3) (by decide +kernel) rfl ?_
  obtain ⟨⟨v69, M69⟩, h69, hr⟩ := bso hr
  try dsimp only at hr
  refine n_callSWi G [_, _, _] (x := v69) (M1 := M69) (B_L_told G hp1 hp3 h69) (by decide) mL_told ml_RL_134 rfl rfl (Nat.le_of_ble_eq_true rfl) (by decide +kernel) ?_
  refine n_istore (n := 5) (lo2 := [_, _, _, _, _, _, _, _]) (by decide +kernel) (Nat.le_of_ble_eq_true rfl) rfl ?_
  refine n_aload_n (n := 2) (by decide +kernel) rfl ?_
  refine n_aload_n (n := 0) (by decide +kernel) rfl ?_
  refine n_iload (n := 4) (by decide +kernel) rfl ?_
  refine n_iconst (n := 1) (v := 1) (by decide +kernel) rfl ?_
  refine n_iadd (by decide +kernel) ?_
  obtain ⟨v70, h70, hr⟩ := bso hr
  refine n_sld G h70 (by decide +kernel) ?_
  obtain ⟨⟨v71, M71⟩, h71, hr⟩ := bso hr
  try dsimp only at hr
  refine n_callVi G [_] (x := v71) (M1 := M71) (B_X10_told G hp2 h71) (by decide) mX10_told ml_RL_136 hp2 (by decide +kernel) rfl rfl (Nat.le_of_ble_eq_true rfl) (by decide +kernel) ?_
  refine n_istore (n := 6) (lo2 := [_, _, _, _, _, _, _, _]) (by decide +kernel) (Nat.le_of_ble_eq_true rfl) rfl ?_
  refine n_aload_n (n := 2) (by decide +kernel) rfl ?_
  obtain ⟨v72, h72, hr⟩ := bso hr
  refine n_callVi G [] (x := v72) (B_X10_thrown G hp2 h72) (by decide) mX10_thrown ml_RL_112 hp2 (by decide +kernel) rfl rfl (Nat.le_of_ble_eq_true rfl) (by decide +kernel) ?_
  refine n_iload (n := 5) (by decide +kernel) rfl ?_
  refine n_icmp_eq (off := 5) (tgt := 567) (by decide +kernel) (by decide) (fun hc73 => ?_) (fun hc73 => ?_)
  · rw [if_pos hc73] at hr
    refine n_iload (n := 5) (by decide +kernel) rfl ?_
    refine n_if_ne (off := 15) (tgt := 584) (by decide +kernel) (by decide) (fun hc74 => ?_) (fun hc74 => ?_)
    · rw [if_neg hc74] at hr
      refine n_msk [true, true, true, true, true, false, false, false] (lo2 := [_, _, _, _, _, .null, .null, .null]) rfl rfl ?_
      exact B_L_law__j584 G hp1 hp2 hp3 hr hk
    · rw [if_pos hc74] at hr
      refine n_aload_n (n := 3) (by decide +kernel) rfl ?_
      refine n_iconst (n := 0) (v := 0) (by decide +kernel) rfl ?_
      obtain ⟨v75, h75, hr⟩ := bso hr
      refine n_lald G h75 hp3 (by decide +kernel) (by decide +kernel) (by decide +kernel) ?_
      refine n_iload (n := 6) (by decide +kernel) rfl ?_
      refine n_i2l (by decide +kernel) ?_
      refine n_lcmp (by decide +kernel) ?_
      refine n_if_eq (off := 5) (tgt := 584) (by decide +kernel) (by decide) (fun hc76 => ?_) (fun hc76 => ?_)
      · rw [if_pos hc76] at hr
        refine n_msk [true, true, true, true, true, false, false, false] (lo2 := [_, _, _, _, _, .null, .null, .null]) rfl rfl ?_
        exact B_L_law__j584 G hp1 hp2 hp3 hr hk
      · rw [if_neg hc76] at hr
        cases hr
        obtain ⟨h9, h8⟩ := hk
        subst h9; subst h8
        refine n_iconst (n := 0) (v := 0) (by decide +kernel) rfl ?_
        exact n_ireturn (by decide +kernel)
  · rw [if_neg hc73] at hr
    cases hr
    obtain ⟨h9, h8⟩ := hk
    subst h9; subst h8
    refine n_iconst (n := 0) (v := 0) (by decide +kernel) rfl ?_
    exact n_ireturn (by decide +kernel)
set_option maxRecDepth 100000 in
theorem B_L_case_8 (G : GG l s0 b L xs D cy ad) {x4 : Int32} {M : Mm} {res : Rs} {M' : Mm} {r : ((Int32 × Mm) ⊕ (Mm ⊕ Mm))} (hp1 : P 0) (hp2 : P 76) (hp3 : P 275) (hr : f_L_case_8 xs L x4 M = some r) (hk : mtc (P_L_law__b23 l s0 D cy ad P  res M') (Q_L_law__b23 l s0 D cy ad P  res M') r) : Rn l s0 D cy ad P 77 KLAW 587 [.ref 100000, .ref 0, .ref 76, .ref 275, .int x4, .null, .null, .null] [] M res M' := by
  unfold f_L_case_8 at hr
  refine n_aload_n (n := 1) (by decide +kernel) rfl ?_
  refine n_aload_n (n := 0) (by decide +kernel) rfl ?_
  refine n_iload (n := 4) (by decide +kernel) rfl ?_
  refine n_iconst (n := 1) (v := 1) (by decide +kernel) rfl ?_
  refine n_iadd (by decide +kernel) ?_
  obtain ⟨v78, h78, hr⟩ := bso hr
  refine n_sld G h78 (by decide +kernel) ?_
  refine n_aload_n (n := 0) (by decide +kernel) rfl ?_
  refine n_iload (n := 4) (by decide +kernel) rfl ?_
  refine n_iconst (n := 2) (v := 2) (by decide +kernel) rfl ?_
  refine n_iadd (by decide +kernel) ?_
  obtain ⟨v79, h79, hr⟩ := bso hr
  refine n_sld G h79 (by decide +kernel) ?_
  refine n_aload_n (n := 3) (by decide +kernel) rfl ?_
  obtain ⟨⟨v80, M80⟩, h80, hr⟩ := bso hr
  try dsimp only at hr
  refine n_callSWi G [_, _, _, _] (x := v80) (M1 := M80) (B_L_stone G hp1 hp3 h80) (by decide) mL_stone ml_RL_137 rfl rfl (Nat.le_of_ble_eq_true rfl) (by decide +kernel) ?_
  refine n_istore (n := 5) (lo2 := [_, _, _, _, _, _, _, _]) (by decide +kernel) (Nat.le_of_ble_eq_true rfl) rfl ?_
  refine n_aload_n (n := 2) (by decide +kernel) rfl ?_
  refine n_aload_n (n := 0) (by decide +kernel) rfl ?_
  refine n_iload (n := 4) (by decide +kernel) rfl ?_
  refine n_iconst (n := 1) (v := 1) (by decide +kernel) rfl ?_
  refine n_iadd (by decide +kernel) ?_
  obtain ⟨v81, h81, hr⟩ := bso hr
  refine n_sld G h81 (by decide +kernel) ?_
  refine n_aload_n (n := 0) (by decide +kernel) rfl ?_
  refine n_iload (n := 4) (by decide +kernel) rfl ?_
  refine n_iconst (n := 2) (v := 2) (by decide +kernel) rfl ?_
  refine n_iadd (by decide +kernel) ?_
  obtain ⟨v82, h82, hr⟩ := bso hr
  refine n_sld G h82 (by decide +kernel) ?_
  obtain ⟨⟨v83, M83⟩, h83, hr⟩ := bso hr
  try dsimp only at hr
  refine n_callVi G [_, _] (x := v83) (M1 := M83) (B_X10_stone G hp2 h83) (by decide) mX10_stone ml_RL_139 hp2 (by decide +kernel) rfl rfl (Nat.le_of_ble_eq_true rfl) (by decide +kernel) ?_
  refine n_istore (n := 6) (lo2 := [_, _, _, _, _, _, _, _]) (by decide +kernel) (Nat.le_of_ble_eq_true rfl) rfl ?_
  refine n_aload_n (n := 2) (by decide +kernel) rfl ?_
  obtain ⟨v84, h84, hr⟩ := bso hr
  refine n_callVi G [] (x := v84) (B_X10_thrown G hp2 h84) (by decide) mX10_thrown ml_RL_112 hp2 (by decide +kernel) rfl rfl (Nat.le_of_ble_eq_true rfl) (by decide +kernel) ?_
  refine n_iload (n := 5) (by decide +kernel) rfl ?_
  refine n_icmp_eq (off := 5) (tgt := 635) (by decide +kernel) (by decide) (fun hc85 => ?_) (fun hc85 => ?_)
  · rw [if_pos hc85] at hr
    refine n_iload (n := 5) (by decide +kernel) rfl ?_
    refine n_if_ne (off := 15) (tgt := 652) (by decide +kernel) (by decide) (fun hc86 => ?_) (fun hc86 => ?_)
    · rw [if_neg hc86] at hr
      refine n_msk [true, true, true, true, true, false, false, false] (lo2 := [_, _, _, _, _, .null, .null, .null]) rfl rfl ?_
      exact B_L_law__j652 G hp1 hp2 hp3 hr hk
    · rw [if_pos hc86] at hr
      refine n_aload_n (n := 3) (by decide +kernel) rfl ?_
      refine n_iconst (n := 0) (v := 0) (by decide +kernel) rfl ?_
      obtain ⟨v87, h87, hr⟩ := bso hr
      refine n_lald G h87 hp3 (by decide +kernel) (by decide +kernel) (by decide +kernel) ?_
      refine n_iload (n := 6) (by decide +kernel) rfl ?_
      refine n_i2l (by decide +kernel) ?_
      refine n_lcmp (by decide +kernel) ?_
      refine n_if_eq (off := 5) (tgt := 652) (by decide +kernel) (by decide) (fun hc88 => ?_) (fun hc88 => ?_)
      · rw [if_pos hc88] at hr
        refine n_msk [true, true, true, true, true, false, false, false] (lo2 := [_, _, _, _, _, .null, .null, .null]) rfl rfl ?_
        exact B_L_law__j652 G hp1 hp2 hp3 hr hk
      · rw [if_neg hc88] at hr
        cases hr
        obtain ⟨h9, h8⟩ := hk
        subst h9; subst h8
        refine n_iconst (n := 0) (v := 0) (by decide +kernel) rfl ?_
        exact n_ireturn (by decide +kernel)
  · rw [if_neg hc85] at hr
    cases hr
    obtain ⟨h9, h8⟩ := hk
    subst h9; subst h8
    refine n_iconst (n := 0) (v := 0) (by decide +kernel) rfl ?_
    exact n_ireturn (by decide +kernel)
set_option maxRecDepth 100000 in
theorem B_L_case_9 (G : GG l s0 b L xs D cy ad) {x4 : Int32} {M : Mm} {res : Rs} {M' : Mm} {r : ((Int32 × Mm) ⊕ (Mm ⊕ Mm))} (hp1 : P 0) (hp2 : P 76) (hp3 : P 275) (hr : f_L_case_9 xs L x4 M = some r) (hk : mtc (P_L_law__b23 l s0 D cy ad P  res M') (Q_L_law__b23 l s0 D cy ad P  res M') r) : Rn l s0 D cy ad P 77 KLAW 655 [.ref 100000, .ref 0, .ref 76, .ref 275, .int x4, .null, .null, .null] [] M res M' := by
  unfold f_L_case_9 at hr
  refine n_aload_n (n := 1) (by decide +kernel) rfl ?_
  refine n_aload_n (n := 0) (by decide +kernel) rfl ?_
  refine n_iload (n := 4) (by decide +kernel) rfl ?_
  refine n_iconst (n := 1) (v := 1) (by decide +kernel) rfl ?_
  refine n_iadd (by decide +kernel) ?_
  obtain ⟨v90, h90, hr⟩ := bso hr
  refine n_sld G h90 (by decide +kernel) ?_
  refine n_aload_n (n := 0) (by decide +kernel) rfl ?_
  refine n_iload (n := 4) (by decide +kernel) rfl ?_
  refine n_iconst (n := 2) (v := 2) (by decide +kernel) rfl ?_
  refine n_iadd (by decide +kernel) ?_
  obtain ⟨v91, h91, hr⟩ := bso hr
  refine n_sld G h91 (by decide +kernel) ?_
  refine n_aload_n (n := 0) (by decide +kernel) rfl ?_
  refine n_iload (n := 4) (by decide +kernel) rfl ?_
  refine n_iconst (n := 3) (v := 3) (by decide +kernel) rfl ?_
  refine n_iadd (by decide +kernel) ?_
  obtain ⟨v92, h92, hr⟩ := bso hr
  refine n_sld G h92 (by decide +kernel) ?_
  refine n_aload_n (n := 3) (by decide +kernel) rfl ?_
  obtain ⟨⟨v93, M93⟩, h93, hr⟩ := bso hr
  try dsimp only at hr
  refine n_callSWi G [_, _, _, _, _] (x := v93) (M1 := M93) (B_L_cell G hp1 hp3 h93) (by decide) mL_cell ml_RL_140 rfl rfl (Nat.le_of_ble_eq_true rfl) (by decide +kernel) ?_
  refine n_istore (n := 5) (lo2 := [_, _, _, _, _, _, _, _]) (by decide +kernel) (Nat.le_of_ble_eq_true rfl) rfl ?_
  refine n_aload_n (n := 2) (by decide +kernel) rfl ?_
  refine n_aload_n (n := 0) (by decide +kernel) rfl ?_
  refine n_iload (n := 4) (by decide +kernel) rfl ?_
  refine n_iconst (n := 1) (v := 1) (by decide +kernel) rfl ?_
  refine n_iadd (by decide +kernel) ?_
  obtain ⟨v94, h94, hr⟩ := bso hr
  refine n_sld G h94 (by decide +kernel) ?_
  refine n_aload_n (n := 0) (by decide +kernel) rfl ?_
  refine n_iload (n := 4) (by decide +kernel) rfl ?_
  refine n_iconst (n := 2) (v := 2) (by decide +kernel) rfl ?_
  refine n_iadd (by decide +kernel) ?_
  obtain ⟨v95, h95, hr⟩ := bso hr
  refine n_sld G h95 (by decide +kernel) ?_
  refine n_aload_n (n := 0) (by decide +kernel) rfl ?_
  refine n_iload (n := 4) (by decide +kernel) rfl ?_
  refine n_iconst (n := 3) (v := 3) (by decide +kernel) rfl ?_
  refine n_iadd (by decide +kernel) ?_
  obtain ⟨v96, h96, hr⟩ := bso hr
  refine n_sld G h96 (by decide +kernel) ?_
  obtain ⟨⟨v97, M97⟩, h97, hr⟩ := bso hr
  try dsimp only at hr
  refine n_callVi G [_, _, _] (x := v97) (M1 := M97) (B_X10_cell G hp2 h97) (by decide) mX10_cell ml_RL_143 hp2 (by decide +kernel) rfl rfl (Nat.le_of_ble_eq_true rfl) (by decide +kernel) ?_
  refine n_istore (n := 6) (lo2 := [_, _, _, _, _, _, _, _]) (by decide +kernel) (Nat.le_of_ble_eq_true rfl) rfl ?_
  refine n_aload_n (n := 2) (by decide +kernel) rfl ?_
  obtain ⟨v98, h98, hr⟩ := bso hr
  refine n_callVi G [] (x := v98) (B_X10_thrown G hp2 h98) (by decide) mX10_thrown ml_RL_112 hp2 (by decide +kernel) rfl rfl (Nat.le_of_ble_eq_true rfl) (by decide +kernel) ?_
  refine n_iload (n := 5) (by decide +kernel) rfl ?_
  refine n_icmp_eq (off := 5) (tgt := 715) (by decide +kernel) (by decide) (fun hc99 => ?_) (fun hc99 => ?_)
  · rw [if_pos hc99] at hr
    refine n_iload (n := 5) (by decide +kernel) rfl ?_
    refine n_if_ne (off := 15) (tgt := 732) (by decide +kernel) (by decide) (fun hc100 => ?_) (fun hc100 => ?_)
    · rw [if_neg hc100] at hr
      refine n_msk [true, true, true, true, true, false, false, false] (lo2 := [_, _, _, _, _, .null, .null, .null]) rfl rfl ?_
      exact B_L_law__j732 G hp1 hp2 hp3 hr hk
    · rw [if_pos hc100] at hr
      refine n_aload_n (n := 3) (by decide +kernel) rfl ?_
      refine n_iconst (n := 0) (v := 0) (by decide +kernel) rfl ?_
      obtain ⟨v101, h101, hr⟩ := bso hr
      refine n_lald G h101 hp3 (by decide +kernel) (by decide +kernel) (by decide +kernel) ?_
      refine n_iload (n := 6) (by decide +kernel) rfl ?_
      refine n_i2l (by decide +kernel) ?_
      refine n_lcmp (by decide +kernel) ?_
      refine n_if_eq (off := 5) (tgt := 732) (by decide +kernel) (by decide) (fun hc102 => ?_) (fun hc102 => ?_)
      · rw [if_pos hc102] at hr
        refine n_msk [true, true, true, true, true, false, false, false] (lo2 := [_, _, _, _, _, .null, .null, .null]) rfl rfl ?_
        exact B_L_law__j732 G hp1 hp2 hp3 hr hk
      · rw [if_neg hc102] at hr
        cases hr
        obtain ⟨h9, h8⟩ := hk
        subst h9; subst h8
        refine n_iconst (n := 0) (v := 0) (by decide +kernel) rfl ?_
        exact n_ireturn (by decide +kernel)
  · rw [if_neg hc99] at hr
    cases hr
    obtain ⟨h9, h8⟩ := hk
    subst h9; subst h8
    refine n_iconst (n := 0) (v := 0) (by decide +kernel) rfl ?_
    exact n_ireturn (by decide +kernel)
set_option maxRecDepth 100000 in
theorem B_L_case_10 (G : GG l s0 b L xs D cy ad) {x4 : Int32} {M : Mm} {res : Rs} {M' : Mm} {r : ((Int32 × Mm) ⊕ (Mm ⊕ Mm))} (hp1 : P 0) (hp2 : P 76) (hp3 : P 275) (hr : f_L_case_10 xs L x4 M = some r) (hk : mtc (P_L_law__b23 l s0 D cy ad P  res M') (Q_L_law__b23 l s0 D cy ad P  res M') r) : Rn l s0 D cy ad P 77 KLAW 735 [.ref 100000, .ref 0, .ref 76, .ref 275, .int x4, .null, .null, .null] [] M res M' := by
  unfold f_L_case_10 at hr
  refine n_aload_n (n := 1) (by decide +kernel) rfl ?_
  refine n_aload_n (n := 0) (by decide +kernel) rfl ?_
  refine n_iload (n := 4) (by decide +kernel) rfl ?_
  refine n_iconst (n := 1) (v := 1) (by decide +kernel) rfl ?_
  refine n_iadd (by decide +kernel) ?_
  obtain ⟨v104, h104, hr⟩ := bso hr
  refine n_sld G h104 (by decide +kernel) ?_
  refine n_aload_n (n := 3) (by decide +kernel) rfl ?_
  obtain ⟨⟨v105, M105⟩, h105, hr⟩ := bso hr
  try dsimp only at hr
  refine n_callSWi G [_, _, _] (x := v105) (M1 := M105) (B_L_sledge G hp1 hp3 h105) (by decide) mL_sledge ml_RL_144 rfl rfl (Nat.le_of_ble_eq_true rfl) (by decide +kernel) ?_
  refine n_istore (n := 5) (lo2 := [_, _, _, _, _, _, _, _]) (by decide +kernel) (Nat.le_of_ble_eq_true rfl) rfl ?_
  refine n_aload_n (n := 2) (by decide +kernel) rfl ?_
  refine n_aload_n (n := 0) (by decide +kernel) rfl ?_
  refine n_iload (n := 4) (by decide +kernel) rfl ?_
  refine n_iconst (n := 1) (v := 1) (by decide +kernel) rfl ?_
  refine n_iadd (by decide +kernel) ?_
  obtain ⟨v106, h106, hr⟩ := bso hr
  refine n_sld G h106 (by decide +kernel) ?_
  obtain ⟨⟨v107, M107⟩, h107, hr⟩ := bso hr
  try dsimp only at hr
  refine n_callVi G [_] (x := v107) (M1 := M107) (B_X10_sledge G hp2 h107) (by decide) mX10_sledge ml_RL_146 hp2 (by decide +kernel) rfl rfl (Nat.le_of_ble_eq_true rfl) (by decide +kernel) ?_
  refine n_istore (n := 6) (lo2 := [_, _, _, _, _, _, _, _]) (by decide +kernel) (Nat.le_of_ble_eq_true rfl) rfl ?_
  refine n_aload_n (n := 2) (by decide +kernel) rfl ?_
  obtain ⟨v108, h108, hr⟩ := bso hr
  refine n_callVi G [] (x := v108) (B_X10_thrown G hp2 h108) (by decide) mX10_thrown ml_RL_112 hp2 (by decide +kernel) rfl rfl (Nat.le_of_ble_eq_true rfl) (by decide +kernel) ?_
  refine n_iload (n := 5) (by decide +kernel) rfl ?_
  refine n_icmp_eq (off := 5) (tgt := 771) (by decide +kernel) (by decide) (fun hc109 => ?_) (fun hc109 => ?_)
  · rw [if_pos hc109] at hr
    refine n_iload (n := 5) (by decide +kernel) rfl ?_
    refine n_if_ne (off := 15) (tgt := 788) (by decide +kernel) (by decide) (fun hc110 => ?_) (fun hc110 => ?_)
    · rw [if_neg hc110] at hr
      refine n_msk [true, true, true, true, true, false, false, false] (lo2 := [_, _, _, _, _, .null, .null, .null]) rfl rfl ?_
      exact B_L_law__j788 G hp1 hp2 hp3 hr hk
    · rw [if_pos hc110] at hr
      refine n_aload_n (n := 3) (by decide +kernel) rfl ?_
      refine n_iconst (n := 0) (v := 0) (by decide +kernel) rfl ?_
      obtain ⟨v111, h111, hr⟩ := bso hr
      refine n_lald G h111 hp3 (by decide +kernel) (by decide +kernel) (by decide +kernel) ?_
      refine n_iload (n := 6) (by decide +kernel) rfl ?_
      refine n_i2l (by decide +kernel) ?_
      refine n_lcmp (by decide +kernel) ?_
      refine n_if_eq (off := 5) (tgt := 788) (by decide +kernel) (by decide) (fun hc112 => ?_) (fun hc112 => ?_)
      · rw [if_pos hc112] at hr
        refine n_msk [true, true, true, true, true, false, false, false] (lo2 := [_, _, _, _, _, .null, .null, .null]) rfl rfl ?_
        exact B_L_law__j788 G hp1 hp2 hp3 hr hk
      · rw [if_neg hc112] at hr
        cases hr
        obtain ⟨h9, h8⟩ := hk
        subst h9; subst h8
        refine n_iconst (n := 0) (v := 0) (by decide +kernel) rfl ?_
        exact n_ireturn (by decide +kernel)
  · rw [if_neg hc109] at hr
    cases hr
    obtain ⟨h9, h8⟩ := hk
    subst h9; subst h8
    refine n_iconst (n := 0) (v := 0) (by decide +kernel) rfl ?_
    exact n_ireturn (by decide +kernel)
set_option maxRecDepth 100000 in
theorem B_L_case_11 (G : GG l s0 b L xs D cy ad) {x4 : Int32} {M : Mm} {res : Rs} {M' : Mm} {r : ((Int32 × Mm) ⊕ (Mm ⊕ Mm))} (hp1 : P 0) (hp2 : P 76) (hp3 : P 275) (hr : f_L_case_11 xs L x4 M = some r) (hk : mtc (P_L_law__b23 l s0 D cy ad P  res M') (Q_L_law__b23 l s0 D cy ad P  res M') r) : Rn l s0 D cy ad P 77 KLAW 791 [.ref 100000, .ref 0, .ref 76, .ref 275, .int x4, .null, .null, .null] [] M res M' := by
  unfold f_L_case_11 at hr
  refine n_aload_n (n := 1) (by decide +kernel) rfl ?_
  refine n_aload_n (n := 0) (by decide +kernel) rfl ?_
  refine n_iload (n := 4) (by decide +kernel) rfl ?_
  refine n_iconst (n := 1) (v := 1) (by decide +kernel) rfl ?_
  refine n_iadd (by decide +kernel) ?_
  obtain ⟨v114, h114, hr⟩ := bso hr
  refine n_sld G h114 (by decide +kernel) ?_
  refine n_aload_n (n := 3) (by decide +kernel) rfl ?_
  obtain ⟨⟨v115, M115⟩, h115, hr⟩ := bso hr
  try dsimp only at hr
  refine n_callSWi G [_, _, _] (x := v115) (M1 := M115) (B_L_sums G hp1 hp3 h115) (by decide) mL_sums ml_RL_147 rfl rfl (Nat.le_of_ble_eq_true rfl) (by decide +kernel) ?_
  refine n_istore (n := 5) (lo2 := [_, _, _, _, _, _, _, _]) (by decide +kernel) (Nat.le_of_ble_eq_true rfl) rfl ?_
  refine n_aload_n (n := 2) (by decide +kernel) rfl ?_
  refine n_aload_n (n := 0) (by decide +kernel) rfl ?_
  refine n_iload (n := 4) (by decide +kernel) rfl ?_
  refine n_iconst (n := 1) (v := 1) (by decide +kernel) rfl ?_
  refine n_iadd (by decide +kernel) ?_
  obtain ⟨v116, h116, hr⟩ := bso hr
  refine n_sld G h116 (by decide +kernel) ?_
  obtain ⟨⟨v117, M117⟩, h117, hr⟩ := bso hr
  try dsimp only at hr
  refine n_callVi G [_] (x := v117) (M1 := M117) (B_X10_sums G hp2 h117) (by decide) mX10_sums ml_RL_149 hp2 (by decide +kernel) rfl rfl (Nat.le_of_ble_eq_true rfl) (by decide +kernel) ?_
  refine n_istore (n := 6) (lo2 := [_, _, _, _, _, _, _, _]) (by decide +kernel) (Nat.le_of_ble_eq_true rfl) rfl ?_
  refine n_aload_n (n := 2) (by decide +kernel) rfl ?_
  obtain ⟨v118, h118, hr⟩ := bso hr
  refine n_callVi G [] (x := v118) (B_X10_thrown G hp2 h118) (by decide) mX10_thrown ml_RL_112 hp2 (by decide +kernel) rfl rfl (Nat.le_of_ble_eq_true rfl) (by decide +kernel) ?_
  refine n_iload (n := 5) (by decide +kernel) rfl ?_
  refine n_icmp_eq (off := 5) (tgt := 827) (by decide +kernel) (by decide) (fun hc119 => ?_) (fun hc119 => ?_)
  · rw [if_pos hc119] at hr
    refine n_iload (n := 5) (by decide +kernel) rfl ?_
    refine n_if_ne (off := 15) (tgt := 844) (by decide +kernel) (by decide) (fun hc120 => ?_) (fun hc120 => ?_)
    · rw [if_neg hc120] at hr
      refine n_msk [true, true, true, true, true, false, false, false] (lo2 := [_, _, _, _, _, .null, .null, .null]) rfl rfl ?_
      exact B_L_law__j844 G hp1 hp2 hp3 hr hk
    · rw [if_pos hc120] at hr
      refine n_aload_n (n := 3) (by decide +kernel) rfl ?_
      refine n_iconst (n := 0) (v := 0) (by decide +kernel) rfl ?_
      obtain ⟨v121, h121, hr⟩ := bso hr
      refine n_lald G h121 hp3 (by decide +kernel) (by decide +kernel) (by decide +kernel) ?_
      refine n_iload (n := 6) (by decide +kernel) rfl ?_
      refine n_i2l (by decide +kernel) ?_
      refine n_lcmp (by decide +kernel) ?_
      refine n_if_eq (off := 5) (tgt := 844) (by decide +kernel) (by decide) (fun hc122 => ?_) (fun hc122 => ?_)
      · rw [if_pos hc122] at hr
        refine n_msk [true, true, true, true, true, false, false, false] (lo2 := [_, _, _, _, _, .null, .null, .null]) rfl rfl ?_
        exact B_L_law__j844 G hp1 hp2 hp3 hr hk
      · rw [if_neg hc122] at hr
        cases hr
        obtain ⟨h9, h8⟩ := hk
        subst h9; subst h8
        refine n_iconst (n := 0) (v := 0) (by decide +kernel) rfl ?_
        exact n_ireturn (by decide +kernel)
  · rw [if_neg hc119] at hr
    cases hr
    obtain ⟨h9, h8⟩ := hk
    subst h9; subst h8
    refine n_iconst (n := 0) (v := 0) (by decide +kernel) rfl ?_
    exact n_ireturn (by decide +kernel)
set_option maxRecDepth 100000 in
theorem B_L_case_12 (G : GG l s0 b L xs D cy ad) {x4 : Int32} {M : Mm} {res : Rs} {M' : Mm} {r : ((Int32 × Mm) ⊕ (Mm ⊕ Mm))} (hp1 : P 0) (hp2 : P 76) (hp3 : P 275) (hr : f_L_case_12 xs L x4 M = some r) (hk : mtc (P_L_law__b23 l s0 D cy ad P  res M') (Q_L_law__b23 l s0 D cy ad P  res M') r) : Rn l s0 D cy ad P 77 KLAW 847 [.ref 100000, .ref 0, .ref 76, .ref 275, .int x4, .null, .null, .null] [] M res M' := by
  unfold f_L_case_12 at hr
  refine n_aload_n (n := 1) (by decide +kernel) rfl ?_
  refine n_aload_n (n := 0) (by decide +kernel) rfl ?_
  refine n_iload (n := 4) (by decide +kernel) rfl ?_
  refine n_iconst (n := 1) (v := 1) (by decide +kernel) rfl ?_
  refine n_iadd (by decide +kernel) ?_
  obtain ⟨v124, h124, hr⟩ := bso hr
  refine n_sld G h124 (by decide +kernel) ?_
  refine n_aload_n (n := 0) (by decide +kernel) rfl ?_
  refine n_iload (n := 4) (by decide +kernel) rfl ?_
  refine n_iconst (n := 2) (v := 2) (by decide +kernel) rfl ?_
  refine n_iadd (by decide +kernel) ?_
  obtain ⟨v125, h125, hr⟩ := bso hr
  refine n_sld G h125 (by decide +kernel) ?_
  refine n_aload_n (n := 0) (by decide +kernel) rfl ?_
  refine n_iload (n := 4) (by decide +kernel) rfl ?_
  refine n_iconst (n := 3) (v := 3) (by decide +kernel) rfl ?_
  refine n_iadd (by decide +kernel) ?_
  obtain ⟨v126, h126, hr⟩ := bso hr
  refine n_sld G h126 (by decide +kernel) ?_
  refine n_aload_n (n := 3) (by decide +kernel) rfl ?_
  obtain ⟨⟨v127, M127⟩, h127, hr⟩ := bso hr
  try dsimp only at hr
  refine n_callSWi G [_, _, _, _, _] (x := v127) (M1 := M127) (B_L_damage G hp1 hp3 h127) (by decide) mL_damage ml_RL_150 rfl rfl (Nat.le_of_ble_eq_true rfl) (by decide +kernel) ?_
  refine n_istore (n := 5) (lo2 := [_, _, _, _, _, _, _, _]) (by decide +kernel) (Nat.le_of_ble_eq_true rfl) rfl ?_
  refine n_aload_n (n := 2) (by decide +kernel) rfl ?_
  refine n_aload_n (n := 0) (by decide +kernel) rfl ?_
  refine n_iload (n := 4) (by decide +kernel) rfl ?_
  refine n_iconst (n := 1) (v := 1) (by decide +kernel) rfl ?_
  refine n_iadd (by decide +kernel) ?_
  obtain ⟨v128, h128, hr⟩ := bso hr
  refine n_sld G h128 (by decide +kernel) ?_
  refine n_aload_n (n := 0) (by decide +kernel) rfl ?_
  refine n_iload (n := 4) (by decide +kernel) rfl ?_
  refine n_iconst (n := 2) (v := 2) (by decide +kernel) rfl ?_
  refine n_iadd (by decide +kernel) ?_
  obtain ⟨v129, h129, hr⟩ := bso hr
  refine n_sld G h129 (by decide +kernel) ?_
  refine n_aload_n (n := 0) (by decide +kernel) rfl ?_
  refine n_iload (n := 4) (by decide +kernel) rfl ?_
  refine n_iconst (n := 3) (v := 3) (by decide +kernel) rfl ?_
  refine n_iadd (by decide +kernel) ?_
  obtain ⟨v130, h130, hr⟩ := bso hr
  refine n_sld G h130 (by decide +kernel) ?_
  obtain ⟨⟨v131, M131⟩, h131, hr⟩ := bso hr
  try dsimp only at hr
  refine n_callVi G [_, _, _] (x := v131) (M1 := M131) (B_X10_damage G hp2 h131) (by decide) mX10_damage ml_RL_152 hp2 (by decide +kernel) rfl rfl (Nat.le_of_ble_eq_true rfl) (by decide +kernel) ?_
  refine n_istore (n := 6) (lo2 := [_, _, _, _, _, _, _, _]) (by decide +kernel) (Nat.le_of_ble_eq_true rfl) rfl ?_
  refine n_aload_n (n := 2) (by decide +kernel) rfl ?_
  obtain ⟨v132, h132, hr⟩ := bso hr
  refine n_callVi G [] (x := v132) (B_X10_thrown G hp2 h132) (by decide) mX10_thrown ml_RL_112 hp2 (by decide +kernel) rfl rfl (Nat.le_of_ble_eq_true rfl) (by decide +kernel) ?_
  refine n_iload (n := 5) (by decide +kernel) rfl ?_
  refine n_icmp_eq (off := 5) (tgt := 907) (by decide +kernel) (by decide) (fun hc133 => ?_) (fun hc133 => ?_)
  · rw [if_pos hc133] at hr
    refine n_iload (n := 5) (by decide +kernel) rfl ?_
    refine n_if_ne (off := 15) (tgt := 924) (by decide +kernel) (by decide) (fun hc134 => ?_) (fun hc134 => ?_)
    · rw [if_neg hc134] at hr
      refine n_msk [true, true, true, true, true, false, false, false] (lo2 := [_, _, _, _, _, .null, .null, .null]) rfl rfl ?_
      exact B_L_law__j924 G hp1 hp2 hp3 hr hk
    · rw [if_pos hc134] at hr
      refine n_aload_n (n := 3) (by decide +kernel) rfl ?_
      refine n_iconst (n := 0) (v := 0) (by decide +kernel) rfl ?_
      obtain ⟨v135, h135, hr⟩ := bso hr
      refine n_lald G h135 hp3 (by decide +kernel) (by decide +kernel) (by decide +kernel) ?_
      refine n_iload (n := 6) (by decide +kernel) rfl ?_
      refine n_i2l (by decide +kernel) ?_
      refine n_lcmp (by decide +kernel) ?_
      refine n_if_eq (off := 5) (tgt := 924) (by decide +kernel) (by decide) (fun hc136 => ?_) (fun hc136 => ?_)
      · rw [if_pos hc136] at hr
        refine n_msk [true, true, true, true, true, false, false, false] (lo2 := [_, _, _, _, _, .null, .null, .null]) rfl rfl ?_
        exact B_L_law__j924 G hp1 hp2 hp3 hr hk
      · rw [if_neg hc136] at hr
        cases hr
        obtain ⟨h9, h8⟩ := hk
        subst h9; subst h8
        refine n_iconst (n := 0) (v := 0) (by decide +kernel) rfl ?_
        exact n_ireturn (by decide +kernel)
  · rw [if_neg hc133] at hr
    cases hr
    obtain ⟨h9, h8⟩ := hk
    subst h9; subst h8
    refine n_iconst (n := 0) (v := 0) (by decide +kernel) rfl ?_
    exact n_ireturn (by decide +kernel)
set_option maxRecDepth 100000 in
theorem B_L_case_13 (G : GG l s0 b L xs D cy ad) {x4 : Int32} {M : Mm} {res : Rs} {M' : Mm} {r : ((Int32 × Mm) ⊕ (Mm ⊕ Mm))} (hp1 : P 0) (hp2 : P 76) (hp3 : P 275) (hr : f_L_case_13 xs L x4 M = some r) (hk : mtc (P_L_law__b23 l s0 D cy ad P  res M') (Q_L_law__b23 l s0 D cy ad P  res M') r) : Rn l s0 D cy ad P 77 KLAW 927 [.ref 100000, .ref 0, .ref 76, .ref 275, .int x4, .null, .null, .null] [] M res M' := by
  unfold f_L_case_13 at hr
  refine n_aload_n (n := 1) (by decide +kernel) rfl ?_
  refine n_aload_n (n := 0) (by decide +kernel) rfl ?_
  refine n_iload (n := 4) (by decide +kernel) rfl ?_
  refine n_iconst (n := 1) (v := 1) (by decide +kernel) rfl ?_
  refine n_iadd (by decide +kernel) ?_
  obtain ⟨v138, h138, hr⟩ := bso hr
  refine n_sld G h138 (by decide +kernel) ?_
  refine n_aload_n (n := 0) (by decide +kernel) rfl ?_
  refine n_iload (n := 4) (by decide +kernel) rfl ?_
  refine n_iconst (n := 2) (v := 2) (by decide +kernel) rfl ?_
  refine n_iadd (by decide +kernel) ?_
  obtain ⟨v139, h139, hr⟩ := bso hr
  refine n_sld G h139 (by decide +kernel) ?_
  refine n_aload_n (n := 3) (by decide +kernel) rfl ?_
  obtain ⟨⟨v140, M140⟩, h140, hr⟩ := bso hr
  try dsimp only at hr
  refine n_callSWi G [_, _, _, _] (x := v140) (M1 := M140) (B_L_rises G hp1 hp3 h140) (by decide) mL_rises ml_RL_153 rfl rfl (Nat.le_of_ble_eq_true rfl) (by decide +kernel) ?_
  refine n_istore (n := 5) (lo2 := [_, _, _, _, _, _, _, _]) (by decide +kernel) (Nat.le_of_ble_eq_true rfl) rfl ?_
  refine n_aload_n (n := 2) (by decide +kernel) rfl ?_
  refine n_aload_n (n := 0) (by decide +kernel) rfl ?_
  refine n_iload (n := 4) (by decide +kernel) rfl ?_
  refine n_iconst (n := 1) (v := 1) (by decide +kernel) rfl ?_
  refine n_iadd (by decide +kernel) ?_
  obtain ⟨v141, h141, hr⟩ := bso hr
  refine n_sld G h141 (by decide +kernel) ?_
  refine n_aload_n (n := 0) (by decide +kernel) rfl ?_
  refine n_iload (n := 4) (by decide +kernel) rfl ?_
  refine n_iconst (n := 2) (v := 2) (by decide +kernel) rfl ?_
  refine n_iadd (by decide +kernel) ?_
  obtain ⟨v142, h142, hr⟩ := bso hr
  refine n_sld G h142 (by decide +kernel) ?_
  obtain ⟨⟨v143, M143⟩, h143, hr⟩ := bso hr
  try dsimp only at hr
  refine n_callVi G [_, _] (x := v143) (M1 := M143) (B_X10_rises G hp2 h143) (by decide) mX10_rises ml_RL_155 hp2 (by decide +kernel) rfl rfl (Nat.le_of_ble_eq_true rfl) (by decide +kernel) ?_
  refine n_istore (n := 6) (lo2 := [_, _, _, _, _, _, _, _]) (by decide +kernel) (Nat.le_of_ble_eq_true rfl) rfl ?_
  refine n_aload_n (n := 2) (by decide +kernel) rfl ?_
  obtain ⟨v144, h144, hr⟩ := bso hr
  refine n_callVi G [] (x := v144) (B_X10_thrown G hp2 h144) (by decide) mX10_thrown ml_RL_112 hp2 (by decide +kernel) rfl rfl (Nat.le_of_ble_eq_true rfl) (by decide +kernel) ?_
  refine n_iload (n := 5) (by decide +kernel) rfl ?_
  refine n_icmp_eq (off := 5) (tgt := 975) (by decide +kernel) (by decide) (fun hc145 => ?_) (fun hc145 => ?_)
  · rw [if_pos hc145] at hr
    refine n_iload (n := 5) (by decide +kernel) rfl ?_
    refine n_if_ne (off := 15) (tgt := 992) (by decide +kernel) (by decide) (fun hc146 => ?_) (fun hc146 => ?_)
    · rw [if_neg hc146] at hr
      refine n_msk [true, true, true, true, true, false, false, false] (lo2 := [_, _, _, _, _, .null, .null, .null]) rfl rfl ?_
      exact B_L_law__j992 G hp1 hp2 hp3 hr hk
    · rw [if_pos hc146] at hr
      refine n_aload_n (n := 3) (by decide +kernel) rfl ?_
      refine n_iconst (n := 0) (v := 0) (by decide +kernel) rfl ?_
      obtain ⟨v147, h147, hr⟩ := bso hr
      refine n_lald G h147 hp3 (by decide +kernel) (by decide +kernel) (by decide +kernel) ?_
      refine n_iload (n := 6) (by decide +kernel) rfl ?_
      refine n_i2l (by decide +kernel) ?_
      refine n_lcmp (by decide +kernel) ?_
      refine n_if_eq (off := 5) (tgt := 992) (by decide +kernel) (by decide) (fun hc148 => ?_) (fun hc148 => ?_)
      · rw [if_pos hc148] at hr
        refine n_msk [true, true, true, true, true, false, false, false] (lo2 := [_, _, _, _, _, .null, .null, .null]) rfl rfl ?_
        exact B_L_law__j992 G hp1 hp2 hp3 hr hk
      · rw [if_neg hc148] at hr
        cases hr
        obtain ⟨h9, h8⟩ := hk
        subst h9; subst h8
        refine n_iconst (n := 0) (v := 0) (by decide +kernel) rfl ?_
        exact n_ireturn (by decide +kernel)
  · rw [if_neg hc145] at hr
    cases hr
    obtain ⟨h9, h8⟩ := hk
    subst h9; subst h8
    refine n_iconst (n := 0) (v := 0) (by decide +kernel) rfl ?_
    exact n_ireturn (by decide +kernel)
set_option maxRecDepth 100000 in
theorem B_L_case_14 (G : GG l s0 b L xs D cy ad) {x4 : Int32} {M : Mm} {res : Rs} {M' : Mm} {r : ((Int32 × Mm) ⊕ (Mm ⊕ Mm))} (hp1 : P 0) (hp2 : P 76) (hp3 : P 275) (hr : f_L_case_14 xs L x4 M = some r) (hk : mtc (P_L_law__b23 l s0 D cy ad P  res M') (Q_L_law__b23 l s0 D cy ad P  res M') r) : Rn l s0 D cy ad P 77 KLAW 995 [.ref 100000, .ref 0, .ref 76, .ref 275, .int x4, .null, .null, .null] [] M res M' := by
  unfold f_L_case_14 at hr
  refine n_aload_n (n := 1) (by decide +kernel) rfl ?_
  refine n_aload_n (n := 0) (by decide +kernel) rfl ?_
  refine n_iload (n := 4) (by decide +kernel) rfl ?_
  refine n_iconst (n := 1) (v := 1) (by decide +kernel) rfl ?_
  refine n_iadd (by decide +kernel) ?_
  obtain ⟨v150, h150, hr⟩ := bso hr
  refine n_sld G h150 (by decide +kernel) ?_
  refine n_aload_n (n := 3) (by decide +kernel) rfl ?_
  obtain ⟨⟨v151, M151⟩, h151, hr⟩ := bso hr
  try dsimp only at hr
  refine n_callSWi G [_, _, _] (x := v151) (M1 := M151) (B_L_clear G hp1 hp3 h151) (by decide) mL_clear ml_RL_156 rfl rfl (Nat.le_of_ble_eq_true rfl) (by decide +kernel) ?_
  refine n_istore (n := 5) (lo2 := [_, _, _, _, _, _, _, _]) (by decide +kernel) (Nat.le_of_ble_eq_true rfl) rfl ?_
  refine n_aload_n (n := 2) (by decide +kernel) rfl ?_
  refine n_aload_n (n := 0) (by decide +kernel) rfl ?_
  refine n_iload (n := 4) (by decide +kernel) rfl ?_
  refine n_iconst (n := 1) (v := 1) (by decide +kernel) rfl ?_
  refine n_iadd (by decide +kernel) ?_
  obtain ⟨v152, h152, hr⟩ := bso hr
  refine n_sld G h152 (by decide +kernel) ?_
  obtain ⟨⟨v153, M153⟩, h153, hr⟩ := bso hr
  try dsimp only at hr
  refine n_callVi G [_] (x := v153) (M1 := M153) (B_X10_clear G hp2 h153) (by decide) mX10_clear ml_RL_158 hp2 (by decide +kernel) rfl rfl (Nat.le_of_ble_eq_true rfl) (by decide +kernel) ?_
  refine n_istore (n := 6) (lo2 := [_, _, _, _, _, _, _, _]) (by decide +kernel) (Nat.le_of_ble_eq_true rfl) rfl ?_
  refine n_aload_n (n := 2) (by decide +kernel) rfl ?_
  obtain ⟨v154, h154, hr⟩ := bso hr
  refine n_callVi G [] (x := v154) (B_X10_thrown G hp2 h154) (by decide) mX10_thrown ml_RL_112 hp2 (by decide +kernel) rfl rfl (Nat.le_of_ble_eq_true rfl) (by decide +kernel) ?_
  refine n_iload (n := 5) (by decide +kernel) rfl ?_
  refine n_icmp_eq (off := 5) (tgt := 1031) (by decide +kernel) (by decide) (fun hc155 => ?_) (fun hc155 => ?_)
  · rw [if_pos hc155] at hr
    refine n_iload (n := 5) (by decide +kernel) rfl ?_
    refine n_if_ne (off := 15) (tgt := 1048) (by decide +kernel) (by decide) (fun hc156 => ?_) (fun hc156 => ?_)
    · rw [if_neg hc156] at hr
      refine n_msk [true, true, true, true, true, false, false, false] (lo2 := [_, _, _, _, _, .null, .null, .null]) rfl rfl ?_
      exact B_L_law__j1048 G hp1 hp2 hp3 hr hk
    · rw [if_pos hc156] at hr
      refine n_aload_n (n := 3) (by decide +kernel) rfl ?_
      refine n_iconst (n := 0) (v := 0) (by decide +kernel) rfl ?_
      obtain ⟨v157, h157, hr⟩ := bso hr
      refine n_lald G h157 hp3 (by decide +kernel) (by decide +kernel) (by decide +kernel) ?_
      refine n_iload (n := 6) (by decide +kernel) rfl ?_
      refine n_i2l (by decide +kernel) ?_
      refine n_lcmp (by decide +kernel) ?_
      refine n_if_eq (off := 5) (tgt := 1048) (by decide +kernel) (by decide) (fun hc158 => ?_) (fun hc158 => ?_)
      · rw [if_pos hc158] at hr
        refine n_msk [true, true, true, true, true, false, false, false] (lo2 := [_, _, _, _, _, .null, .null, .null]) rfl rfl ?_
        exact B_L_law__j1048 G hp1 hp2 hp3 hr hk
      · rw [if_neg hc158] at hr
        cases hr
        obtain ⟨h9, h8⟩ := hk
        subst h9; subst h8
        refine n_iconst (n := 0) (v := 0) (by decide +kernel) rfl ?_
        exact n_ireturn (by decide +kernel)
  · rw [if_neg hc155] at hr
    cases hr
    obtain ⟨h9, h8⟩ := hk
    subst h9; subst h8
    refine n_iconst (n := 0) (v := 0) (by decide +kernel) rfl ?_
    exact n_ireturn (by decide +kernel)
set_option maxRecDepth 100000 in
theorem B_L_case_15 (G : GG l s0 b L xs D cy ad) {x4 : Int32} {M : Mm} {res : Rs} {M' : Mm} {r : ((Int32 × Mm) ⊕ (Mm ⊕ Mm))} (hp1 : P 0) (hp2 : P 76) (hp3 : P 275) (hr : f_L_case_15 xs L x4 M = some r) (hk : mtc (P_L_law__b23 l s0 D cy ad P  res M') (Q_L_law__b23 l s0 D cy ad P  res M') r) : Rn l s0 D cy ad P 77 KLAW 1051 [.ref 100000, .ref 0, .ref 76, .ref 275, .int x4, .null, .null, .null] [] M res M' := by
  unfold f_L_case_15 at hr
  refine n_aload_n (n := 1) (by decide +kernel) rfl ?_
  refine n_aload_n (n := 0) (by decide +kernel) rfl ?_
  refine n_iload (n := 4) (by decide +kernel) rfl ?_
  refine n_iconst (n := 1) (v := 1) (by decide +kernel) rfl ?_
  refine n_iadd (by decide +kernel) ?_
  obtain ⟨v160, h160, hr⟩ := bso hr
  refine n_sld G h160 (by decide +kernel) ?_
  refine n_aload_n (n := 0) (by decide +kernel) rfl ?_
  refine n_iload (n := 4) (by decide +kernel) rfl ?_
  refine n_iconst (n := 2) (v := 2) (by decide +kernel) rfl ?_
  refine n_iadd (by decide +kernel) ?_
  obtain ⟨v161, h161, hr⟩ := bso hr
  refine n_sld G h161 (by decide +kernel) ?_
  refine n_aload_n (n := 3) (by decide +kernel) rfl ?_
  obtain ⟨⟨v162, M162⟩, h162, hr⟩ := bso hr
  try dsimp only at hr
  refine n_callSWi G [_, _, _, _] (x := v162) (M1 := M162) (B_L_stops G hp1 hp3 h162) (by decide) mL_stops ml_RL_159 rfl rfl (Nat.le_of_ble_eq_true rfl) (by decide +kernel) ?_
  refine n_istore (n := 5) (lo2 := [_, _, _, _, _, _, _, _]) (by decide +kernel) (Nat.le_of_ble_eq_true rfl) rfl ?_
  refine n_aload_n (n := 2) (by decide +kernel) rfl ?_
  refine n_aload_n (n := 0) (by decide +kernel) rfl ?_
  refine n_iload (n := 4) (by decide +kernel) rfl ?_
  refine n_iconst (n := 1) (v := 1) (by decide +kernel) rfl ?_
  refine n_iadd (by decide +kernel) ?_
  obtain ⟨v163, h163, hr⟩ := bso hr
  refine n_sld G h163 (by decide +kernel) ?_
  refine n_aload_n (n := 0) (by decide +kernel) rfl ?_
  refine n_iload (n := 4) (by decide +kernel) rfl ?_
  refine n_iconst (n := 2) (v := 2) (by decide +kernel) rfl ?_
  refine n_iadd (by decide +kernel) ?_
  obtain ⟨v164, h164, hr⟩ := bso hr
  refine n_sld G h164 (by decide +kernel) ?_
  obtain ⟨⟨v165, M165⟩, h165, hr⟩ := bso hr
  try dsimp only at hr
  refine n_callVi G [_, _] (x := v165) (M1 := M165) (B_X10_stops G hp2 h165) (by decide) mX10_stops ml_RL_161 hp2 (by decide +kernel) rfl rfl (Nat.le_of_ble_eq_true rfl) (by decide +kernel) ?_
  refine n_istore (n := 6) (lo2 := [_, _, _, _, _, _, _, _]) (by decide +kernel) (Nat.le_of_ble_eq_true rfl) rfl ?_
  refine n_aload_n (n := 2) (by decide +kernel) rfl ?_
  obtain ⟨v166, h166, hr⟩ := bso hr
  refine n_callVi G [] (x := v166) (B_X10_thrown G hp2 h166) (by decide) mX10_thrown ml_RL_112 hp2 (by decide +kernel) rfl rfl (Nat.le_of_ble_eq_true rfl) (by decide +kernel) ?_
  refine n_iload (n := 5) (by decide +kernel) rfl ?_
  refine n_icmp_eq (off := 5) (tgt := 1099) (by decide +kernel) (by decide) (fun hc167 => ?_) (fun hc167 => ?_)
  · rw [if_pos hc167] at hr
    refine n_iload (n := 5) (by decide +kernel) rfl ?_
    refine n_if_ne (off := 15) (tgt := 1116) (by decide +kernel) (by decide) (fun hc168 => ?_) (fun hc168 => ?_)
    · rw [if_neg hc168] at hr
      refine n_msk [true, true, true, true, true, false, false, false] (lo2 := [_, _, _, _, _, .null, .null, .null]) rfl rfl ?_
      exact B_L_law__j1116 G hp1 hp2 hp3 hr hk
    · rw [if_pos hc168] at hr
      refine n_aload_n (n := 3) (by decide +kernel) rfl ?_
      refine n_iconst (n := 0) (v := 0) (by decide +kernel) rfl ?_
      obtain ⟨v169, h169, hr⟩ := bso hr
      refine n_lald G h169 hp3 (by decide +kernel) (by decide +kernel) (by decide +kernel) ?_
      refine n_iload (n := 6) (by decide +kernel) rfl ?_
      refine n_i2l (by decide +kernel) ?_
      refine n_lcmp (by decide +kernel) ?_
      refine n_if_eq (off := 5) (tgt := 1116) (by decide +kernel) (by decide) (fun hc170 => ?_) (fun hc170 => ?_)
      · rw [if_pos hc170] at hr
        refine n_msk [true, true, true, true, true, false, false, false] (lo2 := [_, _, _, _, _, .null, .null, .null]) rfl rfl ?_
        exact B_L_law__j1116 G hp1 hp2 hp3 hr hk
      · rw [if_neg hc170] at hr
        cases hr
        obtain ⟨h9, h8⟩ := hk
        subst h9; subst h8
        refine n_iconst (n := 0) (v := 0) (by decide +kernel) rfl ?_
        exact n_ireturn (by decide +kernel)
  · rw [if_neg hc167] at hr
    cases hr
    obtain ⟨h9, h8⟩ := hk
    subst h9; subst h8
    refine n_iconst (n := 0) (v := 0) (by decide +kernel) rfl ?_
    exact n_ireturn (by decide +kernel)
set_option maxRecDepth 100000 in
theorem B_L_case_16 (G : GG l s0 b L xs D cy ad) {x4 : Int32} {M : Mm} {res : Rs} {M' : Mm} {r : ((Int32 × Mm) ⊕ (Mm ⊕ Mm))} (hp1 : P 0) (hp2 : P 76) (hp3 : P 275) (hr : f_L_case_16 xs L x4 M = some r) (hk : mtc (P_L_law__b23 l s0 D cy ad P  res M') (Q_L_law__b23 l s0 D cy ad P  res M') r) : Rn l s0 D cy ad P 77 KLAW 1119 [.ref 100000, .ref 0, .ref 76, .ref 275, .int x4, .null, .null, .null] [] M res M' := by
  unfold f_L_case_16 at hr
  refine n_aload_n (n := 1) (by decide +kernel) rfl ?_
  refine n_aload_n (n := 0) (by decide +kernel) rfl ?_
  refine n_iload (n := 4) (by decide +kernel) rfl ?_
  refine n_iconst (n := 1) (v := 1) (by decide +kernel) rfl ?_
  refine n_iadd (by decide +kernel) ?_
  obtain ⟨v172, h172, hr⟩ := bso hr
  refine n_sld G h172 (by decide +kernel) ?_
  refine n_aload_n (n := 3) (by decide +kernel) rfl ?_
  obtain ⟨⟨v173, M173⟩, h173, hr⟩ := bso hr
  try dsimp only at hr
  refine n_callSWi G [_, _, _] (x := v173) (M1 := M173) (B_L_way G hp1 hp3 h173) (by decide) mL_way ml_RL_162 rfl rfl (Nat.le_of_ble_eq_true rfl) (by decide +kernel) ?_
  refine n_istore (n := 5) (lo2 := [_, _, _, _, _, _, _, _]) (by decide +kernel) (Nat.le_of_ble_eq_true rfl) rfl ?_
  refine n_aload_n (n := 2) (by decide +kernel) rfl ?_
  refine n_aload_n (n := 0) (by decide +kernel) rfl ?_
  refine n_iload (n := 4) (by decide +kernel) rfl ?_
  refine n_iconst (n := 1) (v := 1) (by decide +kernel) rfl ?_
  refine n_iadd (by decide +kernel) ?_
  obtain ⟨v174, h174, hr⟩ := bso hr
  refine n_sld G h174 (by decide +kernel) ?_
  obtain ⟨⟨v175, M175⟩, h175, hr⟩ := bso hr
  try dsimp only at hr
  refine n_callVl G [_] (x := v175) (M1 := M175) (B_X10_way G hp2 h175) (by decide) mX10_way ml_RL_164 hp2 (by decide +kernel) rfl rfl (Nat.le_of_ble_eq_true rfl) (by decide +kernel) ?_
  refine n_lstore (n := 6) (lo2 := [_, _, _, _, _, _, _, _]) (by decide +kernel) (Nat.le_of_ble_eq_true rfl) rfl ?_
  refine n_aload_n (n := 2) (by decide +kernel) rfl ?_
  obtain ⟨v176, h176, hr⟩ := bso hr
  refine n_callVi G [] (x := v176) (B_X10_thrown G hp2 h176) (by decide) mX10_thrown ml_RL_112 hp2 (by decide +kernel) rfl rfl (Nat.le_of_ble_eq_true rfl) (by decide +kernel) ?_
  refine n_iload (n := 5) (by decide +kernel) rfl ?_
  refine n_icmp_eq (off := 5) (tgt := 1155) (by decide +kernel) (by decide) (fun hc177 => ?_) (fun hc177 => ?_)
  · rw [if_pos hc177] at hr
    refine n_iload (n := 5) (by decide +kernel) rfl ?_
    refine n_if_ne (off := 14) (tgt := 1171) (by decide +kernel) (by decide) (fun hc178 => ?_) (fun hc178 => ?_)
    · rw [if_neg hc178] at hr
      refine n_msk [true, true, true, true, true, false, false, false] (lo2 := [_, _, _, _, _, .null, .null, .null]) rfl rfl ?_
      exact B_L_law__j1171 G hp1 hp2 hp3 hr hk
    · rw [if_pos hc178] at hr
      refine n_aload_n (n := 3) (by decide +kernel) rfl ?_
      refine n_iconst (n := 0) (v := 0) (by decide +kernel) rfl ?_
      obtain ⟨v179, h179, hr⟩ := bso hr
      refine n_lald G h179 hp3 (by decide +kernel) (by decide +kernel) (by decide +kernel) ?_
      refine n_lload (n := 6) (by decide +kernel) rfl ?_
      refine n_lcmp (by decide +kernel) ?_
      refine n_if_eq (off := 5) (tgt := 1171) (by decide +kernel) (by decide) (fun hc180 => ?_) (fun hc180 => ?_)
      · rw [if_pos hc180] at hr
        refine n_msk [true, true, true, true, true, false, false, false] (lo2 := [_, _, _, _, _, .null, .null, .null]) rfl rfl ?_
        exact B_L_law__j1171 G hp1 hp2 hp3 hr hk
      · rw [if_neg hc180] at hr
        cases hr
        obtain ⟨h9, h8⟩ := hk
        subst h9; subst h8
        refine n_iconst (n := 0) (v := 0) (by decide +kernel) rfl ?_
        exact n_ireturn (by decide +kernel)
  · rw [if_neg hc177] at hr
    cases hr
    obtain ⟨h9, h8⟩ := hk
    subst h9; subst h8
    refine n_iconst (n := 0) (v := 0) (by decide +kernel) rfl ?_
    exact n_ireturn (by decide +kernel)
set_option maxRecDepth 100000 in
theorem B_L_case_17 (G : GG l s0 b L xs D cy ad) {x4 : Int32} {M : Mm} {res : Rs} {M' : Mm} {r : ((Int32 × Mm) ⊕ (Mm ⊕ Mm))} (hp1 : P 0) (hp2 : P 76) (hp3 : P 275) (hr : f_L_case_17 xs L x4 M = some r) (hk : mtc (P_L_law__b23 l s0 D cy ad P  res M') (Q_L_law__b23 l s0 D cy ad P  res M') r) : Rn l s0 D cy ad P 77 KLAW 1174 [.ref 100000, .ref 0, .ref 76, .ref 275, .int x4, .null, .null, .null] [] M res M' := by
  unfold f_L_case_17 at hr
  refine n_aload_n (n := 1) (by decide +kernel) rfl ?_
  refine n_aload_n (n := 0) (by decide +kernel) rfl ?_
  refine n_iload (n := 4) (by decide +kernel) rfl ?_
  refine n_iconst (n := 1) (v := 1) (by decide +kernel) rfl ?_
  refine n_iadd (by decide +kernel) ?_
  obtain ⟨v182, h182, hr⟩ := bso hr
  refine n_sld G h182 (by decide +kernel) ?_
  refine n_aload_n (n := 0) (by decide +kernel) rfl ?_
  refine n_iload (n := 4) (by decide +kernel) rfl ?_
  refine n_iconst (n := 2) (v := 2) (by decide +kernel) rfl ?_
  refine n_iadd (by decide +kernel) ?_
  obtain ⟨v183, h183, hr⟩ := bso hr
  refine n_sld G h183 (by decide +kernel) ?_
  refine n_aload_n (n := 3) (by decide +kernel) rfl ?_
  obtain ⟨⟨v184, M184⟩, h184, hr⟩ := bso hr
  try dsimp only at hr
  refine n_callSWi G [_, _, _, _] (x := v184) (M1 := M184) (B_L_heaps G hp1 hp3 h184) (by decide) mL_heaps ml_RL_165 rfl rfl (Nat.le_of_ble_eq_true rfl) (by decide +kernel) ?_
  refine n_istore (n := 5) (lo2 := [_, _, _, _, _, _, _, _]) (by decide +kernel) (Nat.le_of_ble_eq_true rfl) rfl ?_
  refine n_aload_n (n := 2) (by decide +kernel) rfl ?_
  refine n_aload_n (n := 0) (by decide +kernel) rfl ?_
  refine n_iload (n := 4) (by decide +kernel) rfl ?_
  refine n_iconst (n := 1) (v := 1) (by decide +kernel) rfl ?_
  refine n_iadd (by decide +kernel) ?_
  obtain ⟨v185, h185, hr⟩ := bso hr
  refine n_sld G h185 (by decide +kernel) ?_
  refine n_aload_n (n := 0) (by decide +kernel) rfl ?_
  refine n_iload (n := 4) (by decide +kernel) rfl ?_
  refine n_iconst (n := 2) (v := 2) (by decide +kernel) rfl ?_
  refine n_iadd (by decide +kernel) ?_
  obtain ⟨v186, h186, hr⟩ := bso hr
  refine n_sld G h186 (by decide +kernel) ?_
  obtain ⟨⟨v187, M187⟩, h187, hr⟩ := bso hr
  try dsimp only at hr
  refine n_callVi G [_, _] (x := v187) (M1 := M187) (B_X10_heaps G hp2 h187) (by decide) mX10_heaps ml_RL_167 hp2 (by decide +kernel) rfl rfl (Nat.le_of_ble_eq_true rfl) (by decide +kernel) ?_
  refine n_istore (n := 6) (lo2 := [_, _, _, _, _, _, _, _]) (by decide +kernel) (Nat.le_of_ble_eq_true rfl) rfl ?_
  refine n_aload_n (n := 2) (by decide +kernel) rfl ?_
  obtain ⟨v188, h188, hr⟩ := bso hr
  refine n_callVi G [] (x := v188) (B_X10_thrown G hp2 h188) (by decide) mX10_thrown ml_RL_112 hp2 (by decide +kernel) rfl rfl (Nat.le_of_ble_eq_true rfl) (by decide +kernel) ?_
  refine n_iload (n := 5) (by decide +kernel) rfl ?_
  refine n_icmp_eq (off := 5) (tgt := 1222) (by decide +kernel) (by decide) (fun hc189 => ?_) (fun hc189 => ?_)
  · rw [if_pos hc189] at hr
    refine n_iload (n := 5) (by decide +kernel) rfl ?_
    refine n_if_ne (off := 15) (tgt := 1239) (by decide +kernel) (by decide) (fun hc190 => ?_) (fun hc190 => ?_)
    · rw [if_neg hc190] at hr
      refine n_msk [true, true, true, true, true, false, false, false] (lo2 := [_, _, _, _, _, .null, .null, .null]) rfl rfl ?_
      exact B_L_law__j1239 G hp1 hp2 hp3 hr hk
    · rw [if_pos hc190] at hr
      refine n_aload_n (n := 3) (by decide +kernel) rfl ?_
      refine n_iconst (n := 0) (v := 0) (by decide +kernel) rfl ?_
      obtain ⟨v191, h191, hr⟩ := bso hr
      refine n_lald G h191 hp3 (by decide +kernel) (by decide +kernel) (by decide +kernel) ?_
      refine n_iload (n := 6) (by decide +kernel) rfl ?_
      refine n_i2l (by decide +kernel) ?_
      refine n_lcmp (by decide +kernel) ?_
      refine n_if_eq (off := 5) (tgt := 1239) (by decide +kernel) (by decide) (fun hc192 => ?_) (fun hc192 => ?_)
      · rw [if_pos hc192] at hr
        refine n_msk [true, true, true, true, true, false, false, false] (lo2 := [_, _, _, _, _, .null, .null, .null]) rfl rfl ?_
        exact B_L_law__j1239 G hp1 hp2 hp3 hr hk
      · rw [if_neg hc192] at hr
        cases hr
        obtain ⟨h9, h8⟩ := hk
        subst h9; subst h8
        refine n_iconst (n := 0) (v := 0) (by decide +kernel) rfl ?_
        exact n_ireturn (by decide +kernel)
  · rw [if_neg hc189] at hr
    cases hr
    obtain ⟨h9, h8⟩ := hk
    subst h9; subst h8
    refine n_iconst (n := 0) (v := 0) (by decide +kernel) rfl ?_
    exact n_ireturn (by decide +kernel)
set_option maxRecDepth 100000 in
theorem B_L_case_18 (G : GG l s0 b L xs D cy ad) {x4 : Int32} {M : Mm} {res : Rs} {M' : Mm} {r : ((Int32 × Mm) ⊕ (Mm ⊕ Mm))} (hp1 : P 0) (hp2 : P 76) (hp3 : P 275) (hr : f_L_case_18 xs L x4 M = some r) (hk : mtc (P_L_law__b23 l s0 D cy ad P  res M') (Q_L_law__b23 l s0 D cy ad P  res M') r) : Rn l s0 D cy ad P 77 KLAW 1242 [.ref 100000, .ref 0, .ref 76, .ref 275, .int x4, .null, .null, .null] [] M res M' := by
  unfold f_L_case_18 at hr
  refine n_aload_n (n := 1) (by decide +kernel) rfl ?_
  refine n_aload_n (n := 0) (by decide +kernel) rfl ?_
  refine n_iload (n := 4) (by decide +kernel) rfl ?_
  refine n_iconst (n := 1) (v := 1) (by decide +kernel) rfl ?_
  refine n_iadd (by decide +kernel) ?_
  obtain ⟨v194, h194, hr⟩ := bso hr
  refine n_sld G h194 (by decide +kernel) ?_
  refine n_aload_n (n := 0) (by decide +kernel) rfl ?_
  refine n_iload (n := 4) (by decide +kernel) rfl ?_
  refine n_iconst (n := 2) (v := 2) (by decide +kernel) rfl ?_
  refine n_iadd (by decide +kernel) ?_
  obtain ⟨v195, h195, hr⟩ := bso hr
  refine n_sld G h195 (by decide +kernel) ?_
  refine n_aload_n (n := 3) (by decide +kernel) rfl ?_
  obtain ⟨⟨v196, M196⟩, h196, hr⟩ := bso hr
  try dsimp only at hr
  refine n_callSWi G [_, _, _, _] (x := v196) (M1 := M196) (B_L_line G hp1 hp3 h196) (by decide) mL_line ml_RL_168 rfl rfl (Nat.le_of_ble_eq_true rfl) (by decide +kernel) ?_
  refine n_istore (n := 5) (lo2 := [_, _, _, _, _, _, _, _]) (by decide +kernel) (Nat.le_of_ble_eq_true rfl) rfl ?_
  refine n_aload_n (n := 2) (by decide +kernel) rfl ?_
  refine n_aload_n (n := 0) (by decide +kernel) rfl ?_
  refine n_iload (n := 4) (by decide +kernel) rfl ?_
  refine n_iconst (n := 1) (v := 1) (by decide +kernel) rfl ?_
  refine n_iadd (by decide +kernel) ?_
  obtain ⟨v197, h197, hr⟩ := bso hr
  refine n_sld G h197 (by decide +kernel) ?_
  refine n_aload_n (n := 0) (by decide +kernel) rfl ?_
  refine n_iload (n := 4) (by decide +kernel) rfl ?_
  refine n_iconst (n := 2) (v := 2) (by decide +kernel) rfl ?_
  refine n_iadd (by decide +kernel) ?_
  obtain ⟨v198, h198, hr⟩ := bso hr
  refine n_sld G h198 (by decide +kernel) ?_
  obtain ⟨⟨v199, M199⟩, h199, hr⟩ := bso hr
  try dsimp only at hr
  refine n_callVi G [_, _] (x := v199) (M1 := M199) (B_X10_line G hp2 h199) (by decide) mX10_line ml_RL_170 hp2 (by decide +kernel) rfl rfl (Nat.le_of_ble_eq_true rfl) (by decide +kernel) ?_
  refine n_istore (n := 6) (lo2 := [_, _, _, _, _, _, _, _]) (by decide +kernel) (Nat.le_of_ble_eq_true rfl) rfl ?_
  refine n_aload_n (n := 2) (by decide +kernel) rfl ?_
  obtain ⟨v200, h200, hr⟩ := bso hr
  refine n_callVi G [] (x := v200) (B_X10_thrown G hp2 h200) (by decide) mX10_thrown ml_RL_112 hp2 (by decide +kernel) rfl rfl (Nat.le_of_ble_eq_true rfl) (by decide +kernel) ?_
  refine n_iload (n := 5) (by decide +kernel) rfl ?_
  refine n_icmp_eq (off := 5) (tgt := 1290) (by decide +kernel) (by decide) (fun hc201 => ?_) (fun hc201 => ?_)
  · rw [if_pos hc201] at hr
    refine n_iload (n := 5) (by decide +kernel) rfl ?_
    refine n_if_ne (off := 15) (tgt := 1307) (by decide +kernel) (by decide) (fun hc202 => ?_) (fun hc202 => ?_)
    · rw [if_neg hc202] at hr
      refine n_msk [true, true, true, true, true, false, false, false] (lo2 := [_, _, _, _, _, .null, .null, .null]) rfl rfl ?_
      exact B_L_law__j1307 G hp1 hp2 hp3 hr hk
    · rw [if_pos hc202] at hr
      refine n_aload_n (n := 3) (by decide +kernel) rfl ?_
      refine n_iconst (n := 0) (v := 0) (by decide +kernel) rfl ?_
      obtain ⟨v203, h203, hr⟩ := bso hr
      refine n_lald G h203 hp3 (by decide +kernel) (by decide +kernel) (by decide +kernel) ?_
      refine n_iload (n := 6) (by decide +kernel) rfl ?_
      refine n_i2l (by decide +kernel) ?_
      refine n_lcmp (by decide +kernel) ?_
      refine n_if_eq (off := 5) (tgt := 1307) (by decide +kernel) (by decide) (fun hc204 => ?_) (fun hc204 => ?_)
      · rw [if_pos hc204] at hr
        refine n_msk [true, true, true, true, true, false, false, false] (lo2 := [_, _, _, _, _, .null, .null, .null]) rfl rfl ?_
        exact B_L_law__j1307 G hp1 hp2 hp3 hr hk
      · rw [if_neg hc204] at hr
        cases hr
        obtain ⟨h9, h8⟩ := hk
        subst h9; subst h8
        refine n_iconst (n := 0) (v := 0) (by decide +kernel) rfl ?_
        exact n_ireturn (by decide +kernel)
  · rw [if_neg hc201] at hr
    cases hr
    obtain ⟨h9, h8⟩ := hk
    subst h9; subst h8
    refine n_iconst (n := 0) (v := 0) (by decide +kernel) rfl ?_
    exact n_ireturn (by decide +kernel)
set_option maxRecDepth 100000 in
theorem B_L_case_19 (G : GG l s0 b L xs D cy ad) {x4 : Int32} {M : Mm} {res : Rs} {M' : Mm} {r : ((Int32 × Mm) ⊕ (Mm ⊕ Mm))} (hp1 : P 0) (hp2 : P 76) (hp3 : P 275) (hr : f_L_case_19 xs L x4 M = some r) (hk : mtc (P_L_law__b23 l s0 D cy ad P  res M') (Q_L_law__b23 l s0 D cy ad P  res M') r) : Rn l s0 D cy ad P 77 KLAW 1310 [.ref 100000, .ref 0, .ref 76, .ref 275, .int x4, .null, .null, .null] [] M res M' := by
  unfold f_L_case_19 at hr
  refine n_aload_n (n := 1) (by decide +kernel) rfl ?_
  refine n_aload_n (n := 0) (by decide +kernel) rfl ?_
  refine n_iload (n := 4) (by decide +kernel) rfl ?_
  refine n_iconst (n := 1) (v := 1) (by decide +kernel) rfl ?_
  refine n_iadd (by decide +kernel) ?_
  obtain ⟨v206, h206, hr⟩ := bso hr
  refine n_sld G h206 (by decide +kernel) ?_
  refine n_aload_n (n := 0) (by decide +kernel) rfl ?_
  refine n_iload (n := 4) (by decide +kernel) rfl ?_
  refine n_iconst (n := 2) (v := 2) (by decide +kernel) rfl ?_
  refine n_iadd (by decide +kernel) ?_
  obtain ⟨v207, h207, hr⟩ := bso hr
  refine n_sld G h207 (by decide +kernel) ?_
  refine n_aload_n (n := 3) (by decide +kernel) rfl ?_
  obtain ⟨⟨v208, M208⟩, h208, hr⟩ := bso hr
  try dsimp only at hr
  refine n_callSWi G [_, _, _, _] (x := v208) (M1 := M208) (B_L_first G hp1 hp3 h208) (by decide) mL_first ml_RL_171 rfl rfl (Nat.le_of_ble_eq_true rfl) (by decide +kernel) ?_
  refine n_istore (n := 5) (lo2 := [_, _, _, _, _, _, _, _]) (by decide +kernel) (Nat.le_of_ble_eq_true rfl) rfl ?_
  refine n_aload_n (n := 2) (by decide +kernel) rfl ?_
  refine n_aload_n (n := 0) (by decide +kernel) rfl ?_
  refine n_iload (n := 4) (by decide +kernel) rfl ?_
  refine n_iconst (n := 1) (v := 1) (by decide +kernel) rfl ?_
  refine n_iadd (by decide +kernel) ?_
  obtain ⟨v209, h209, hr⟩ := bso hr
  refine n_sld G h209 (by decide +kernel) ?_
  refine n_aload_n (n := 0) (by decide +kernel) rfl ?_
  refine n_iload (n := 4) (by decide +kernel) rfl ?_
  refine n_iconst (n := 2) (v := 2) (by decide +kernel) rfl ?_
  refine n_iadd (by decide +kernel) ?_
  obtain ⟨v210, h210, hr⟩ := bso hr
  refine n_sld G h210 (by decide +kernel) ?_
  obtain ⟨⟨v211, M211⟩, h211, hr⟩ := bso hr
  try dsimp only at hr
  refine n_callVl G [_, _] (x := v211) (M1 := M211) (B_X10_first G hp2 h211) (by decide) mX10_first ml_RL_173 hp2 (by decide +kernel) rfl rfl (Nat.le_of_ble_eq_true rfl) (by decide +kernel) ?_
  refine n_lstore (n := 6) (lo2 := [_, _, _, _, _, _, _, _]) (by decide +kernel) (Nat.le_of_ble_eq_true rfl) rfl ?_
  refine n_aload_n (n := 2) (by decide +kernel) rfl ?_
  obtain ⟨v212, h212, hr⟩ := bso hr
  refine n_callVi G [] (x := v212) (B_X10_thrown G hp2 h212) (by decide) mX10_thrown ml_RL_112 hp2 (by decide +kernel) rfl rfl (Nat.le_of_ble_eq_true rfl) (by decide +kernel) ?_
  refine n_iload (n := 5) (by decide +kernel) rfl ?_
  refine n_icmp_eq (off := 5) (tgt := 1358) (by decide +kernel) (by decide) (fun hc213 => ?_) (fun hc213 => ?_)
  · rw [if_pos hc213] at hr
    refine n_iload (n := 5) (by decide +kernel) rfl ?_
    refine n_if_ne (off := 14) (tgt := 1374) (by decide +kernel) (by decide) (fun hc214 => ?_) (fun hc214 => ?_)
    · rw [if_neg hc214] at hr
      refine n_msk [true, true, true, true, true, false, false, false] (lo2 := [_, _, _, _, _, .null, .null, .null]) rfl rfl ?_
      exact B_L_law__j1374 G hp1 hp2 hp3 hr hk
    · rw [if_pos hc214] at hr
      refine n_aload_n (n := 3) (by decide +kernel) rfl ?_
      refine n_iconst (n := 0) (v := 0) (by decide +kernel) rfl ?_
      obtain ⟨v215, h215, hr⟩ := bso hr
      refine n_lald G h215 hp3 (by decide +kernel) (by decide +kernel) (by decide +kernel) ?_
      refine n_lload (n := 6) (by decide +kernel) rfl ?_
      refine n_lcmp (by decide +kernel) ?_
      refine n_if_eq (off := 5) (tgt := 1374) (by decide +kernel) (by decide) (fun hc216 => ?_) (fun hc216 => ?_)
      · rw [if_pos hc216] at hr
        refine n_msk [true, true, true, true, true, false, false, false] (lo2 := [_, _, _, _, _, .null, .null, .null]) rfl rfl ?_
        exact B_L_law__j1374 G hp1 hp2 hp3 hr hk
      · rw [if_neg hc216] at hr
        cases hr
        obtain ⟨h9, h8⟩ := hk
        subst h9; subst h8
        refine n_iconst (n := 0) (v := 0) (by decide +kernel) rfl ?_
        exact n_ireturn (by decide +kernel)
  · rw [if_neg hc213] at hr
    cases hr
    obtain ⟨h9, h8⟩ := hk
    subst h9; subst h8
    refine n_iconst (n := 0) (v := 0) (by decide +kernel) rfl ?_
    exact n_ireturn (by decide +kernel)
set_option maxRecDepth 100000 in
theorem B_L_case_20 (G : GG l s0 b L xs D cy ad) {x4 : Int32} {M : Mm} {res : Rs} {M' : Mm} {r : ((Int32 × Mm) ⊕ (Mm ⊕ Mm))} (hp1 : P 0) (hp2 : P 76) (hp3 : P 275) (hr : f_L_case_20 xs L x4 M = some r) (hk : mtc (P_L_law__b23 l s0 D cy ad P  res M') (Q_L_law__b23 l s0 D cy ad P  res M') r) : Rn l s0 D cy ad P 77 KLAW 1377 [.ref 100000, .ref 0, .ref 76, .ref 275, .int x4, .null, .null, .null] [] M res M' := by
  unfold f_L_case_20 at hr
  refine n_aload_n (n := 1) (by decide +kernel) rfl ?_
  refine n_aload_n (n := 0) (by decide +kernel) rfl ?_
  refine n_iload (n := 4) (by decide +kernel) rfl ?_
  refine n_iconst (n := 1) (v := 1) (by decide +kernel) rfl ?_
  refine n_iadd (by decide +kernel) ?_
  obtain ⟨v218, h218, hr⟩ := bso hr
  refine n_sld G h218 (by decide +kernel) ?_
  refine n_aload_n (n := 0) (by decide +kernel) rfl ?_
  refine n_iload (n := 4) (by decide +kernel) rfl ?_
  refine n_iconst (n := 2) (v := 2) (by decide +kernel) rfl ?_
  refine n_iadd (by decide +kernel) ?_
  obtain ⟨v219, h219, hr⟩ := bso hr
  refine n_sld G h219 (by decide +kernel) ?_
  refine n_aload_n (n := 0) (by decide +kernel) rfl ?_
  refine n_iload (n := 4) (by decide +kernel) rfl ?_
  refine n_iconst (n := 3) (v := 3) (by decide +kernel) rfl ?_
  refine n_iadd (by decide +kernel) ?_
  obtain ⟨v220, h220, hr⟩ := bso hr
  refine n_sld G h220 (by decide +kernel) ?_
  refine n_aload_n (n := 0) (by decide +kernel) rfl ?_
  refine n_iload (n := 4) (by decide +kernel) rfl ?_
  refine n_iconst (n := 4) (v := 4) (by decide +kernel) rfl ?_
  refine n_iadd (by decide +kernel) ?_
  obtain ⟨v221, h221, hr⟩ := bso hr
  refine n_sld G h221 (by decide +kernel) ?_
  refine n_aload_n (n := 3) (by decide +kernel) rfl ?_
  obtain ⟨⟨v222, M222⟩, h222, hr⟩ := bso hr
  try dsimp only at hr
  refine n_callSWi G [_, _, _, _, _, _] (x := v222) (M1 := M222) (B_L_mix G hp1 hp3 h222) (by decide) mL_mix ml_RL_174 rfl rfl (Nat.le_of_ble_eq_true rfl) (by decide +kernel) ?_
  refine n_istore (n := 5) (lo2 := [_, _, _, _, _, _, _, _]) (by decide +kernel) (Nat.le_of_ble_eq_true rfl) rfl ?_
  refine n_aload_n (n := 2) (by decide +kernel) rfl ?_
  refine n_aload_n (n := 0) (by decide +kernel) rfl ?_
  refine n_iload (n := 4) (by decide +kernel) rfl ?_
  refine n_iconst (n := 1) (v := 1) (by decide +kernel) rfl ?_
  refine n_iadd (by decide +kernel) ?_
  obtain ⟨v223, h223, hr⟩ := bso hr
  refine n_sld G h223 (by decide +kernel) ?_
  refine n_aload_n (n := 0) (by decide +kernel) rfl ?_
  refine n_iload (n := 4) (by decide +kernel) rfl ?_
  refine n_iconst (n := 2) (v := 2) (by decide +kernel) rfl ?_
  refine n_iadd (by decide +kernel) ?_
  obtain ⟨v224, h224, hr⟩ := bso hr
  refine n_sld G h224 (by decide +kernel) ?_
  refine n_aload_n (n := 0) (by decide +kernel) rfl ?_
  refine n_iload (n := 4) (by decide +kernel) rfl ?_
  refine n_iconst (n := 3) (v := 3) (by decide +kernel) rfl ?_
  refine n_iadd (by decide +kernel) ?_
  obtain ⟨v225, h225, hr⟩ := bso hr
  refine n_sld G h225 (by decide +kernel) ?_
  refine n_aload_n (n := 0) (by decide +kernel) rfl ?_
  refine n_iload (n := 4) (by decide +kernel) rfl ?_
  refine n_iconst (n := 4) (v := 4) (by decide +kernel) rfl ?_
  refine n_iadd (by decide +kernel) ?_
  obtain ⟨v226, h226, hr⟩ := bso hr
  refine n_sld G h226 (by decide +kernel) ?_
  obtain ⟨⟨v227, M227⟩, h227, hr⟩ := bso hr
  try dsimp only at hr
  refine n_callVi G [_, _, _, _] (x := v227) (M1 := M227) (B_X10_mix G hp2 h227) (by decide) mX10_mix ml_RL_177 hp2 (by decide +kernel) rfl rfl (Nat.le_of_ble_eq_true rfl) (by decide +kernel) ?_
  refine n_istore (n := 6) (lo2 := [_, _, _, _, _, _, _, _]) (by decide +kernel) (Nat.le_of_ble_eq_true rfl) rfl ?_
  refine n_aload_n (n := 2) (by decide +kernel) rfl ?_
  obtain ⟨v228, h228, hr⟩ := bso hr
  refine n_callVi G [] (x := v228) (B_X10_thrown G hp2 h228) (by decide) mX10_thrown ml_RL_112 hp2 (by decide +kernel) rfl rfl (Nat.le_of_ble_eq_true rfl) (by decide +kernel) ?_
  refine n_iload (n := 5) (by decide +kernel) rfl ?_
  refine n_icmp_eq (off := 5) (tgt := 1449) (by decide +kernel) (by decide) (fun hc229 => ?_) (fun hc229 => ?_)
  · rw [if_pos hc229] at hr
    refine n_iload (n := 5) (by decide +kernel) rfl ?_
    refine n_if_ne (off := 15) (tgt := 1466) (by decide +kernel) (by decide) (fun hc230 => ?_) (fun hc230 => ?_)
    · rw [if_neg hc230] at hr
      refine n_msk [true, true, true, true, true, false, false, false] (lo2 := [_, _, _, _, _, .null, .null, .null]) rfl rfl ?_
      exact B_L_law__j1466 G hp1 hp2 hp3 hr hk
    · rw [if_pos hc230] at hr
      refine n_aload_n (n := 3) (by decide +kernel) rfl ?_
      refine n_iconst (n := 0) (v := 0) (by decide +kernel) rfl ?_
      obtain ⟨v231, h231, hr⟩ := bso hr
      refine n_lald G h231 hp3 (by decide +kernel) (by decide +kernel) (by decide +kernel) ?_
      refine n_iload (n := 6) (by decide +kernel) rfl ?_
      refine n_i2l (by decide +kernel) ?_
      refine n_lcmp (by decide +kernel) ?_
      refine n_if_eq (off := 5) (tgt := 1466) (by decide +kernel) (by decide) (fun hc232 => ?_) (fun hc232 => ?_)
      · rw [if_pos hc232] at hr
        refine n_msk [true, true, true, true, true, false, false, false] (lo2 := [_, _, _, _, _, .null, .null, .null]) rfl rfl ?_
        exact B_L_law__j1466 G hp1 hp2 hp3 hr hk
      · rw [if_neg hc232] at hr
        cases hr
        obtain ⟨h9, h8⟩ := hk
        subst h9; subst h8
        refine n_iconst (n := 0) (v := 0) (by decide +kernel) rfl ?_
        exact n_ireturn (by decide +kernel)
  · rw [if_neg hc229] at hr
    cases hr
    obtain ⟨h9, h8⟩ := hk
    subst h9; subst h8
    refine n_iconst (n := 0) (v := 0) (by decide +kernel) rfl ?_
    exact n_ireturn (by decide +kernel)
set_option maxRecDepth 100000 in
theorem B_L_case_21 (G : GG l s0 b L xs D cy ad) {x4 : Int32} {M : Mm} {res : Rs} {M' : Mm} {r : ((Int32 × Mm) ⊕ (Mm ⊕ Mm))} (hp1 : P 0) (hp2 : P 76) (hp3 : P 275) (hr : f_L_case_21 xs L x4 M = some r) (hk : mtc (P_L_law__b23 l s0 D cy ad P  res M') (Q_L_law__b23 l s0 D cy ad P  res M') r) : Rn l s0 D cy ad P 77 KLAW 1469 [.ref 100000, .ref 0, .ref 76, .ref 275, .int x4, .null, .null, .null] [] M res M' := by
  unfold f_L_case_21 at hr
  refine n_aload_n (n := 1) (by decide +kernel) rfl ?_
  refine n_aload_n (n := 0) (by decide +kernel) rfl ?_
  refine n_iload (n := 4) (by decide +kernel) rfl ?_
  refine n_iconst (n := 1) (v := 1) (by decide +kernel) rfl ?_
  refine n_iadd (by decide +kernel) ?_
  obtain ⟨v234, h234, hr⟩ := bso hr
  refine n_sld G h234 (by decide +kernel) ?_
  refine n_aload_n (n := 0) (by decide +kernel) rfl ?_
  refine n_iload (n := 4) (by decide +kernel) rfl ?_
  refine n_iconst (n := 2) (v := 2) (by decide +kernel) rfl ?_
  refine n_iadd (by decide +kernel) ?_
  obtain ⟨v235, h235, hr⟩ := bso hr
  refine n_sld G h235 (by decide +kernel) ?_
  refine n_aload_n (n := 3) (by decide +kernel) rfl ?_
  obtain ⟨⟨v236, M236⟩, h236, hr⟩ := bso hr
  try dsimp only at hr
  refine n_callSWi G [_, _, _, _] (x := v236) (M1 := M236) (B_L_enough G hp1 hp3 h236) (by decide) mL_enough ml_RL_178 rfl rfl (Nat.le_of_ble_eq_true rfl) (by decide +kernel) ?_
  refine n_istore (n := 5) (lo2 := [_, _, _, _, _, _, _, _]) (by decide +kernel) (Nat.le_of_ble_eq_true rfl) rfl ?_
  refine n_aload_n (n := 2) (by decide +kernel) rfl ?_
  refine n_aload_n (n := 0) (by decide +kernel) rfl ?_
  refine n_iload (n := 4) (by decide +kernel) rfl ?_
  refine n_iconst (n := 1) (v := 1) (by decide +kernel) rfl ?_
  refine n_iadd (by decide +kernel) ?_
  obtain ⟨v237, h237, hr⟩ := bso hr
  refine n_sld G h237 (by decide +kernel) ?_
  refine n_aload_n (n := 0) (by decide +kernel) rfl ?_
  refine n_iload (n := 4) (by decide +kernel) rfl ?_
  refine n_iconst (n := 2) (v := 2) (by decide +kernel) rfl ?_
  refine n_iadd (by decide +kernel) ?_
  obtain ⟨v238, h238, hr⟩ := bso hr
  refine n_sld G h238 (by decide +kernel) ?_
  obtain ⟨⟨v239, M239⟩, h239, hr⟩ := bso hr
  try dsimp only at hr
  refine n_callVi G [_, _] (x := v239) (M1 := M239) (B_X10_enough G hp2 h239) (by decide) mX10_enough ml_RL_180 hp2 (by decide +kernel) rfl rfl (Nat.le_of_ble_eq_true rfl) (by decide +kernel) ?_
  refine n_istore (n := 6) (lo2 := [_, _, _, _, _, _, _, _]) (by decide +kernel) (Nat.le_of_ble_eq_true rfl) rfl ?_
  refine n_aload_n (n := 2) (by decide +kernel) rfl ?_
  obtain ⟨v240, h240, hr⟩ := bso hr
  refine n_callVi G [] (x := v240) (B_X10_thrown G hp2 h240) (by decide) mX10_thrown ml_RL_112 hp2 (by decide +kernel) rfl rfl (Nat.le_of_ble_eq_true rfl) (by decide +kernel) ?_
  refine n_iload (n := 5) (by decide +kernel) rfl ?_
  refine n_icmp_eq (off := 5) (tgt := 1517) (by decide +kernel) (by decide) (fun hc241 => ?_) (fun hc241 => ?_)
  · rw [if_pos hc241] at hr
    refine n_iload (n := 5) (by decide +kernel) rfl ?_
    refine n_if_ne (off := 15) (tgt := 1534) (by decide +kernel) (by decide) (fun hc242 => ?_) (fun hc242 => ?_)
    · rw [if_neg hc242] at hr
      refine n_msk [true, true, true, true, true, false, false, false] (lo2 := [_, _, _, _, _, .null, .null, .null]) rfl rfl ?_
      exact B_L_law__j1534 G hp1 hp2 hp3 hr hk
    · rw [if_pos hc242] at hr
      refine n_aload_n (n := 3) (by decide +kernel) rfl ?_
      refine n_iconst (n := 0) (v := 0) (by decide +kernel) rfl ?_
      obtain ⟨v243, h243, hr⟩ := bso hr
      refine n_lald G h243 hp3 (by decide +kernel) (by decide +kernel) (by decide +kernel) ?_
      refine n_iload (n := 6) (by decide +kernel) rfl ?_
      refine n_i2l (by decide +kernel) ?_
      refine n_lcmp (by decide +kernel) ?_
      refine n_if_eq (off := 5) (tgt := 1534) (by decide +kernel) (by decide) (fun hc244 => ?_) (fun hc244 => ?_)
      · rw [if_pos hc244] at hr
        refine n_msk [true, true, true, true, true, false, false, false] (lo2 := [_, _, _, _, _, .null, .null, .null]) rfl rfl ?_
        exact B_L_law__j1534 G hp1 hp2 hp3 hr hk
      · rw [if_neg hc244] at hr
        cases hr
        obtain ⟨h9, h8⟩ := hk
        subst h9; subst h8
        refine n_iconst (n := 0) (v := 0) (by decide +kernel) rfl ?_
        exact n_ireturn (by decide +kernel)
  · rw [if_neg hc241] at hr
    cases hr
    obtain ⟨h9, h8⟩ := hk
    subst h9; subst h8
    refine n_iconst (n := 0) (v := 0) (by decide +kernel) rfl ?_
    exact n_ireturn (by decide +kernel)
set_option maxRecDepth 100000 in
theorem B_L_case_22 (G : GG l s0 b L xs D cy ad) {x4 : Int32} {M : Mm} {res : Rs} {M' : Mm} {r : ((Int32 × Mm) ⊕ (Mm ⊕ Mm))} (hp1 : P 0) (hp2 : P 76) (hp3 : P 275) (hr : f_L_case_22 xs L x4 M = some r) (hk : mtc (P_L_law__b23 l s0 D cy ad P  res M') (Q_L_law__b23 l s0 D cy ad P  res M') r) : Rn l s0 D cy ad P 77 KLAW 1537 [.ref 100000, .ref 0, .ref 76, .ref 275, .int x4, .null, .null, .null] [] M res M' := by
  unfold f_L_case_22 at hr
  refine n_aload_n (n := 1) (by decide +kernel) rfl ?_
  refine n_aload_n (n := 0) (by decide +kernel) rfl ?_
  refine n_iload (n := 4) (by decide +kernel) rfl ?_
  refine n_iconst (n := 1) (v := 1) (by decide +kernel) rfl ?_
  refine n_iadd (by decide +kernel) ?_
  obtain ⟨v246, h246, hr⟩ := bso hr
  refine n_sld G h246 (by decide +kernel) ?_
  refine n_aload_n (n := 0) (by decide +kernel) rfl ?_
  refine n_iload (n := 4) (by decide +kernel) rfl ?_
  refine n_iconst (n := 2) (v := 2) (by decide +kernel) rfl ?_
  refine n_iadd (by decide +kernel) ?_
  obtain ⟨v247, h247, hr⟩ := bso hr
  refine n_sld G h247 (by decide +kernel) ?_
  refine n_aload_n (n := 3) (by decide +kernel) rfl ?_
  obtain ⟨⟨v248, M248⟩, h248, hr⟩ := bso hr
  try dsimp only at hr
  refine n_callSWi G [_, _, _, _] (x := v248) (M1 := M248) (B_L_left G hp1 hp3 h248) (by decide) mL_left ml_RL_181 rfl rfl (Nat.le_of_ble_eq_true rfl) (by decide +kernel) ?_
  refine n_istore (n := 5) (lo2 := [_, _, _, _, _, _, _, _]) (by decide +kernel) (Nat.le_of_ble_eq_true rfl) rfl ?_
  refine n_aload_n (n := 2) (by decide +kernel) rfl ?_
  refine n_aload_n (n := 0) (by decide +kernel) rfl ?_
  refine n_iload (n := 4) (by decide +kernel) rfl ?_
  refine n_iconst (n := 1) (v := 1) (by decide +kernel) rfl ?_
  refine n_iadd (by decide +kernel) ?_
  obtain ⟨v249, h249, hr⟩ := bso hr
  refine n_sld G h249 (by decide +kernel) ?_
  refine n_aload_n (n := 0) (by decide +kernel) rfl ?_
  refine n_iload (n := 4) (by decide +kernel) rfl ?_
  refine n_iconst (n := 2) (v := 2) (by decide +kernel) rfl ?_
  refine n_iadd (by decide +kernel) ?_
  obtain ⟨v250, h250, hr⟩ := bso hr
  refine n_sld G h250 (by decide +kernel) ?_
  obtain ⟨⟨v251, M251⟩, h251, hr⟩ := bso hr
  try dsimp only at hr
  refine n_callVi G [_, _] (x := v251) (M1 := M251) (B_X10_left G hp2 h251) (by decide) mX10_left ml_RL_183 hp2 (by decide +kernel) rfl rfl (Nat.le_of_ble_eq_true rfl) (by decide +kernel) ?_
  refine n_istore (n := 6) (lo2 := [_, _, _, _, _, _, _, _]) (by decide +kernel) (Nat.le_of_ble_eq_true rfl) rfl ?_
  refine n_aload_n (n := 2) (by decide +kernel) rfl ?_
  obtain ⟨v252, h252, hr⟩ := bso hr
  refine n_callVi G [] (x := v252) (B_X10_thrown G hp2 h252) (by decide) mX10_thrown ml_RL_112 hp2 (by decide +kernel) rfl rfl (Nat.le_of_ble_eq_true rfl) (by decide +kernel) ?_
  refine n_iload (n := 5) (by decide +kernel) rfl ?_
  refine n_icmp_eq (off := 5) (tgt := 1585) (by decide +kernel) (by decide) (fun hc253 => ?_) (fun hc253 => ?_)
  · rw [if_pos hc253] at hr
    refine n_iload (n := 5) (by decide +kernel) rfl ?_
    refine n_if_ne (off := 15) (tgt := 1602) (by decide +kernel) (by decide) (fun hc254 => ?_) (fun hc254 => ?_)
    · rw [if_neg hc254] at hr
      refine n_msk [true, true, true, true, true, false, false, false] (lo2 := [_, _, _, _, _, .null, .null, .null]) rfl rfl ?_
      exact B_L_law__j1602 G hp1 hp2 hp3 hr hk
    · rw [if_pos hc254] at hr
      refine n_aload_n (n := 3) (by decide +kernel) rfl ?_
      refine n_iconst (n := 0) (v := 0) (by decide +kernel) rfl ?_
      obtain ⟨v255, h255, hr⟩ := bso hr
      refine n_lald G h255 hp3 (by decide +kernel) (by decide +kernel) (by decide +kernel) ?_
      refine n_iload (n := 6) (by decide +kernel) rfl ?_
      refine n_i2l (by decide +kernel) ?_
      refine n_lcmp (by decide +kernel) ?_
      refine n_if_eq (off := 5) (tgt := 1602) (by decide +kernel) (by decide) (fun hc256 => ?_) (fun hc256 => ?_)
      · rw [if_pos hc256] at hr
        refine n_msk [true, true, true, true, true, false, false, false] (lo2 := [_, _, _, _, _, .null, .null, .null]) rfl rfl ?_
        exact B_L_law__j1602 G hp1 hp2 hp3 hr hk
      · rw [if_neg hc256] at hr
        cases hr
        obtain ⟨h9, h8⟩ := hk
        subst h9; subst h8
        refine n_iconst (n := 0) (v := 0) (by decide +kernel) rfl ?_
        exact n_ireturn (by decide +kernel)
  · rw [if_neg hc253] at hr
    cases hr
    obtain ⟨h9, h8⟩ := hk
    subst h9; subst h8
    refine n_iconst (n := 0) (v := 0) (by decide +kernel) rfl ?_
    exact n_ireturn (by decide +kernel)
set_option maxRecDepth 100000 in
theorem B_L_case_23 (G : GG l s0 b L xs D cy ad) {x4 : Int32} {M : Mm} {res : Rs} {M' : Mm} {r : ((Int32 × Mm) ⊕ (Mm ⊕ Mm))} (hp1 : P 0) (hp2 : P 76) (hp3 : P 275) (hr : f_L_case_23 xs L x4 M = some r) (hk : mtc (P_L_law__b23 l s0 D cy ad P  res M') (Q_L_law__b23 l s0 D cy ad P  res M') r) : Rn l s0 D cy ad P 77 KLAW 1605 [.ref 100000, .ref 0, .ref 76, .ref 275, .int x4, .null, .null, .null] [] M res M' := by
  unfold f_L_case_23 at hr
  refine n_aload_n (n := 1) (by decide +kernel) rfl ?_
  obtain ⟨⟨v258, M258⟩, h258, hr⟩ := bso hr
  try dsimp only at hr
  refine n_callVi G [] (x := v258) (M1 := M258) (B_X9_fits G hp1 h258) (by decide) mX9_fits ml_RL_184 hp1 (by decide +kernel) rfl rfl (Nat.le_of_ble_eq_true rfl) (by decide +kernel) ?_
  refine n_aload_n (n := 2) (by decide +kernel) rfl ?_
  obtain ⟨⟨v259, M259⟩, h259, hr⟩ := bso hr
  try dsimp only at hr
  refine n_callVi G [] (x := v259) (M1 := M259) (B_X10_fits G hp2 h259) (by decide) mX10_fits ml_RL_187 hp2 (by decide +kernel) rfl rfl (Nat.le_of_ble_eq_true rfl) (by decide +kernel) ?_
  refine n_icmp_eq (off := 508) (tgt := 2121) (by decide +kernel) (by decide) (fun hc260 => ?_) (fun hc260 => ?_)
  · rw [if_pos hc260] at hr
    refine n_iincK (n := 4) (j := 7) (w := 7) (lo2 := [_, _, _, _, _, _, _, _]) (by decide +kernel) rfl rfl rfl ?_
    refine n_goto (off := -2101) (tgt := 23) (by decide +kernel) (by decide) ?_
    cases hr
    exact hk
  · rw [if_neg hc260] at hr
    cases hr
    obtain ⟨h9, h8⟩ := hk
    subst h9; subst h8
    refine n_iconst (n := 0) (v := 0) (by decide +kernel) rfl ?_
    exact n_ireturn (by decide +kernel)
set_option maxRecDepth 100000 in
theorem B_L_case_24 (G : GG l s0 b L xs D cy ad) {x4 : Int32} {M : Mm} {res : Rs} {M' : Mm} {r : ((Int32 × Mm) ⊕ (Mm ⊕ Mm))} (hp1 : P 0) (hp2 : P 76) (hp3 : P 275) (hr : f_L_case_24 xs L x4 M = some r) (hk : mtc (P_L_law__b23 l s0 D cy ad P  res M') (Q_L_law__b23 l s0 D cy ad P  res M') r) : Rn l s0 D cy ad P 77 KLAW 1618 [.ref 100000, .ref 0, .ref 76, .ref 275, .int x4, .null, .null, .null] [] M res M' := by
  unfold f_L_case_24 at hr
  refine n_aload_n (n := 1) (by decide +kernel) rfl ?_
  refine n_aload_n (n := 0) (by decide +kernel) rfl ?_
  refine n_iload (n := 4) (by decide +kernel) rfl ?_
  refine n_iconst (n := 1) (v := 1) (by decide +kernel) rfl ?_
  refine n_iadd (by decide +kernel) ?_
  obtain ⟨v262, h262, hr⟩ := bso hr
  refine n_sld G h262 (by decide +kernel) ?_
  refine n_aload_n (n := 0) (by decide +kernel) rfl ?_
  refine n_iload (n := 4) (by decide +kernel) rfl ?_
  refine n_iconst (n := 2) (v := 2) (by decide +kernel) rfl ?_
  refine n_iadd (by decide +kernel) ?_
  obtain ⟨v263, h263, hr⟩ := bso hr
  refine n_sld G h263 (by decide +kernel) ?_
  refine n_aload_n (n := 0) (by decide +kernel) rfl ?_
  refine n_iload (n := 4) (by decide +kernel) rfl ?_
  refine n_iconst (n := 3) (v := 3) (by decide +kernel) rfl ?_
  refine n_iadd (by decide +kernel) ?_
  obtain ⟨v264, h264, hr⟩ := bso hr
  refine n_sld G h264 (by decide +kernel) ?_
  refine n_aload_n (n := 0) (by decide +kernel) rfl ?_
  refine n_iload (n := 4) (by decide +kernel) rfl ?_
  refine n_iconst (n := 4) (v := 4) (by decide +kernel) rfl ?_
  refine n_iadd (by decide +kernel) ?_
  obtain ⟨v265, h265, hr⟩ := bso hr
  refine n_sld G h265 (by decide +kernel) ?_
  refine n_aload_n (n := 3) (by decide +kernel) rfl ?_
  obtain ⟨⟨v266, M266⟩, h266, hr⟩ := bso hr
  try dsimp only at hr
  refine n_callSWi G [_, _, _, _, _, _] (x := v266) (M1 := M266) (B_L_frost G hp1 hp3 h266) (by decide) mL_frost ml_RL_188 rfl rfl (Nat.le_of_ble_eq_true rfl) (by decide +kernel) ?_
  refine n_istore (n := 5) (lo2 := [_, _, _, _, _, _, _, _]) (by decide +kernel) (Nat.le_of_ble_eq_true rfl) rfl ?_
  refine n_aload_n (n := 2) (by decide +kernel) rfl ?_
  refine n_aload_n (n := 0) (by decide +kernel) rfl ?_
  refine n_iload (n := 4) (by decide +kernel) rfl ?_
  refine n_iconst (n := 1) (v := 1) (by decide +kernel) rfl ?_
  refine n_iadd (by decide +kernel) ?_
  obtain ⟨v267, h267, hr⟩ := bso hr
  refine n_sld G h267 (by decide +kernel) ?_
  refine n_aload_n (n := 0) (by decide +kernel) rfl ?_
  refine n_iload (n := 4) (by decide +kernel) rfl ?_
  refine n_iconst (n := 2) (v := 2) (by decide +kernel) rfl ?_
  refine n_iadd (by decide +kernel) ?_
  obtain ⟨v268, h268, hr⟩ := bso hr
  refine n_sld G h268 (by decide +kernel) ?_
  refine n_aload_n (n := 0) (by decide +kernel) rfl ?_
  refine n_iload (n := 4) (by decide +kernel) rfl ?_
  refine n_iconst (n := 3) (v := 3) (by decide +kernel) rfl ?_
  refine n_iadd (by decide +kernel) ?_
  obtain ⟨v269, h269, hr⟩ := bso hr
  refine n_sld G h269 (by decide +kernel) ?_
  refine n_aload_n (n := 0) (by decide +kernel) rfl ?_
  refine n_iload (n := 4) (by decide +kernel) rfl ?_
  refine n_iconst (n := 4) (v := 4) (by decide +kernel) rfl ?_
  refine n_iadd (by decide +kernel) ?_
  obtain ⟨v270, h270, hr⟩ := bso hr
  refine n_sld G h270 (by decide +kernel) ?_
  obtain ⟨⟨v271, M271⟩, h271, hr⟩ := bso hr
  try dsimp only at hr
  refine n_callVi G [_, _, _, _] (x := v271) (M1 := M271) (B_X10_frost G hp2 h271) (by decide) mX10_frost ml_RL_190 hp2 (by decide +kernel) rfl rfl (Nat.le_of_ble_eq_true rfl) (by decide +kernel) ?_
  refine n_istore (n := 6) (lo2 := [_, _, _, _, _, _, _, _]) (by decide +kernel) (Nat.le_of_ble_eq_true rfl) rfl ?_
  refine n_aload_n (n := 2) (by decide +kernel) rfl ?_
  obtain ⟨v272, h272, hr⟩ := bso hr
  refine n_callVi G [] (x := v272) (B_X10_thrown G hp2 h272) (by decide) mX10_thrown ml_RL_112 hp2 (by decide +kernel) rfl rfl (Nat.le_of_ble_eq_true rfl) (by decide +kernel) ?_
  refine n_iload (n := 5) (by decide +kernel) rfl ?_
  refine n_icmp_eq (off := 5) (tgt := 1690) (by decide +kernel) (by decide) (fun hc273 => ?_) (fun hc273 => ?_)
  · rw [if_pos hc273] at hr
    refine n_iload (n := 5) (by decide +kernel) rfl ?_
    refine n_if_ne (off := 15) (tgt := 1707) (by decide +kernel) (by decide) (fun hc274 => ?_) (fun hc274 => ?_)
    · rw [if_neg hc274] at hr
      refine n_msk [true, true, true, true, true, false, false, false] (lo2 := [_, _, _, _, _, .null, .null, .null]) rfl rfl ?_
      exact B_L_law__j1707 G hp1 hp2 hp3 hr hk
    · rw [if_pos hc274] at hr
      refine n_aload_n (n := 3) (by decide +kernel) rfl ?_
      refine n_iconst (n := 0) (v := 0) (by decide +kernel) rfl ?_
      obtain ⟨v275, h275, hr⟩ := bso hr
      refine n_lald G h275 hp3 (by decide +kernel) (by decide +kernel) (by decide +kernel) ?_
      refine n_iload (n := 6) (by decide +kernel) rfl ?_
      refine n_i2l (by decide +kernel) ?_
      refine n_lcmp (by decide +kernel) ?_
      refine n_if_eq (off := 5) (tgt := 1707) (by decide +kernel) (by decide) (fun hc276 => ?_) (fun hc276 => ?_)
      · rw [if_pos hc276] at hr
        refine n_msk [true, true, true, true, true, false, false, false] (lo2 := [_, _, _, _, _, .null, .null, .null]) rfl rfl ?_
        exact B_L_law__j1707 G hp1 hp2 hp3 hr hk
      · rw [if_neg hc276] at hr
        cases hr
        obtain ⟨h9, h8⟩ := hk
        subst h9; subst h8
        refine n_iconst (n := 0) (v := 0) (by decide +kernel) rfl ?_
        exact n_ireturn (by decide +kernel)
  · rw [if_neg hc273] at hr
    cases hr
    obtain ⟨h9, h8⟩ := hk
    subst h9; subst h8
    refine n_iconst (n := 0) (v := 0) (by decide +kernel) rfl ?_
    exact n_ireturn (by decide +kernel)
set_option maxRecDepth 100000 in
theorem B_L_case_25 (G : GG l s0 b L xs D cy ad) {x4 : Int32} {M : Mm} {res : Rs} {M' : Mm} {r : ((Int32 × Mm) ⊕ (Mm ⊕ Mm))} (hp1 : P 0) (hp2 : P 76) (hp3 : P 275) (hr : f_L_case_25 xs L x4 M = some r) (hk : mtc (P_L_law__b23 l s0 D cy ad P  res M') (Q_L_law__b23 l s0 D cy ad P  res M') r) : Rn l s0 D cy ad P 77 KLAW 1710 [.ref 100000, .ref 0, .ref 76, .ref 275, .int x4, .null, .null, .null] [] M res M' := by
  unfold f_L_case_25 at hr
  refine n_aload_n (n := 1) (by decide +kernel) rfl ?_
  refine n_aload_n (n := 0) (by decide +kernel) rfl ?_
  refine n_iload (n := 4) (by decide +kernel) rfl ?_
  refine n_iconst (n := 1) (v := 1) (by decide +kernel) rfl ?_
  refine n_iadd (by decide +kernel) ?_
  obtain ⟨v278, h278, hr⟩ := bso hr
  refine n_sld G h278 (by decide +kernel) ?_
  refine n_aload_n (n := 0) (by decide +kernel) rfl ?_
  refine n_iload (n := 4) (by decide +kernel) rfl ?_
  refine n_iconst (n := 2) (v := 2) (by decide +kernel) rfl ?_
  refine n_iadd (by decide +kernel) ?_
  obtain ⟨v279, h279, hr⟩ := bso hr
  refine n_sld G h279 (by decide +kernel) ?_
  refine n_aload_n (n := 0) (by decide +kernel) rfl ?_
  refine n_iload (n := 4) (by decide +kernel) rfl ?_
  refine n_iconst (n := 3) (v := 3) (by decide +kernel) rfl ?_
  refine n_iadd (by decide +kernel) ?_
  obtain ⟨v280, h280, hr⟩ := bso hr
  refine n_sld G h280 (by decide +kernel) ?_
  refine n_aload_n (n := 0) (by decide +kernel) rfl ?_
  refine n_iload (n := 4) (by decide +kernel) rfl ?_
  refine n_iconst (n := 4) (v := 4) (by decide +kernel) rfl ?_
  refine n_iadd (by decide +kernel) ?_
  obtain ⟨v281, h281, hr⟩ := bso hr
  refine n_sld G h281 (by decide +kernel) ?_
  refine n_aload_n (n := 0) (by decide +kernel) rfl ?_
  refine n_iload (n := 4) (by decide +kernel) rfl ?_
  refine n_iconst (n := 5) (v := 5) (by decide +kernel) rfl ?_
  refine n_iadd (by decide +kernel) ?_
  obtain ⟨v282, h282, hr⟩ := bso hr
  refine n_sld G h282 (by decide +kernel) ?_
  refine n_aload_n (n := 0) (by decide +kernel) rfl ?_
  refine n_iload (n := 4) (by decide +kernel) rfl ?_
  refine n_bipush (n := 6) (v := 6) (by decide +kernel) rfl ?_
  refine n_iadd (by decide +kernel) ?_
  obtain ⟨v283, h283, hr⟩ := bso hr
  refine n_sld G h283 (by decide +kernel) ?_
  refine n_aload_n (n := 3) (by decide +kernel) rfl ?_
  obtain ⟨⟨v284, M284⟩, h284, hr⟩ := bso hr
  try dsimp only at hr
  refine n_callSWi G [_, _, _, _, _, _, _, _] (x := v284) (M1 := M284) (B_L_span G hp1 hp3 h284) (by decide) mL_span ml_RL_191 rfl rfl (Nat.le_of_ble_eq_true rfl) (by decide +kernel) ?_
  refine n_istore (n := 5) (lo2 := [_, _, _, _, _, _, _, _]) (by decide +kernel) (Nat.le_of_ble_eq_true rfl) rfl ?_
  refine n_aload_n (n := 2) (by decide +kernel) rfl ?_
  refine n_aload_n (n := 0) (by decide +kernel) rfl ?_
  refine n_iload (n := 4) (by decide +kernel) rfl ?_
  refine n_iconst (n := 1) (v := 1) (by decide +kernel) rfl ?_
  refine n_iadd (by decide +kernel) ?_
  obtain ⟨v285, h285, hr⟩ := bso hr
  refine n_sld G h285 (by decide +kernel) ?_
  refine n_aload_n (n := 0) (by decide +kernel) rfl ?_
  refine n_iload (n := 4) (by decide +kernel) rfl ?_
  refine n_iconst (n := 2) (v := 2) (by decide +kernel) rfl ?_
  refine n_iadd (by decide +kernel) ?_
  obtain ⟨v286, h286, hr⟩ := bso hr
  refine n_sld G h286 (by decide +kernel) ?_
  refine n_aload_n (n := 0) (by decide +kernel) rfl ?_
  refine n_iload (n := 4) (by decide +kernel) rfl ?_
  refine n_iconst (n := 3) (v := 3) (by decide +kernel) rfl ?_
  refine n_iadd (by decide +kernel) ?_
  obtain ⟨v287, h287, hr⟩ := bso hr
  refine n_sld G h287 (by decide +kernel) ?_
  refine n_aload_n (n := 0) (by decide +kernel) rfl ?_
  refine n_iload (n := 4) (by decide +kernel) rfl ?_
  refine n_iconst (n := 4) (v := 4) (by decide +kernel) rfl ?_
  refine n_iadd (by decide +kernel) ?_
  obtain ⟨v288, h288, hr⟩ := bso hr
  refine n_sld G h288 (by decide +kernel) ?_
  refine n_aload_n (n := 0) (by decide +kernel) rfl ?_
  refine n_iload (n := 4) (by decide +kernel) rfl ?_
  refine n_iconst (n := 5) (v := 5) (by decide +kernel) rfl ?_
  refine n_iadd (by decide +kernel) ?_
  obtain ⟨v289, h289, hr⟩ := bso hr
  refine n_sld G h289 (by decide +kernel) ?_
  refine n_aload_n (n := 0) (by decide +kernel) rfl ?_
  refine n_iload (n := 4) (by decide +kernel) rfl ?_
  refine n_bipush (n := 6) (v := 6) (by decide +kernel) rfl ?_
  refine n_iadd (by decide +kernel) ?_
  obtain ⟨v290, h290, hr⟩ := bso hr
  refine n_sld G h290 (by decide +kernel) ?_
  obtain ⟨⟨v291, M291⟩, h291, hr⟩ := bso hr
  try dsimp only at hr
  refine n_callVi G [_, _, _, _, _, _] (x := v291) (M1 := M291) (B_X10_span G hp2 h291) (by decide) mX10_span ml_RL_194 hp2 (by decide +kernel) rfl rfl (Nat.le_of_ble_eq_true rfl) (by decide +kernel) ?_
  refine n_istore (n := 6) (lo2 := [_, _, _, _, _, _, _, _]) (by decide +kernel) (Nat.le_of_ble_eq_true rfl) rfl ?_
  refine n_aload_n (n := 2) (by decide +kernel) rfl ?_
  obtain ⟨v292, h292, hr⟩ := bso hr
  refine n_callVi G [] (x := v292) (B_X10_thrown G hp2 h292) (by decide) mX10_thrown ml_RL_112 hp2 (by decide +kernel) rfl rfl (Nat.le_of_ble_eq_true rfl) (by decide +kernel) ?_
  refine n_iload (n := 5) (by decide +kernel) rfl ?_
  refine n_icmp_eq (off := 5) (tgt := 1808) (by decide +kernel) (by decide) (fun hc293 => ?_) (fun hc293 => ?_)
  · rw [if_pos hc293] at hr
    refine n_iload (n := 5) (by decide +kernel) rfl ?_
    refine n_if_ne (off := 15) (tgt := 1825) (by decide +kernel) (by decide) (fun hc294 => ?_) (fun hc294 => ?_)
    · rw [if_neg hc294] at hr
      refine n_msk [true, true, true, true, true, false, false, false] (lo2 := [_, _, _, _, _, .null, .null, .null]) rfl rfl ?_
      exact B_L_law__j1825 G hp1 hp2 hp3 hr hk
    · rw [if_pos hc294] at hr
      refine n_aload_n (n := 3) (by decide +kernel) rfl ?_
      refine n_iconst (n := 0) (v := 0) (by decide +kernel) rfl ?_
      obtain ⟨v295, h295, hr⟩ := bso hr
      refine n_lald G h295 hp3 (by decide +kernel) (by decide +kernel) (by decide +kernel) ?_
      refine n_iload (n := 6) (by decide +kernel) rfl ?_
      refine n_i2l (by decide +kernel) ?_
      refine n_lcmp (by decide +kernel) ?_
      refine n_if_eq (off := 5) (tgt := 1825) (by decide +kernel) (by decide) (fun hc296 => ?_) (fun hc296 => ?_)
      · rw [if_pos hc296] at hr
        refine n_msk [true, true, true, true, true, false, false, false] (lo2 := [_, _, _, _, _, .null, .null, .null]) rfl rfl ?_
        exact B_L_law__j1825 G hp1 hp2 hp3 hr hk
      · rw [if_neg hc296] at hr
        cases hr
        obtain ⟨h9, h8⟩ := hk
        subst h9; subst h8
        refine n_iconst (n := 0) (v := 0) (by decide +kernel) rfl ?_
        exact n_ireturn (by decide +kernel)
  · rw [if_neg hc293] at hr
    cases hr
    obtain ⟨h9, h8⟩ := hk
    subst h9; subst h8
    refine n_iconst (n := 0) (v := 0) (by decide +kernel) rfl ?_
    exact n_ireturn (by decide +kernel)
set_option maxRecDepth 100000 in
theorem B_L_case_26 (G : GG l s0 b L xs D cy ad) {x4 : Int32} {M : Mm} {res : Rs} {M' : Mm} {r : ((Int32 × Mm) ⊕ (Mm ⊕ Mm))} (hp1 : P 0) (hp2 : P 76) (hp3 : P 275) (hr : f_L_case_26 xs L x4 M = some r) (hk : mtc (P_L_law__b23 l s0 D cy ad P  res M') (Q_L_law__b23 l s0 D cy ad P  res M') r) : Rn l s0 D cy ad P 77 KLAW 1828 [.ref 100000, .ref 0, .ref 76, .ref 275, .int x4, .null, .null, .null] [] M res M' := by
  unfold f_L_case_26 at hr
  refine n_aload_n (n := 1) (by decide +kernel) rfl ?_
  refine n_aload_n (n := 0) (by decide +kernel) rfl ?_
  refine n_iload (n := 4) (by decide +kernel) rfl ?_
  refine n_iconst (n := 1) (v := 1) (by decide +kernel) rfl ?_
  refine n_iadd (by decide +kernel) ?_
  obtain ⟨v298, h298, hr⟩ := bso hr
  refine n_sld G h298 (by decide +kernel) ?_
  refine n_aload_n (n := 3) (by decide +kernel) rfl ?_
  obtain ⟨⟨v299, M299⟩, h299, hr⟩ := bso hr
  try dsimp only at hr
  refine n_callSWi G [_, _, _] (x := v299) (M1 := M299) (B_L_chosen G hp1 hp3 h299) (by decide) mL_chosen ml_RL_195 rfl rfl (Nat.le_of_ble_eq_true rfl) (by decide +kernel) ?_
  refine n_istore (n := 5) (lo2 := [_, _, _, _, _, _, _, _]) (by decide +kernel) (Nat.le_of_ble_eq_true rfl) rfl ?_
  refine n_aload_n (n := 2) (by decide +kernel) rfl ?_
  refine n_aload_n (n := 0) (by decide +kernel) rfl ?_
  refine n_iload (n := 4) (by decide +kernel) rfl ?_
  refine n_iconst (n := 1) (v := 1) (by decide +kernel) rfl ?_
  refine n_iadd (by decide +kernel) ?_
  obtain ⟨v300, h300, hr⟩ := bso hr
  refine n_sld G h300 (by decide +kernel) ?_
  obtain ⟨⟨v301, M301⟩, h301, hr⟩ := bso hr
  try dsimp only at hr
  refine n_callVi G [_] (x := v301) (M1 := M301) (B_X10_chosen G hp2 h301) (by decide) mX10_chosen ml_RL_197 hp2 (by decide +kernel) rfl rfl (Nat.le_of_ble_eq_true rfl) (by decide +kernel) ?_
  refine n_istore (n := 6) (lo2 := [_, _, _, _, _, _, _, _]) (by decide +kernel) (Nat.le_of_ble_eq_true rfl) rfl ?_
  refine n_aload_n (n := 2) (by decide +kernel) rfl ?_
  obtain ⟨v302, h302, hr⟩ := bso hr
  refine n_callVi G [] (x := v302) (B_X10_thrown G hp2 h302) (by decide) mX10_thrown ml_RL_112 hp2 (by decide +kernel) rfl rfl (Nat.le_of_ble_eq_true rfl) (by decide +kernel) ?_
  refine n_iload (n := 5) (by decide +kernel) rfl ?_
  refine n_icmp_eq (off := 5) (tgt := 1864) (by decide +kernel) (by decide) (fun hc303 => ?_) (fun hc303 => ?_)
  · rw [if_pos hc303] at hr
    refine n_iload (n := 5) (by decide +kernel) rfl ?_
    refine n_if_ne (off := 15) (tgt := 1881) (by decide +kernel) (by decide) (fun hc304 => ?_) (fun hc304 => ?_)
    · rw [if_neg hc304] at hr
      refine n_msk [true, true, true, true, true, false, false, false] (lo2 := [_, _, _, _, _, .null, .null, .null]) rfl rfl ?_
      exact B_L_law__j1881 G hp1 hp2 hp3 hr hk
    · rw [if_pos hc304] at hr
      refine n_aload_n (n := 3) (by decide +kernel) rfl ?_
      refine n_iconst (n := 0) (v := 0) (by decide +kernel) rfl ?_
      obtain ⟨v305, h305, hr⟩ := bso hr
      refine n_lald G h305 hp3 (by decide +kernel) (by decide +kernel) (by decide +kernel) ?_
      refine n_iload (n := 6) (by decide +kernel) rfl ?_
      refine n_i2l (by decide +kernel) ?_
      refine n_lcmp (by decide +kernel) ?_
      refine n_if_eq (off := 5) (tgt := 1881) (by decide +kernel) (by decide) (fun hc306 => ?_) (fun hc306 => ?_)
      · rw [if_pos hc306] at hr
        refine n_msk [true, true, true, true, true, false, false, false] (lo2 := [_, _, _, _, _, .null, .null, .null]) rfl rfl ?_
        exact B_L_law__j1881 G hp1 hp2 hp3 hr hk
      · rw [if_neg hc306] at hr
        cases hr
        obtain ⟨h9, h8⟩ := hk
        subst h9; subst h8
        refine n_iconst (n := 0) (v := 0) (by decide +kernel) rfl ?_
        exact n_ireturn (by decide +kernel)
  · rw [if_neg hc303] at hr
    cases hr
    obtain ⟨h9, h8⟩ := hk
    subst h9; subst h8
    refine n_iconst (n := 0) (v := 0) (by decide +kernel) rfl ?_
    exact n_ireturn (by decide +kernel)
set_option maxRecDepth 100000 in
theorem B_L_case_27 (G : GG l s0 b L xs D cy ad) {x4 : Int32} {M : Mm} {res : Rs} {M' : Mm} {r : ((Int32 × Mm) ⊕ (Mm ⊕ Mm))} (hp1 : P 0) (hp2 : P 76) (hp3 : P 275) (hr : f_L_case_27 xs L x4 M = some r) (hk : mtc (P_L_law__b23 l s0 D cy ad P  res M') (Q_L_law__b23 l s0 D cy ad P  res M') r) : Rn l s0 D cy ad P 77 KLAW 1884 [.ref 100000, .ref 0, .ref 76, .ref 275, .int x4, .null, .null, .null] [] M res M' := by
  unfold f_L_case_27 at hr
  refine n_aload_n (n := 1) (by decide +kernel) rfl ?_
  refine n_aload_n (n := 0) (by decide +kernel) rfl ?_
  refine n_iload (n := 4) (by decide +kernel) rfl ?_
  refine n_iconst (n := 1) (v := 1) (by decide +kernel) rfl ?_
  refine n_iadd (by decide +kernel) ?_
  obtain ⟨v308, h308, hr⟩ := bso hr
  refine n_sld G h308 (by decide +kernel) ?_
  refine n_aload_n (n := 0) (by decide +kernel) rfl ?_
  refine n_iload (n := 4) (by decide +kernel) rfl ?_
  refine n_iconst (n := 2) (v := 2) (by decide +kernel) rfl ?_
  refine n_iadd (by decide +kernel) ?_
  obtain ⟨v309, h309, hr⟩ := bso hr
  refine n_sld G h309 (by decide +kernel) ?_
  refine n_aload_n (n := 3) (by decide +kernel) rfl ?_
  obtain ⟨⟨v310, M310⟩, h310, hr⟩ := bso hr
  try dsimp only at hr
  refine n_callSWi G [_, _, _, _] (x := v310) (M1 := M310) (B_L_lifts G hp1 hp3 h310) (by decide) mL_lifts ml_RL_198 rfl rfl (Nat.le_of_ble_eq_true rfl) (by decide +kernel) ?_
  refine n_istore (n := 5) (lo2 := [_, _, _, _, _, _, _, _]) (by decide +kernel) (Nat.le_of_ble_eq_true rfl) rfl ?_
  refine n_aload_n (n := 2) (by decide +kernel) rfl ?_
  refine n_aload_n (n := 0) (by decide +kernel) rfl ?_
  refine n_iload (n := 4) (by decide +kernel) rfl ?_
  refine n_iconst (n := 1) (v := 1) (by decide +kernel) rfl ?_
  refine n_iadd (by decide +kernel) ?_
  obtain ⟨v311, h311, hr⟩ := bso hr
  refine n_sld G h311 (by decide +kernel) ?_
  refine n_aload_n (n := 0) (by decide +kernel) rfl ?_
  refine n_iload (n := 4) (by decide +kernel) rfl ?_
  refine n_iconst (n := 2) (v := 2) (by decide +kernel) rfl ?_
  refine n_iadd (by decide +kernel) ?_
  obtain ⟨v312, h312, hr⟩ := bso hr
  refine n_sld G h312 (by decide +kernel) ?_
  obtain ⟨⟨v313, M313⟩, h313, hr⟩ := bso hr
  try dsimp only at hr
  refine n_callVi G [_, _] (x := v313) (M1 := M313) (B_X10_lifts G hp2 h313) (by decide) mX10_lifts ml_RL_200 hp2 (by decide +kernel) rfl rfl (Nat.le_of_ble_eq_true rfl) (by decide +kernel) ?_
  refine n_istore (n := 6) (lo2 := [_, _, _, _, _, _, _, _]) (by decide +kernel) (Nat.le_of_ble_eq_true rfl) rfl ?_
  refine n_aload_n (n := 2) (by decide +kernel) rfl ?_
  obtain ⟨v314, h314, hr⟩ := bso hr
  refine n_callVi G [] (x := v314) (B_X10_thrown G hp2 h314) (by decide) mX10_thrown ml_RL_112 hp2 (by decide +kernel) rfl rfl (Nat.le_of_ble_eq_true rfl) (by decide +kernel) ?_
  refine n_iload (n := 5) (by decide +kernel) rfl ?_
  refine n_icmp_eq (off := 5) (tgt := 1932) (by decide +kernel) (by decide) (fun hc315 => ?_) (fun hc315 => ?_)
  · rw [if_pos hc315] at hr
    refine n_iload (n := 5) (by decide +kernel) rfl ?_
    refine n_if_ne (off := 15) (tgt := 1949) (by decide +kernel) (by decide) (fun hc316 => ?_) (fun hc316 => ?_)
    · rw [if_neg hc316] at hr
      refine n_msk [true, true, true, true, true, false, false, false] (lo2 := [_, _, _, _, _, .null, .null, .null]) rfl rfl ?_
      exact B_L_law__j1949 G hp1 hp2 hp3 hr hk
    · rw [if_pos hc316] at hr
      refine n_aload_n (n := 3) (by decide +kernel) rfl ?_
      refine n_iconst (n := 0) (v := 0) (by decide +kernel) rfl ?_
      obtain ⟨v317, h317, hr⟩ := bso hr
      refine n_lald G h317 hp3 (by decide +kernel) (by decide +kernel) (by decide +kernel) ?_
      refine n_iload (n := 6) (by decide +kernel) rfl ?_
      refine n_i2l (by decide +kernel) ?_
      refine n_lcmp (by decide +kernel) ?_
      refine n_if_eq (off := 5) (tgt := 1949) (by decide +kernel) (by decide) (fun hc318 => ?_) (fun hc318 => ?_)
      · rw [if_pos hc318] at hr
        refine n_msk [true, true, true, true, true, false, false, false] (lo2 := [_, _, _, _, _, .null, .null, .null]) rfl rfl ?_
        exact B_L_law__j1949 G hp1 hp2 hp3 hr hk
      · rw [if_neg hc318] at hr
        cases hr
        obtain ⟨h9, h8⟩ := hk
        subst h9; subst h8
        refine n_iconst (n := 0) (v := 0) (by decide +kernel) rfl ?_
        exact n_ireturn (by decide +kernel)
  · rw [if_neg hc315] at hr
    cases hr
    obtain ⟨h9, h8⟩ := hk
    subst h9; subst h8
    refine n_iconst (n := 0) (v := 0) (by decide +kernel) rfl ?_
    exact n_ireturn (by decide +kernel)
set_option maxRecDepth 100000 in
theorem B_L_case_28 (G : GG l s0 b L xs D cy ad) {x4 : Int32} {M : Mm} {res : Rs} {M' : Mm} {r : ((Int32 × Mm) ⊕ (Mm ⊕ Mm))} (hp1 : P 0) (hp2 : P 76) (hp3 : P 275) (hr : f_L_case_28 xs L x4 M = some r) (hk : mtc (P_L_law__b23 l s0 D cy ad P  res M') (Q_L_law__b23 l s0 D cy ad P  res M') r) : Rn l s0 D cy ad P 77 KLAW 1952 [.ref 100000, .ref 0, .ref 76, .ref 275, .int x4, .null, .null, .null] [] M res M' := by
  unfold f_L_case_28 at hr
  refine n_aload_n (n := 1) (by decide +kernel) rfl ?_
  refine n_aload_n (n := 0) (by decide +kernel) rfl ?_
  refine n_iload (n := 4) (by decide +kernel) rfl ?_
  refine n_iconst (n := 1) (v := 1) (by decide +kernel) rfl ?_
  refine n_iadd (by decide +kernel) ?_
  obtain ⟨v320, h320, hr⟩ := bso hr
  refine n_sld G h320 (by decide +kernel) ?_
  refine n_aload_n (n := 0) (by decide +kernel) rfl ?_
  refine n_iload (n := 4) (by decide +kernel) rfl ?_
  refine n_iconst (n := 2) (v := 2) (by decide +kernel) rfl ?_
  refine n_iadd (by decide +kernel) ?_
  obtain ⟨v321, h321, hr⟩ := bso hr
  refine n_sld G h321 (by decide +kernel) ?_
  refine n_aload_n (n := 3) (by decide +kernel) rfl ?_
  obtain ⟨⟨v322, M322⟩, h322, hr⟩ := bso hr
  try dsimp only at hr
  refine n_callSWi G [_, _, _, _] (x := v322) (M1 := M322) (B_L_loads G hp1 hp3 h322) (by decide) mL_loads ml_RL_201 rfl rfl (Nat.le_of_ble_eq_true rfl) (by decide +kernel) ?_
  refine n_istore (n := 5) (lo2 := [_, _, _, _, _, _, _, _]) (by decide +kernel) (Nat.le_of_ble_eq_true rfl) rfl ?_
  refine n_aload_n (n := 2) (by decide +kernel) rfl ?_
  refine n_aload_n (n := 0) (by decide +kernel) rfl ?_
  refine n_iload (n := 4) (by decide +kernel) rfl ?_
  refine n_iconst (n := 1) (v := 1) (by decide +kernel) rfl ?_
  refine n_iadd (by decide +kernel) ?_
  obtain ⟨v323, h323, hr⟩ := bso hr
  refine n_sld G h323 (by decide +kernel) ?_
  refine n_aload_n (n := 0) (by decide +kernel) rfl ?_
  refine n_iload (n := 4) (by decide +kernel) rfl ?_
  refine n_iconst (n := 2) (v := 2) (by decide +kernel) rfl ?_
  refine n_iadd (by decide +kernel) ?_
  obtain ⟨v324, h324, hr⟩ := bso hr
  refine n_sld G h324 (by decide +kernel) ?_
  obtain ⟨⟨v325, M325⟩, h325, hr⟩ := bso hr
  try dsimp only at hr
  refine n_callVl G [_, _] (x := v325) (M1 := M325) (B_X10_loads G hp2 h325) (by decide) mX10_loads ml_RL_203 hp2 (by decide +kernel) rfl rfl (Nat.le_of_ble_eq_true rfl) (by decide +kernel) ?_
  refine n_lstore (n := 6) (lo2 := [_, _, _, _, _, _, _, _]) (by decide +kernel) (Nat.le_of_ble_eq_true rfl) rfl ?_
  refine n_aload_n (n := 2) (by decide +kernel) rfl ?_
  obtain ⟨v326, h326, hr⟩ := bso hr
  refine n_callVi G [] (x := v326) (B_X10_thrown G hp2 h326) (by decide) mX10_thrown ml_RL_112 hp2 (by decide +kernel) rfl rfl (Nat.le_of_ble_eq_true rfl) (by decide +kernel) ?_
  refine n_iload (n := 5) (by decide +kernel) rfl ?_
  refine n_icmp_eq (off := 5) (tgt := 2000) (by decide +kernel) (by decide) (fun hc327 => ?_) (fun hc327 => ?_)
  · rw [if_pos hc327] at hr
    refine n_iload (n := 5) (by decide +kernel) rfl ?_
    refine n_if_ne (off := 14) (tgt := 2016) (by decide +kernel) (by decide) (fun hc328 => ?_) (fun hc328 => ?_)
    · rw [if_neg hc328] at hr
      refine n_msk [true, true, true, true, true, false, false, false] (lo2 := [_, _, _, _, _, .null, .null, .null]) rfl rfl ?_
      exact B_L_law__j2016 G hp1 hp2 hp3 hr hk
    · rw [if_pos hc328] at hr
      refine n_aload_n (n := 3) (by decide +kernel) rfl ?_
      refine n_iconst (n := 0) (v := 0) (by decide +kernel) rfl ?_
      obtain ⟨v329, h329, hr⟩ := bso hr
      refine n_lald G h329 hp3 (by decide +kernel) (by decide +kernel) (by decide +kernel) ?_
      refine n_lload (n := 6) (by decide +kernel) rfl ?_
      refine n_lcmp (by decide +kernel) ?_
      refine n_if_eq (off := 5) (tgt := 2016) (by decide +kernel) (by decide) (fun hc330 => ?_) (fun hc330 => ?_)
      · rw [if_pos hc330] at hr
        refine n_msk [true, true, true, true, true, false, false, false] (lo2 := [_, _, _, _, _, .null, .null, .null]) rfl rfl ?_
        exact B_L_law__j2016 G hp1 hp2 hp3 hr hk
      · rw [if_neg hc330] at hr
        cases hr
        obtain ⟨h9, h8⟩ := hk
        subst h9; subst h8
        refine n_iconst (n := 0) (v := 0) (by decide +kernel) rfl ?_
        exact n_ireturn (by decide +kernel)
  · rw [if_neg hc327] at hr
    cases hr
    obtain ⟨h9, h8⟩ := hk
    subst h9; subst h8
    refine n_iconst (n := 0) (v := 0) (by decide +kernel) rfl ?_
    exact n_ireturn (by decide +kernel)
set_option maxRecDepth 100000 in
theorem B_L_case_29 (G : GG l s0 b L xs D cy ad) {x4 : Int32} {M : Mm} {res : Rs} {M' : Mm} {r : ((Int32 × Mm) ⊕ (Mm ⊕ Mm))} (hp1 : P 0) (hp2 : P 76) (hp3 : P 275) (hr : f_L_case_29 xs L x4 M = some r) (hk : mtc (P_L_law__b23 l s0 D cy ad P  res M') (Q_L_law__b23 l s0 D cy ad P  res M') r) : Rn l s0 D cy ad P 77 KLAW 2019 [.ref 100000, .ref 0, .ref 76, .ref 275, .int x4, .null, .null, .null] [] M res M' := by
  unfold f_L_case_29 at hr
  refine n_aload_n (n := 1) (by decide +kernel) rfl ?_
  obtain ⟨v332, h332, hr⟩ := bso hr
  refine n_callVi G [] (x := v332) (B_X9_stoniest G hp1 h332) (by decide) mX9_stoniest ml_RL_204 hp1 (by decide +kernel) rfl rfl (Nat.le_of_ble_eq_true rfl) (by decide +kernel) ?_
  refine n_aload_n (n := 2) (by decide +kernel) rfl ?_
  obtain ⟨⟨v333, M333⟩, h333, hr⟩ := bso hr
  try dsimp only at hr
  refine n_callVi G [] (x := v333) (M1 := M333) (B_X10_stoniest G hp2 h333) (by decide) mX10_stoniest ml_RL_207 hp2 (by decide +kernel) rfl rfl (Nat.le_of_ble_eq_true rfl) (by decide +kernel) ?_
  refine n_icmp_eq (off := 94) (tgt := 2121) (by decide +kernel) (by decide) (fun hc334 => ?_) (fun hc334 => ?_)
  · rw [if_pos hc334] at hr
    refine n_iincK (n := 4) (j := 7) (w := 7) (lo2 := [_, _, _, _, _, _, _, _]) (by decide +kernel) rfl rfl rfl ?_
    refine n_goto (off := -2101) (tgt := 23) (by decide +kernel) (by decide) ?_
    cases hr
    exact hk
  · rw [if_neg hc334] at hr
    cases hr
    obtain ⟨h9, h8⟩ := hk
    subst h9; subst h8
    refine n_iconst (n := 0) (v := 0) (by decide +kernel) rfl ?_
    exact n_ireturn (by decide +kernel)
set_option maxRecDepth 100000 in
theorem B_L_case_30 (G : GG l s0 b L xs D cy ad) {x4 : Int32} {M : Mm} {res : Rs} {M' : Mm} {r : ((Int32 × Mm) ⊕ (Mm ⊕ Mm))} (hp1 : P 0) (hp2 : P 76) (hp3 : P 275) (hr : f_L_case_30 xs L x4 M = some r) (hk : mtc (P_L_law__b23 l s0 D cy ad P  res M') (Q_L_law__b23 l s0 D cy ad P  res M') r) : Rn l s0 D cy ad P 77 KLAW 2032 [.ref 100000, .ref 0, .ref 76, .ref 275, .int x4, .null, .null, .null] [] M res M' := by
  unfold f_L_case_30 at hr
  refine n_aload_n (n := 1) (by decide +kernel) rfl ?_
  obtain ⟨v336, h336, hr⟩ := bso hr
  refine n_callVi G [] (x := v336) (B_X9_clean G hp1 h336) (by decide) mX9_clean ml_RL_208 hp1 (by decide +kernel) rfl rfl (Nat.le_of_ble_eq_true rfl) (by decide +kernel) ?_
  refine n_aload_n (n := 2) (by decide +kernel) rfl ?_
  obtain ⟨⟨v337, M337⟩, h337, hr⟩ := bso hr
  try dsimp only at hr
  refine n_callVi G [] (x := v337) (M1 := M337) (B_X10_clean G hp2 h337) (by decide) mX10_clean ml_RL_211 hp2 (by decide +kernel) rfl rfl (Nat.le_of_ble_eq_true rfl) (by decide +kernel) ?_
  refine n_icmp_eq (off := 81) (tgt := 2121) (by decide +kernel) (by decide) (fun hc338 => ?_) (fun hc338 => ?_)
  · rw [if_pos hc338] at hr
    refine n_iincK (n := 4) (j := 7) (w := 7) (lo2 := [_, _, _, _, _, _, _, _]) (by decide +kernel) rfl rfl rfl ?_
    refine n_goto (off := -2101) (tgt := 23) (by decide +kernel) (by decide) ?_
    cases hr
    exact hk
  · rw [if_neg hc338] at hr
    cases hr
    obtain ⟨h9, h8⟩ := hk
    subst h9; subst h8
    refine n_iconst (n := 0) (v := 0) (by decide +kernel) rfl ?_
    exact n_ireturn (by decide +kernel)
set_option maxRecDepth 100000 in
theorem B_L_case_31 (G : GG l s0 b L xs D cy ad) {x4 : Int32} {M : Mm} {res : Rs} {M' : Mm} {r : ((Int32 × Mm) ⊕ (Mm ⊕ Mm))} (hp1 : P 0) (hp2 : P 76) (hp3 : P 275) (hr : f_L_case_31 xs L x4 M = some r) (hk : mtc (P_L_law__b23 l s0 D cy ad P  res M') (Q_L_law__b23 l s0 D cy ad P  res M') r) : Rn l s0 D cy ad P 77 KLAW 2045 [.ref 100000, .ref 0, .ref 76, .ref 275, .int x4, .null, .null, .null] [] M res M' := by
  unfold f_L_case_31 at hr
  refine n_aload_n (n := 1) (by decide +kernel) rfl ?_
  obtain ⟨⟨v340, M340⟩, h340, hr⟩ := bso hr
  try dsimp only at hr
  refine n_callVi G [] (x := v340) (M1 := M340) (B_X9_image G hp1 h340) (by decide) mX9_image ml_RL_212 hp1 (by decide +kernel) rfl rfl (Nat.le_of_ble_eq_true rfl) (by decide +kernel) ?_
  refine n_aload_n (n := 2) (by decide +kernel) rfl ?_
  obtain ⟨⟨v341, M341⟩, h341, hr⟩ := bso hr
  try dsimp only at hr
  refine n_callVi G [] (x := v341) (M1 := M341) (B_X10_image G hp2 h341) (by decide) mX10_image ml_RL_215 hp2 (by decide +kernel) rfl rfl (Nat.le_of_ble_eq_true rfl) (by decide +kernel) ?_
  refine n_icmp_eq (off := 68) (tgt := 2121) (by decide +kernel) (by decide) (fun hc342 => ?_) (fun hc342 => ?_)
  · rw [if_pos hc342] at hr
    refine n_iincK (n := 4) (j := 7) (w := 7) (lo2 := [_, _, _, _, _, _, _, _]) (by decide +kernel) rfl rfl rfl ?_
    refine n_goto (off := -2101) (tgt := 23) (by decide +kernel) (by decide) ?_
    cases hr
    exact hk
  · rw [if_neg hc342] at hr
    cases hr
    obtain ⟨h9, h8⟩ := hk
    subst h9; subst h8
    refine n_iconst (n := 0) (v := 0) (by decide +kernel) rfl ?_
    exact n_ireturn (by decide +kernel)
set_option maxRecDepth 100000 in
theorem B_L_case_32 (G : GG l s0 b L xs D cy ad) {x4 : Int32} {M : Mm} {res : Rs} {M' : Mm} {r : ((Int32 × Mm) ⊕ (Mm ⊕ Mm))} (hp1 : P 0) (hp2 : P 76) (hp3 : P 275) (hr : f_L_case_32 xs L x4 M = some r) (hk : mtc (P_L_law__b23 l s0 D cy ad P  res M') (Q_L_law__b23 l s0 D cy ad P  res M') r) : Rn l s0 D cy ad P 77 KLAW 2058 [.ref 100000, .ref 0, .ref 76, .ref 275, .int x4, .null, .null, .null] [] M res M' := by
  unfold f_L_case_32 at hr
  refine n_aload_n (n := 1) (by decide +kernel) rfl ?_
  obtain ⟨⟨v344, M344⟩, h344, hr⟩ := bso hr
  try dsimp only at hr
  refine n_callVi G [] (x := v344) (M1 := M344) (B_X9_restore G hp1 h344) (by decide) mX9_restore ml_RL_216 hp1 (by decide +kernel) rfl rfl (Nat.le_of_ble_eq_true rfl) (by decide +kernel) ?_
  refine n_aload_n (n := 2) (by decide +kernel) rfl ?_
  obtain ⟨⟨v345, M345⟩, h345, hr⟩ := bso hr
  try dsimp only at hr
  refine n_callVi G [] (x := v345) (M1 := M345) (B_X10_restore G hp2 h345) (by decide) mX10_restore ml_RL_219 hp2 (by decide +kernel) rfl rfl (Nat.le_of_ble_eq_true rfl) (by decide +kernel) ?_
  refine n_icmp_eq (off := 55) (tgt := 2121) (by decide +kernel) (by decide) (fun hc346 => ?_) (fun hc346 => ?_)
  · rw [if_pos hc346] at hr
    refine n_iincK (n := 4) (j := 7) (w := 7) (lo2 := [_, _, _, _, _, _, _, _]) (by decide +kernel) rfl rfl rfl ?_
    refine n_goto (off := -2101) (tgt := 23) (by decide +kernel) (by decide) ?_
    cases hr
    exact hk
  · rw [if_neg hc346] at hr
    cases hr
    obtain ⟨h9, h8⟩ := hk
    subst h9; subst h8
    refine n_iconst (n := 0) (v := 0) (by decide +kernel) rfl ?_
    exact n_ireturn (by decide +kernel)
set_option maxRecDepth 100000 in
theorem B_L_case_33 (G : GG l s0 b L xs D cy ad) {x4 : Int32} {M : Mm} {res : Rs} {M' : Mm} {r : ((Int32 × Mm) ⊕ (Mm ⊕ Mm))} (hp1 : P 0) (hp2 : P 76) (hp3 : P 275) (hr : f_L_case_33 xs L x4 M = some r) (hk : mtc (P_L_law__b23 l s0 D cy ad P  res M') (Q_L_law__b23 l s0 D cy ad P  res M') r) : Rn l s0 D cy ad P 77 KLAW 2071 [.ref 100000, .ref 0, .ref 76, .ref 275, .int x4, .null, .null, .null] [] M res M' := by
  unfold f_L_case_33 at hr
  refine n_aload_n (n := 1) (by decide +kernel) rfl ?_
  refine n_aload_n (n := 0) (by decide +kernel) rfl ?_
  refine n_iload (n := 4) (by decide +kernel) rfl ?_
  refine n_iconst (n := 1) (v := 1) (by decide +kernel) rfl ?_
  refine n_iadd (by decide +kernel) ?_
  obtain ⟨v348, h348, hr⟩ := bso hr
  refine n_sld G h348 (by decide +kernel) ?_
  obtain ⟨v349, h349, hr⟩ := bso hr
  refine n_callVi G [_] (x := v349) (B_X9_status G hp1 h349) (by decide) mX9_status ml_RL_220 hp1 (by decide +kernel) rfl rfl (Nat.le_of_ble_eq_true rfl) (by decide +kernel) ?_
  refine n_aload_n (n := 2) (by decide +kernel) rfl ?_
  refine n_aload_n (n := 0) (by decide +kernel) rfl ?_
  refine n_iload (n := 4) (by decide +kernel) rfl ?_
  refine n_iconst (n := 1) (v := 1) (by decide +kernel) rfl ?_
  refine n_iadd (by decide +kernel) ?_
  obtain ⟨v350, h350, hr⟩ := bso hr
  refine n_sld G h350 (by decide +kernel) ?_
  obtain ⟨⟨v351, M351⟩, h351, hr⟩ := bso hr
  try dsimp only at hr
  refine n_callVi G [_] (x := v351) (M1 := M351) (B_X10_status G hp2 h351) (by decide) mX10_status ml_RL_223 hp2 (by decide +kernel) rfl rfl (Nat.le_of_ble_eq_true rfl) (by decide +kernel) ?_
  refine n_icmp_eq (off := 30) (tgt := 2121) (by decide +kernel) (by decide) (fun hc352 => ?_) (fun hc352 => ?_)
  · rw [if_pos hc352] at hr
    refine n_iincK (n := 4) (j := 7) (w := 7) (lo2 := [_, _, _, _, _, _, _, _]) (by decide +kernel) rfl rfl rfl ?_
    refine n_goto (off := -2101) (tgt := 23) (by decide +kernel) (by decide) ?_
    cases hr
    exact hk
  · rw [if_neg hc352] at hr
    cases hr
    obtain ⟨h9, h8⟩ := hk
    subst h9; subst h8
    refine n_iconst (n := 0) (v := 0) (by decide +kernel) rfl ?_
    exact n_ireturn (by decide +kernel)
set_option maxRecDepth 100000 in
theorem B_L_case_34 (G : GG l s0 b L xs D cy ad) {x4 : Int32} {M : Mm} {res : Rs} {M' : Mm} {r : ((Int32 × Mm) ⊕ (Mm ⊕ Mm))} (hp1 : P 0) (hp2 : P 76) (hp3 : P 275) (hr : f_L_case_34 xs L x4 M = some r) (hk : mtc (P_L_law__b23 l s0 D cy ad P  res M') (Q_L_law__b23 l s0 D cy ad P  res M') r) : Rn l s0 D cy ad P 77 KLAW 2096 [.ref 100000, .ref 0, .ref 76, .ref 275, .int x4, .null, .null, .null] [] M res M' := by
  unfold f_L_case_34 at hr
  refine n_aload_n (n := 1) (by decide +kernel) rfl ?_
  refine n_aload_n (n := 0) (by decide +kernel) rfl ?_
  refine n_iload (n := 4) (by decide +kernel) rfl ?_
  refine n_iconst (n := 1) (v := 1) (by decide +kernel) rfl ?_
  refine n_iadd (by decide +kernel) ?_
  obtain ⟨v354, h354, hr⟩ := bso hr
  refine n_sld G h354 (by decide +kernel) ?_
  obtain ⟨v355, h355, hr⟩ := bso hr
  refine n_callVi G [_] (x := v355) (B_X9_count G hp1 h355) (by decide) mX9_count ml_RL_224 hp1 (by decide +kernel) rfl rfl (Nat.le_of_ble_eq_true rfl) (by decide +kernel) ?_
  refine n_aload_n (n := 2) (by decide +kernel) rfl ?_
  refine n_aload_n (n := 0) (by decide +kernel) rfl ?_
  refine n_iload (n := 4) (by decide +kernel) rfl ?_
  refine n_iconst (n := 1) (v := 1) (by decide +kernel) rfl ?_
  refine n_iadd (by decide +kernel) ?_
  obtain ⟨v356, h356, hr⟩ := bso hr
  refine n_sld G h356 (by decide +kernel) ?_
  obtain ⟨⟨v357, M357⟩, h357, hr⟩ := bso hr
  try dsimp only at hr
  refine n_callVi G [_] (x := v357) (M1 := M357) (B_X10_count G hp2 h357) (by decide) mX10_count ml_RL_227 hp2 (by decide +kernel) rfl rfl (Nat.le_of_ble_eq_true rfl) (by decide +kernel) ?_
  refine n_icmp_eq (off := 5) (tgt := 2121) (by decide +kernel) (by decide) (fun hc358 => ?_) (fun hc358 => ?_)
  · rw [if_pos hc358] at hr
    refine n_iincK (n := 4) (j := 7) (w := 7) (lo2 := [_, _, _, _, _, _, _, _]) (by decide +kernel) rfl rfl rfl ?_
    refine n_goto (off := -2101) (tgt := 23) (by decide +kernel) (by decide) ?_
    cases hr
    exact hk
  · rw [if_neg hc358] at hr
    cases hr
    obtain ⟨h9, h8⟩ := hk
    subst h9; subst h8
    refine n_iconst (n := 0) (v := 0) (by decide +kernel) rfl ?_
    exact n_ireturn (by decide +kernel)
set_option maxRecDepth 100000 in
theorem B_L_law__b23 (G : GG l s0 b L xs D cy ad)   {res : Rs} {M' : Mm} (hp1 : P 0) (hp2 : P 76) (hp3 : P 275) : ∀ (s : (Int32 × Mm)) (r : (Int32 × Mm) ⊕ (Mm ⊕ Mm)), f_L_law__b23 xs L s = some r → mtc (P_L_law__b23 l s0 D cy ad P  res M') (Q_L_law__b23 l s0 D cy ad P  res M') r → P_L_law__b23 l s0 D cy ad P  res M' s := by
  intro s r hr hk
  obtain ⟨x4, M⟩ := s
  unfold f_L_law__b23 at hr
  try dsimp only at hr
  dsimp only [P_L_law__b23]
  refine n_iload (n := 4) (by decide +kernel) rfl ?_
  refine n_aload_n (n := 0) (by decide +kernel) rfl ?_
  refine n_slen G rfl (by decide +kernel) ?_
  refine n_bipush (n := 7) (v := 7) (by decide +kernel) rfl ?_
  refine n_isub (by decide +kernel) ?_
  refine n_icmp_gt (off := 2097) (tgt := 2127) (by decide +kernel) (by decide) (fun hc1 => ?_) (fun hc1 => ?_)
  · rw [if_pos hc1] at hr
    cases hr
    refine n_msk [false, false, false, false, false, false, false, false] (lo2 := [.null, .null, .null, .null, .null, .null, .null, .null]) rfl rfl ?_
    exact hk
  · rw [if_neg hc1] at hr
    refine n_aload_n (n := 0) (by decide +kernel) rfl ?_
    refine n_iload (n := 4) (by decide +kernel) rfl ?_
    obtain ⟨v2, h2, hr⟩ := bso hr
    refine n_sld G h2 (by decide +kernel) ?_
    refine n_bipush (n := 63) (v := 63) (by decide +kernel) rfl ?_
    refine n_iand (by decide +kernel) ?_
    by_cases hc3 : (v2 &&& (63 : Int32)) = 0
    · rw [if_pos hc3] at hr
      refine n_tabIn (dflt := 2081) (lw := 0) (hi := 34) (offs := #[156, 229, 285, 353, 409, 465, 478, 491, 547, 615, 695, 751, 807, 887, 955, 1011, 1079, 1134, 1202, 1270, 1337, 1429, 1497, 1565, 1578, 1670, 1788, 1844, 1912, 1979, 1992, 2005, 2018, 2031, 2056]) (len := 156) (off := 156) (tgt := 196) (by decide +kernel) (by rw [hc3]; decide) (by rw [hc3]; decide) (by rw [hc3]; decide) (by decide) ?_
      exact B_L_case_0 G hp1 hp2 hp3 hr hk
    rw [if_neg hc3] at hr
    by_cases hc17 : (v2 &&& (63 : Int32)) = 1
    · rw [if_pos hc17] at hr
      refine n_tabIn (dflt := 2081) (lw := 0) (hi := 34) (offs := #[156, 229, 285, 353, 409, 465, 478, 491, 547, 615, 695, 751, 807, 887, 955, 1011, 1079, 1134, 1202, 1270, 1337, 1429, 1497, 1565, 1578, 1670, 1788, 1844, 1912, 1979, 1992, 2005, 2018, 2031, 2056]) (len := 156) (off := 229) (tgt := 269) (by decide +kernel) (by rw [hc17]; decide) (by rw [hc17]; decide) (by rw [hc17]; decide) (by decide) ?_
      exact B_L_case_1 G hp1 hp2 hp3 hr hk
    rw [if_neg hc17] at hr
    by_cases hc27 : (v2 &&& (63 : Int32)) = 2
    · rw [if_pos hc27] at hr
      refine n_tabIn (dflt := 2081) (lw := 0) (hi := 34) (offs := #[156, 229, 285, 353, 409, 465, 478, 491, 547, 615, 695, 751, 807, 887, 955, 1011, 1079, 1134, 1202, 1270, 1337, 1429, 1497, 1565, 1578, 1670, 1788, 1844, 1912, 1979, 1992, 2005, 2018, 2031, 2056]) (len := 156) (off := 285) (tgt := 325) (by decide +kernel) (by rw [hc27]; decide) (by rw [hc27]; decide) (by rw [hc27]; decide) (by decide) ?_
      exact B_L_case_2 G hp1 hp2 hp3 hr hk
    rw [if_neg hc27] at hr
    by_cases hc39 : (v2 &&& (63 : Int32)) = 3
    · rw [if_pos hc39] at hr
      refine n_tabIn (dflt := 2081) (lw := 0) (hi := 34) (offs := #[156, 229, 285, 353, 409, 465, 478, 491, 547, 615, 695, 751, 807, 887, 955, 1011, 1079, 1134, 1202, 1270, 1337, 1429, 1497, 1565, 1578, 1670, 1788, 1844, 1912, 1979, 1992, 2005, 2018, 2031, 2056]) (len := 156) (off := 353) (tgt := 393) (by decide +kernel) (by rw [hc39]; decide) (by rw [hc39]; decide) (by rw [hc39]; decide) (by decide) ?_
      exact B_L_case_3 G hp1 hp2 hp3 hr hk
    rw [if_neg hc39] at hr
    by_cases hc49 : (v2 &&& (63 : Int32)) = 4
    · rw [if_pos hc49] at hr
      refine n_tabIn (dflt := 2081) (lw := 0) (hi := 34) (offs := #[156, 229, 285, 353, 409, 465, 478, 491, 547, 615, 695, 751, 807, 887, 955, 1011, 1079, 1134, 1202, 1270, 1337, 1429, 1497, 1565, 1578, 1670, 1788, 1844, 1912, 1979, 1992, 2005, 2018, 2031, 2056]) (len := 156) (off := 409) (tgt := 449) (by decide +kernel) (by rw [hc49]; decide) (by rw [hc49]; decide) (by rw [hc49]; decide) (by decide) ?_
      exact B_L_case_4 G hp1 hp2 hp3 hr hk
    rw [if_neg hc49] at hr
    by_cases hc59 : (v2 &&& (63 : Int32)) = 5
    · rw [if_pos hc59] at hr
      refine n_tabIn (dflt := 2081) (lw := 0) (hi := 34) (offs := #[156, 229, 285, 353, 409, 465, 478, 491, 547, 615, 695, 751, 807, 887, 955, 1011, 1079, 1134, 1202, 1270, 1337, 1429, 1497, 1565, 1578, 1670, 1788, 1844, 1912, 1979, 1992, 2005, 2018, 2031, 2056]) (len := 156) (off := 465) (tgt := 505) (by decide +kernel) (by rw [hc59]; decide) (by rw [hc59]; decide) (by rw [hc59]; decide) (by decide) ?_
      exact B_L_case_5 G hp1 hp2 hp3 hr hk
    rw [if_neg hc59] at hr
    by_cases hc63 : (v2 &&& (63 : Int32)) = 6
    · rw [if_pos hc63] at hr
      refine n_tabIn (dflt := 2081) (lw := 0) (hi := 34) (offs := #[156, 229, 285, 353, 409, 465, 478, 491, 547, 615, 695, 751, 807, 887, 955, 1011, 1079, 1134, 1202, 1270, 1337, 1429, 1497, 1565, 1578, 1670, 1788, 1844, 1912, 1979, 1992, 2005, 2018, 2031, 2056]) (len := 156) (off := 478) (tgt := 518) (by decide +kernel) (by rw [hc63]; decide) (by rw [hc63]; decide) (by rw [hc63]; decide) (by decide) ?_
      exact B_L_case_6 G hp1 hp2 hp3 hr hk
    rw [if_neg hc63] at hr
    by_cases hc67 : (v2 &&& (63 : Int32)) = 7
    · rw [if_pos hc67] at hr
      refine n_tabIn (dflt := 2081) (lw := 0) (hi := 34) (offs := #[156, 229, 285, 353, 409, 465, 478, 491, 547, 615, 695, 751, 807, 887, 955, 1011, 1079, 1134, 1202, 1270, 1337, 1429, 1497, 1565, 1578, 1670, 1788, 1844, 1912, 1979, 1992, 2005, 2018, 2031, 2056]) (len := 156) (off := 491) (tgt := 531) (by decide +kernel) (by rw [hc67]; decide) (by rw [hc67]; decide) (by rw [hc67]; decide) (by decide) ?_
      exact B_L_case_7 G hp1 hp2 hp3 hr hk
    rw [if_neg hc67] at hr
    by_cases hc77 : (v2 &&& (63 : Int32)) = 8
    · rw [if_pos hc77] at hr
      refine n_tabIn (dflt := 2081) (lw := 0) (hi := 34) (offs := #[156, 229, 285, 353, 409, 465, 478, 491, 547, 615, 695, 751, 807, 887, 955, 1011, 1079, 1134, 1202, 1270, 1337, 1429, 1497, 1565, 1578, 1670, 1788, 1844, 1912, 1979, 1992, 2005, 2018, 2031, 2056]) (len := 156) (off := 547) (tgt := 587) (by decide +kernel) (by rw [hc77]; decide) (by rw [hc77]; decide) (by rw [hc77]; decide) (by decide) ?_
      exact B_L_case_8 G hp1 hp2 hp3 hr hk
    rw [if_neg hc77] at hr
    by_cases hc89 : (v2 &&& (63 : Int32)) = 9
    · rw [if_pos hc89] at hr
      refine n_tabIn (dflt := 2081) (lw := 0) (hi := 34) (offs := #[156, 229, 285, 353, 409, 465, 478, 491, 547, 615, 695, 751, 807, 887, 955, 1011, 1079, 1134, 1202, 1270, 1337, 1429, 1497, 1565, 1578, 1670, 1788, 1844, 1912, 1979, 1992, 2005, 2018, 2031, 2056]) (len := 156) (off := 615) (tgt := 655) (by decide +kernel) (by rw [hc89]; decide) (by rw [hc89]; decide) (by rw [hc89]; decide) (by decide) ?_
      exact B_L_case_9 G hp1 hp2 hp3 hr hk
    rw [if_neg hc89] at hr
    by_cases hc103 : (v2 &&& (63 : Int32)) = 10
    · rw [if_pos hc103] at hr
      refine n_tabIn (dflt := 2081) (lw := 0) (hi := 34) (offs := #[156, 229, 285, 353, 409, 465, 478, 491, 547, 615, 695, 751, 807, 887, 955, 1011, 1079, 1134, 1202, 1270, 1337, 1429, 1497, 1565, 1578, 1670, 1788, 1844, 1912, 1979, 1992, 2005, 2018, 2031, 2056]) (len := 156) (off := 695) (tgt := 735) (by decide +kernel) (by rw [hc103]; decide) (by rw [hc103]; decide) (by rw [hc103]; decide) (by decide) ?_
      exact B_L_case_10 G hp1 hp2 hp3 hr hk
    rw [if_neg hc103] at hr
    by_cases hc113 : (v2 &&& (63 : Int32)) = 11
    · rw [if_pos hc113] at hr
      refine n_tabIn (dflt := 2081) (lw := 0) (hi := 34) (offs := #[156, 229, 285, 353, 409, 465, 478, 491, 547, 615, 695, 751, 807, 887, 955, 1011, 1079, 1134, 1202, 1270, 1337, 1429, 1497, 1565, 1578, 1670, 1788, 1844, 1912, 1979, 1992, 2005, 2018, 2031, 2056]) (len := 156) (off := 751) (tgt := 791) (by decide +kernel) (by rw [hc113]; decide) (by rw [hc113]; decide) (by rw [hc113]; decide) (by decide) ?_
      exact B_L_case_11 G hp1 hp2 hp3 hr hk
    rw [if_neg hc113] at hr
    by_cases hc123 : (v2 &&& (63 : Int32)) = 12
    · rw [if_pos hc123] at hr
      refine n_tabIn (dflt := 2081) (lw := 0) (hi := 34) (offs := #[156, 229, 285, 353, 409, 465, 478, 491, 547, 615, 695, 751, 807, 887, 955, 1011, 1079, 1134, 1202, 1270, 1337, 1429, 1497, 1565, 1578, 1670, 1788, 1844, 1912, 1979, 1992, 2005, 2018, 2031, 2056]) (len := 156) (off := 807) (tgt := 847) (by decide +kernel) (by rw [hc123]; decide) (by rw [hc123]; decide) (by rw [hc123]; decide) (by decide) ?_
      exact B_L_case_12 G hp1 hp2 hp3 hr hk
    rw [if_neg hc123] at hr
    by_cases hc137 : (v2 &&& (63 : Int32)) = 13
    · rw [if_pos hc137] at hr
      refine n_tabIn (dflt := 2081) (lw := 0) (hi := 34) (offs := #[156, 229, 285, 353, 409, 465, 478, 491, 547, 615, 695, 751, 807, 887, 955, 1011, 1079, 1134, 1202, 1270, 1337, 1429, 1497, 1565, 1578, 1670, 1788, 1844, 1912, 1979, 1992, 2005, 2018, 2031, 2056]) (len := 156) (off := 887) (tgt := 927) (by decide +kernel) (by rw [hc137]; decide) (by rw [hc137]; decide) (by rw [hc137]; decide) (by decide) ?_
      exact B_L_case_13 G hp1 hp2 hp3 hr hk
    rw [if_neg hc137] at hr
    by_cases hc149 : (v2 &&& (63 : Int32)) = 14
    · rw [if_pos hc149] at hr
      refine n_tabIn (dflt := 2081) (lw := 0) (hi := 34) (offs := #[156, 229, 285, 353, 409, 465, 478, 491, 547, 615, 695, 751, 807, 887, 955, 1011, 1079, 1134, 1202, 1270, 1337, 1429, 1497, 1565, 1578, 1670, 1788, 1844, 1912, 1979, 1992, 2005, 2018, 2031, 2056]) (len := 156) (off := 955) (tgt := 995) (by decide +kernel) (by rw [hc149]; decide) (by rw [hc149]; decide) (by rw [hc149]; decide) (by decide) ?_
      exact B_L_case_14 G hp1 hp2 hp3 hr hk
    rw [if_neg hc149] at hr
    by_cases hc159 : (v2 &&& (63 : Int32)) = 15
    · rw [if_pos hc159] at hr
      refine n_tabIn (dflt := 2081) (lw := 0) (hi := 34) (offs := #[156, 229, 285, 353, 409, 465, 478, 491, 547, 615, 695, 751, 807, 887, 955, 1011, 1079, 1134, 1202, 1270, 1337, 1429, 1497, 1565, 1578, 1670, 1788, 1844, 1912, 1979, 1992, 2005, 2018, 2031, 2056]) (len := 156) (off := 1011) (tgt := 1051) (by decide +kernel) (by rw [hc159]; decide) (by rw [hc159]; decide) (by rw [hc159]; decide) (by decide) ?_
      exact B_L_case_15 G hp1 hp2 hp3 hr hk
    rw [if_neg hc159] at hr
    by_cases hc171 : (v2 &&& (63 : Int32)) = 16
    · rw [if_pos hc171] at hr
      refine n_tabIn (dflt := 2081) (lw := 0) (hi := 34) (offs := #[156, 229, 285, 353, 409, 465, 478, 491, 547, 615, 695, 751, 807, 887, 955, 1011, 1079, 1134, 1202, 1270, 1337, 1429, 1497, 1565, 1578, 1670, 1788, 1844, 1912, 1979, 1992, 2005, 2018, 2031, 2056]) (len := 156) (off := 1079) (tgt := 1119) (by decide +kernel) (by rw [hc171]; decide) (by rw [hc171]; decide) (by rw [hc171]; decide) (by decide) ?_
      exact B_L_case_16 G hp1 hp2 hp3 hr hk
    rw [if_neg hc171] at hr
    by_cases hc181 : (v2 &&& (63 : Int32)) = 17
    · rw [if_pos hc181] at hr
      refine n_tabIn (dflt := 2081) (lw := 0) (hi := 34) (offs := #[156, 229, 285, 353, 409, 465, 478, 491, 547, 615, 695, 751, 807, 887, 955, 1011, 1079, 1134, 1202, 1270, 1337, 1429, 1497, 1565, 1578, 1670, 1788, 1844, 1912, 1979, 1992, 2005, 2018, 2031, 2056]) (len := 156) (off := 1134) (tgt := 1174) (by decide +kernel) (by rw [hc181]; decide) (by rw [hc181]; decide) (by rw [hc181]; decide) (by decide) ?_
      exact B_L_case_17 G hp1 hp2 hp3 hr hk
    rw [if_neg hc181] at hr
    by_cases hc193 : (v2 &&& (63 : Int32)) = 18
    · rw [if_pos hc193] at hr
      refine n_tabIn (dflt := 2081) (lw := 0) (hi := 34) (offs := #[156, 229, 285, 353, 409, 465, 478, 491, 547, 615, 695, 751, 807, 887, 955, 1011, 1079, 1134, 1202, 1270, 1337, 1429, 1497, 1565, 1578, 1670, 1788, 1844, 1912, 1979, 1992, 2005, 2018, 2031, 2056]) (len := 156) (off := 1202) (tgt := 1242) (by decide +kernel) (by rw [hc193]; decide) (by rw [hc193]; decide) (by rw [hc193]; decide) (by decide) ?_
      exact B_L_case_18 G hp1 hp2 hp3 hr hk
    rw [if_neg hc193] at hr
    by_cases hc205 : (v2 &&& (63 : Int32)) = 19
    · rw [if_pos hc205] at hr
      refine n_tabIn (dflt := 2081) (lw := 0) (hi := 34) (offs := #[156, 229, 285, 353, 409, 465, 478, 491, 547, 615, 695, 751, 807, 887, 955, 1011, 1079, 1134, 1202, 1270, 1337, 1429, 1497, 1565, 1578, 1670, 1788, 1844, 1912, 1979, 1992, 2005, 2018, 2031, 2056]) (len := 156) (off := 1270) (tgt := 1310) (by decide +kernel) (by rw [hc205]; decide) (by rw [hc205]; decide) (by rw [hc205]; decide) (by decide) ?_
      exact B_L_case_19 G hp1 hp2 hp3 hr hk
    rw [if_neg hc205] at hr
    by_cases hc217 : (v2 &&& (63 : Int32)) = 20
    · rw [if_pos hc217] at hr
      refine n_tabIn (dflt := 2081) (lw := 0) (hi := 34) (offs := #[156, 229, 285, 353, 409, 465, 478, 491, 547, 615, 695, 751, 807, 887, 955, 1011, 1079, 1134, 1202, 1270, 1337, 1429, 1497, 1565, 1578, 1670, 1788, 1844, 1912, 1979, 1992, 2005, 2018, 2031, 2056]) (len := 156) (off := 1337) (tgt := 1377) (by decide +kernel) (by rw [hc217]; decide) (by rw [hc217]; decide) (by rw [hc217]; decide) (by decide) ?_
      exact B_L_case_20 G hp1 hp2 hp3 hr hk
    rw [if_neg hc217] at hr
    by_cases hc233 : (v2 &&& (63 : Int32)) = 21
    · rw [if_pos hc233] at hr
      refine n_tabIn (dflt := 2081) (lw := 0) (hi := 34) (offs := #[156, 229, 285, 353, 409, 465, 478, 491, 547, 615, 695, 751, 807, 887, 955, 1011, 1079, 1134, 1202, 1270, 1337, 1429, 1497, 1565, 1578, 1670, 1788, 1844, 1912, 1979, 1992, 2005, 2018, 2031, 2056]) (len := 156) (off := 1429) (tgt := 1469) (by decide +kernel) (by rw [hc233]; decide) (by rw [hc233]; decide) (by rw [hc233]; decide) (by decide) ?_
      exact B_L_case_21 G hp1 hp2 hp3 hr hk
    rw [if_neg hc233] at hr
    by_cases hc245 : (v2 &&& (63 : Int32)) = 22
    · rw [if_pos hc245] at hr
      refine n_tabIn (dflt := 2081) (lw := 0) (hi := 34) (offs := #[156, 229, 285, 353, 409, 465, 478, 491, 547, 615, 695, 751, 807, 887, 955, 1011, 1079, 1134, 1202, 1270, 1337, 1429, 1497, 1565, 1578, 1670, 1788, 1844, 1912, 1979, 1992, 2005, 2018, 2031, 2056]) (len := 156) (off := 1497) (tgt := 1537) (by decide +kernel) (by rw [hc245]; decide) (by rw [hc245]; decide) (by rw [hc245]; decide) (by decide) ?_
      exact B_L_case_22 G hp1 hp2 hp3 hr hk
    rw [if_neg hc245] at hr
    by_cases hc257 : (v2 &&& (63 : Int32)) = 23
    · rw [if_pos hc257] at hr
      refine n_tabIn (dflt := 2081) (lw := 0) (hi := 34) (offs := #[156, 229, 285, 353, 409, 465, 478, 491, 547, 615, 695, 751, 807, 887, 955, 1011, 1079, 1134, 1202, 1270, 1337, 1429, 1497, 1565, 1578, 1670, 1788, 1844, 1912, 1979, 1992, 2005, 2018, 2031, 2056]) (len := 156) (off := 1565) (tgt := 1605) (by decide +kernel) (by rw [hc257]; decide) (by rw [hc257]; decide) (by rw [hc257]; decide) (by decide) ?_
      exact B_L_case_23 G hp1 hp2 hp3 hr hk
    rw [if_neg hc257] at hr
    by_cases hc261 : (v2 &&& (63 : Int32)) = 24
    · rw [if_pos hc261] at hr
      refine n_tabIn (dflt := 2081) (lw := 0) (hi := 34) (offs := #[156, 229, 285, 353, 409, 465, 478, 491, 547, 615, 695, 751, 807, 887, 955, 1011, 1079, 1134, 1202, 1270, 1337, 1429, 1497, 1565, 1578, 1670, 1788, 1844, 1912, 1979, 1992, 2005, 2018, 2031, 2056]) (len := 156) (off := 1578) (tgt := 1618) (by decide +kernel) (by rw [hc261]; decide) (by rw [hc261]; decide) (by rw [hc261]; decide) (by decide) ?_
      exact B_L_case_24 G hp1 hp2 hp3 hr hk
    rw [if_neg hc261] at hr
    by_cases hc277 : (v2 &&& (63 : Int32)) = 25
    · rw [if_pos hc277] at hr
      refine n_tabIn (dflt := 2081) (lw := 0) (hi := 34) (offs := #[156, 229, 285, 353, 409, 465, 478, 491, 547, 615, 695, 751, 807, 887, 955, 1011, 1079, 1134, 1202, 1270, 1337, 1429, 1497, 1565, 1578, 1670, 1788, 1844, 1912, 1979, 1992, 2005, 2018, 2031, 2056]) (len := 156) (off := 1670) (tgt := 1710) (by decide +kernel) (by rw [hc277]; decide) (by rw [hc277]; decide) (by rw [hc277]; decide) (by decide) ?_
      exact B_L_case_25 G hp1 hp2 hp3 hr hk
    rw [if_neg hc277] at hr
    by_cases hc297 : (v2 &&& (63 : Int32)) = 26
    · rw [if_pos hc297] at hr
      refine n_tabIn (dflt := 2081) (lw := 0) (hi := 34) (offs := #[156, 229, 285, 353, 409, 465, 478, 491, 547, 615, 695, 751, 807, 887, 955, 1011, 1079, 1134, 1202, 1270, 1337, 1429, 1497, 1565, 1578, 1670, 1788, 1844, 1912, 1979, 1992, 2005, 2018, 2031, 2056]) (len := 156) (off := 1788) (tgt := 1828) (by decide +kernel) (by rw [hc297]; decide) (by rw [hc297]; decide) (by rw [hc297]; decide) (by decide) ?_
      exact B_L_case_26 G hp1 hp2 hp3 hr hk
    rw [if_neg hc297] at hr
    by_cases hc307 : (v2 &&& (63 : Int32)) = 27
    · rw [if_pos hc307] at hr
      refine n_tabIn (dflt := 2081) (lw := 0) (hi := 34) (offs := #[156, 229, 285, 353, 409, 465, 478, 491, 547, 615, 695, 751, 807, 887, 955, 1011, 1079, 1134, 1202, 1270, 1337, 1429, 1497, 1565, 1578, 1670, 1788, 1844, 1912, 1979, 1992, 2005, 2018, 2031, 2056]) (len := 156) (off := 1844) (tgt := 1884) (by decide +kernel) (by rw [hc307]; decide) (by rw [hc307]; decide) (by rw [hc307]; decide) (by decide) ?_
      exact B_L_case_27 G hp1 hp2 hp3 hr hk
    rw [if_neg hc307] at hr
    by_cases hc319 : (v2 &&& (63 : Int32)) = 28
    · rw [if_pos hc319] at hr
      refine n_tabIn (dflt := 2081) (lw := 0) (hi := 34) (offs := #[156, 229, 285, 353, 409, 465, 478, 491, 547, 615, 695, 751, 807, 887, 955, 1011, 1079, 1134, 1202, 1270, 1337, 1429, 1497, 1565, 1578, 1670, 1788, 1844, 1912, 1979, 1992, 2005, 2018, 2031, 2056]) (len := 156) (off := 1912) (tgt := 1952) (by decide +kernel) (by rw [hc319]; decide) (by rw [hc319]; decide) (by rw [hc319]; decide) (by decide) ?_
      exact B_L_case_28 G hp1 hp2 hp3 hr hk
    rw [if_neg hc319] at hr
    by_cases hc331 : (v2 &&& (63 : Int32)) = 29
    · rw [if_pos hc331] at hr
      refine n_tabIn (dflt := 2081) (lw := 0) (hi := 34) (offs := #[156, 229, 285, 353, 409, 465, 478, 491, 547, 615, 695, 751, 807, 887, 955, 1011, 1079, 1134, 1202, 1270, 1337, 1429, 1497, 1565, 1578, 1670, 1788, 1844, 1912, 1979, 1992, 2005, 2018, 2031, 2056]) (len := 156) (off := 1979) (tgt := 2019) (by decide +kernel) (by rw [hc331]; decide) (by rw [hc331]; decide) (by rw [hc331]; decide) (by decide) ?_
      exact B_L_case_29 G hp1 hp2 hp3 hr hk
    rw [if_neg hc331] at hr
    by_cases hc335 : (v2 &&& (63 : Int32)) = 30
    · rw [if_pos hc335] at hr
      refine n_tabIn (dflt := 2081) (lw := 0) (hi := 34) (offs := #[156, 229, 285, 353, 409, 465, 478, 491, 547, 615, 695, 751, 807, 887, 955, 1011, 1079, 1134, 1202, 1270, 1337, 1429, 1497, 1565, 1578, 1670, 1788, 1844, 1912, 1979, 1992, 2005, 2018, 2031, 2056]) (len := 156) (off := 1992) (tgt := 2032) (by decide +kernel) (by rw [hc335]; decide) (by rw [hc335]; decide) (by rw [hc335]; decide) (by decide) ?_
      exact B_L_case_30 G hp1 hp2 hp3 hr hk
    rw [if_neg hc335] at hr
    by_cases hc339 : (v2 &&& (63 : Int32)) = 31
    · rw [if_pos hc339] at hr
      refine n_tabIn (dflt := 2081) (lw := 0) (hi := 34) (offs := #[156, 229, 285, 353, 409, 465, 478, 491, 547, 615, 695, 751, 807, 887, 955, 1011, 1079, 1134, 1202, 1270, 1337, 1429, 1497, 1565, 1578, 1670, 1788, 1844, 1912, 1979, 1992, 2005, 2018, 2031, 2056]) (len := 156) (off := 2005) (tgt := 2045) (by decide +kernel) (by rw [hc339]; decide) (by rw [hc339]; decide) (by rw [hc339]; decide) (by decide) ?_
      exact B_L_case_31 G hp1 hp2 hp3 hr hk
    rw [if_neg hc339] at hr
    by_cases hc343 : (v2 &&& (63 : Int32)) = 32
    · rw [if_pos hc343] at hr
      refine n_tabIn (dflt := 2081) (lw := 0) (hi := 34) (offs := #[156, 229, 285, 353, 409, 465, 478, 491, 547, 615, 695, 751, 807, 887, 955, 1011, 1079, 1134, 1202, 1270, 1337, 1429, 1497, 1565, 1578, 1670, 1788, 1844, 1912, 1979, 1992, 2005, 2018, 2031, 2056]) (len := 156) (off := 2018) (tgt := 2058) (by decide +kernel) (by rw [hc343]; decide) (by rw [hc343]; decide) (by rw [hc343]; decide) (by decide) ?_
      exact B_L_case_32 G hp1 hp2 hp3 hr hk
    rw [if_neg hc343] at hr
    by_cases hc347 : (v2 &&& (63 : Int32)) = 33
    · rw [if_pos hc347] at hr
      refine n_tabIn (dflt := 2081) (lw := 0) (hi := 34) (offs := #[156, 229, 285, 353, 409, 465, 478, 491, 547, 615, 695, 751, 807, 887, 955, 1011, 1079, 1134, 1202, 1270, 1337, 1429, 1497, 1565, 1578, 1670, 1788, 1844, 1912, 1979, 1992, 2005, 2018, 2031, 2056]) (len := 156) (off := 2031) (tgt := 2071) (by decide +kernel) (by rw [hc347]; decide) (by rw [hc347]; decide) (by rw [hc347]; decide) (by decide) ?_
      exact B_L_case_33 G hp1 hp2 hp3 hr hk
    rw [if_neg hc347] at hr
    by_cases hc353 : (v2 &&& (63 : Int32)) = 34
    · rw [if_pos hc353] at hr
      refine n_tabIn (dflt := 2081) (lw := 0) (hi := 34) (offs := #[156, 229, 285, 353, 409, 465, 478, 491, 547, 615, 695, 751, 807, 887, 955, 1011, 1079, 1134, 1202, 1270, 1337, 1429, 1497, 1565, 1578, 1670, 1788, 1844, 1912, 1979, 1992, 2005, 2018, 2031, 2056]) (len := 156) (off := 2056) (tgt := 2096) (by decide +kernel) (by rw [hc353]; decide) (by rw [hc353]; decide) (by rw [hc353]; decide) (by decide) ?_
      exact B_L_case_34 G hp1 hp2 hp3 hr hk
    rw [if_neg hc353] at hr
    have e3 := ne_toInt hc3 (n := 0) rfl
    have e17 := ne_toInt hc17 (n := 1) rfl
    have e27 := ne_toInt hc27 (n := 2) rfl
    have e39 := ne_toInt hc39 (n := 3) rfl
    have e49 := ne_toInt hc49 (n := 4) rfl
    have e59 := ne_toInt hc59 (n := 5) rfl
    have e63 := ne_toInt hc63 (n := 6) rfl
    have e67 := ne_toInt hc67 (n := 7) rfl
    have e77 := ne_toInt hc77 (n := 8) rfl
    have e89 := ne_toInt hc89 (n := 9) rfl
    have e103 := ne_toInt hc103 (n := 10) rfl
    have e113 := ne_toInt hc113 (n := 11) rfl
    have e123 := ne_toInt hc123 (n := 12) rfl
    have e137 := ne_toInt hc137 (n := 13) rfl
    have e149 := ne_toInt hc149 (n := 14) rfl
    have e159 := ne_toInt hc159 (n := 15) rfl
    have e171 := ne_toInt hc171 (n := 16) rfl
    have e181 := ne_toInt hc181 (n := 17) rfl
    have e193 := ne_toInt hc193 (n := 18) rfl
    have e205 := ne_toInt hc205 (n := 19) rfl
    have e217 := ne_toInt hc217 (n := 20) rfl
    have e233 := ne_toInt hc233 (n := 21) rfl
    have e245 := ne_toInt hc245 (n := 22) rfl
    have e257 := ne_toInt hc257 (n := 23) rfl
    have e261 := ne_toInt hc261 (n := 24) rfl
    have e277 := ne_toInt hc277 (n := 25) rfl
    have e297 := ne_toInt hc297 (n := 26) rfl
    have e307 := ne_toInt hc307 (n := 27) rfl
    have e319 := ne_toInt hc319 (n := 28) rfl
    have e331 := ne_toInt hc331 (n := 29) rfl
    have e335 := ne_toInt hc335 (n := 30) rfl
    have e339 := ne_toInt hc339 (n := 31) rfl
    have e343 := ne_toInt hc343 (n := 32) rfl
    have e347 := ne_toInt hc347 (n := 33) rfl
    have e353 := ne_toInt hc353 (n := 34) rfl
    refine n_tabOut (dflt := 2081) (lw := 0) (hi := 34) (offs := #[156, 229, 285, 353, 409, 465, 478, 491, 547, 615, 695, 751, 807, 887, 955, 1011, 1079, 1134, 1202, 1270, 1337, 1429, 1497, 1565, 1578, 1670, 1788, 1844, 1912, 1979, 1992, 2005, 2018, 2031, 2056]) (len := 156) (tgt := 2121) (by decide +kernel) (by omega) (by decide) ?_
    refine n_iincK (n := 4) (j := 7) (w := 7) (lo2 := [_, _, _, _, _, _, _, _]) (by decide +kernel) rfl rfl rfl ?_
    refine n_goto (off := -2101) (tgt := 23) (by decide +kernel) (by decide) ?_
    cases hr
    exact hk
set_option maxRecDepth 100000 in
theorem W_L_law__b23 (G : GG l s0 b L xs D cy ad)   (hp1 : P 0) (hp2 : P 76) (hp3 : P 275) {s : (Int32 × Mm)} {e : (Mm ⊕ Mm)} (h : whl fu (f_L_law__b23 xs L) s = some e) (res : Rs) (M' : Mm) : Q_L_law__b23 l s0 D cy ad P  res M' e → P_L_law__b23 l s0 D cy ad P  res M' s := whl_run (P := fun s => P_L_law__b23 l s0 D cy ad P  res M' s) (Q := fun e => Q_L_law__b23 l s0 D cy ad P  res M' e) (B_L_law__b23 G (res := res) (M' := M')  hp1 hp2 hp3) fu s h
set_option maxRecDepth 100000 in
theorem B_L_law_20 (G : GG l s0 b L xs D cy ad) {M : Mm} {r : (Int32 × Mm)} (hp1 : P 0) (hp2 : P 76) (hp3 : P 275) (hr : f_L_law_20 xs L M = some r) : Rn l s0 D cy ad P 77 KLAW 20 [.ref 100000, .ref 0, .ref 76, .ref 275, .null, .null, .null, .null] [] M (.inl (some (.int r.1))) (r.2) := by
  unfold f_L_law_20 at hr
  refine n_iconst (n := 0) (v := 0) (by decide +kernel) rfl ?_
  refine n_istore (n := 4) (lo2 := [_, _, _, _, _, _, _, _]) (by decide +kernel) (Nat.le_of_ble_eq_true rfl) rfl ?_
  obtain ⟨e359, h359, hr⟩ := bso hr
  refine (W_L_law__b23 G hp1 hp2 hp3 h359 _ _) ?_
  rcases e359 with M359 | M359
  · try dsimp only at hr
    dsimp only [Q_L_law__b23]
    cases hr
    exact ⟨rfl, rfl⟩
  · try dsimp only at hr
    dsimp only [Q_L_law__b23]
    refine n_iconst (n := 1) (v := 1) (by decide +kernel) rfl ?_
    cases hr
    exact n_ireturn (by decide +kernel)
end NB
