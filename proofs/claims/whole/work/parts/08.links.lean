abbrev m_J7_fill_53178 : MD := (yJ7_fill_53178, cJ7_fill_53178, 4, none)
theorem mo_J7_fill_53178 : MOk m_J7_fill_53178 2 := ⟨mem_t1 124 rfl rfl, mem_t1 6 rfl rfl, by decide +kernel, by decide⟩
theorem vo_J7_fill_53178 : Cond.static yJ7_fill_53178 ∈ gtb := mem_t1 123 rfl rfl
abbrev m_X0_begin : MD := (yX0_begin, cX0_begin, 4, none)
theorem mo_X0_begin : MOk m_X0_begin 3 := ⟨mem_t2 103 rfl rfl, mem_t1 3 rfl rfl, by decide +kernel, by decide⟩
theorem vo_X0_begin : VOk yX0_begin 0 := ⟨mem_t2 102 rfl rfl, mem_pv (n := 7) (List.mem_of_getElem? (i := 9) rfl), by decide, rfl⟩
abbrev m_X0_copy : MD := (yX0_copy, cX0_copy, 2, none)
theorem mo_X0_copy : MOk m_X0_copy 1 := ⟨mem_t2 153 rfl rfl, mem_t1 3 rfl rfl, by decide +kernel, by decide⟩
theorem vo_X0_copy : VOk yX0_copy 0 := ⟨mem_t2 152 rfl rfl, mem_pv (n := 7) (List.mem_of_getElem? (i := 21) rfl), by decide, rfl⟩
abbrev m_X0_lines : MD := (yX0_lines, cX0_lines, 1, (some FieldType.int))
theorem mo_X0_lines : MOk m_X0_lines 0 := ⟨mem_t2 108 rfl rfl, mem_t1 3 rfl rfl, by decide +kernel, by decide⟩
theorem vo_X0_lines : VOk yX0_lines 0 := ⟨mem_t2 107 rfl rfl, mem_pv (n := 7) (List.mem_of_getElem? (i := 10) rfl), by decide, rfl⟩
abbrev m_X0_allLines : MD := (yX0_allLines, cX0_allLines, 1, (some FieldType.int))
theorem mo_X0_allLines : MOk m_X0_allLines 0 := ⟨mem_t3 83 rfl rfl, mem_t1 3 rfl rfl, by decide +kernel, by decide⟩
theorem vo_X0_allLines : VOk yX0_allLines 0 := ⟨mem_t3 82 rfl rfl, mem_pv (n := 7) (List.mem_of_getElem? (i := 42) rfl), by decide, rfl⟩
abbrev m_X0_cellsOf : MD := (yX0_cellsOf, cX0_cellsOf, 2, (some FieldType.int))
theorem mo_X0_cellsOf : MOk m_X0_cellsOf 1 := ⟨mem_t2 136 rfl rfl, mem_t1 3 rfl rfl, by decide +kernel, by decide⟩
theorem vo_X0_cellsOf : VOk yX0_cellsOf 0 := ⟨mem_t2 135 rfl rfl, mem_pv (n := 7) (List.mem_of_getElem? (i := 17) rfl), by decide, rfl⟩
abbrev m_X0_xOf : MD := (yX0_xOf, cX0_xOf, 3, (some FieldType.int))
theorem mo_X0_xOf : MOk m_X0_xOf 2 := ⟨mem_t3 224 rfl rfl, mem_t1 3 rfl rfl, by decide +kernel, by decide⟩
theorem vo_X0_xOf : VOk yX0_xOf 0 := ⟨mem_t3 223 rfl rfl, mem_pv (n := 7) (List.mem_of_getElem? (i := 63) rfl), by decide, rfl⟩
abbrev m_X0_yOf : MD := (yX0_yOf, cX0_yOf, 3, (some FieldType.int))
theorem mo_X0_yOf : MOk m_X0_yOf 2 := ⟨mem_t3 228 rfl rfl, mem_t1 3 rfl rfl, by decide +kernel, by decide⟩
theorem vo_X0_yOf : VOk yX0_yOf 0 := ⟨mem_t3 227 rfl rfl, mem_pv (n := 7) (List.mem_of_getElem? (i := 64) rfl), by decide, rfl⟩
abbrev m_X0_lengthOf : MD := (yX0_lengthOf, cX0_lengthOf, 3, (some FieldType.int))
theorem mo_X0_lengthOf : MOk m_X0_lengthOf 2 := ⟨mem_t2 128 rfl rfl, mem_t1 3 rfl rfl, by decide +kernel, by decide⟩
theorem vo_X0_lengthOf : VOk yX0_lengthOf 0 := ⟨mem_t2 127 rfl rfl, mem_pv (n := 7) (List.mem_of_getElem? (i := 15) rfl), by decide, rfl⟩
abbrev m_X0_colourOf : MD := (yX0_colourOf, cX0_colourOf, 3, (some FieldType.int))
theorem mo_X0_colourOf : MOk m_X0_colourOf 2 := ⟨mem_t2 148 rfl rfl, mem_t1 3 rfl rfl, by decide +kernel, by decide⟩
theorem vo_X0_colourOf : VOk yX0_colourOf 0 := ⟨mem_t2 147 rfl rfl, mem_pv (n := 7) (List.mem_of_getElem? (i := 20) rfl), by decide, rfl⟩
abbrev m_X0_add : MD := (yX0_add, cX0_add, 5, none)
theorem mo_X0_add : MOk m_X0_add 3 := ⟨mem_t2 120 rfl rfl, mem_t1 3 rfl rfl, by decide +kernel, by decide⟩
theorem vo_X0_add : VOk yX0_add 0 := ⟨mem_t2 119 rfl rfl, mem_pv (n := 7) (List.mem_of_getElem? (i := 13) rfl), by decide, rfl⟩
abbrev m_X0_needsGapAhead : MD := (yX0_needsGapAhead, cX0_needsGapAhead, 4, (some FieldType.boolean))
theorem mo_X0_needsGapAhead : MOk m_X0_needsGapAhead 2 := ⟨mem_t2 132 rfl rfl, mem_t1 3 rfl rfl, by decide +kernel, by decide⟩
theorem vo_X0_needsGapAhead : VOk yX0_needsGapAhead 0 := ⟨mem_t2 131 rfl rfl, mem_pv (n := 7) (List.mem_of_getElem? (i := 16) rfl), by decide, rfl⟩
abbrev m_X0_fitsItsCells : MD := (yX0_fitsItsCells, cX0_fitsItsCells, 4, (some FieldType.boolean))
theorem mo_X0_fitsItsCells : MOk m_X0_fitsItsCells 1 := ⟨mem_t2 124 rfl rfl, mem_t1 3 rfl rfl, by decide +kernel, by decide⟩
theorem vo_X0_fitsItsCells : VOk yX0_fitsItsCells 0 := ⟨mem_t2 123 rfl rfl, mem_pv (n := 7) (List.mem_of_getElem? (i := 14) rfl), by decide, rfl⟩
abbrev m_X0_cellsTold : MD := (yX0_cellsTold, cX0_cellsTold, 7, (some FieldType.int))
theorem mo_X0_cellsTold : MOk m_X0_cellsTold 3 := ⟨mem_t2 144 rfl rfl, mem_t1 3 rfl rfl, by decide +kernel, by decide⟩
theorem vo_X0_cellsTold : VOk yX0_cellsTold 0 := ⟨mem_t2 143 rfl rfl, mem_pv (n := 7) (List.mem_of_getElem? (i := 19) rfl), by decide, rfl⟩
abbrev m_X0_isBalanced : MD := (yX0_isBalanced, cX0_isBalanced, 2, (some FieldType.boolean))
theorem mo_X0_isBalanced : MOk m_X0_isBalanced 0 := ⟨mem_t2 140 rfl rfl, mem_t1 3 rfl rfl, by decide +kernel, by decide⟩
theorem vo_X0_isBalanced : VOk yX0_isBalanced 0 := ⟨mem_t2 139 rfl rfl, mem_pv (n := 7) (List.mem_of_getElem? (i := 18) rfl), by decide, rfl⟩
abbrev m_X0_addStretch : MD := (yX0_addStretch, cX0_addStretch, 4, none)
theorem mo_X0_addStretch : MOk m_X0_addStretch 3 := ⟨mem_t3 239 rfl rfl, mem_t1 3 rfl rfl, by decide +kernel, by decide⟩
theorem vo_X0_addStretch : VOk yX0_addStretch 0 := ⟨mem_t3 238 rfl rfl, mem_pv (n := 7) (List.mem_of_getElem? (i := 66) rfl), by decide, rfl⟩
abbrev m_X2_at : MD := (yX2_at, cX2_at, 3, (some FieldType.int))
theorem mo_X2_at : MOk m_X2_at 2 := ⟨mem_t2 235 rfl rfl, mem_t1 5 rfl rfl, by decide +kernel, by decide⟩
theorem vo_X2_at : VOk yX2_at 2 := ⟨mem_t2 234 rfl rfl, mem_pv (n := 2) (List.mem_of_getElem? (i := 32) rfl), by decide, rfl⟩
abbrev m_X2_valueAt : MD := (yX2_valueAt, cX2_valueAt, 3, (some FieldType.int))
theorem mo_X2_valueAt : MOk m_X2_valueAt 2 := ⟨mem_t3 232 rfl rfl, mem_t1 5 rfl rfl, by decide +kernel, by decide⟩
theorem vo_X2_valueAt : VOk yX2_valueAt 2 := ⟨mem_t3 231 rfl rfl, mem_pv (n := 2) (List.mem_of_getElem? (i := 65) rfl), by decide, rfl⟩
abbrev m_X0_readLine : MD := (yX0_readLine, cX0_readLine, 7, none)
theorem mo_X0_readLine : MOk m_X0_readLine 2 := ⟨mem_t3 220 rfl rfl, mem_t1 3 rfl rfl, by decide +kernel, by decide⟩
theorem vo_X0_readLine : VOk yX0_readLine 0 := ⟨mem_t3 219 rfl rfl, mem_pv (n := 7) (List.mem_of_getElem? (i := 62) rfl), by decide, rfl⟩
abbrev m_X0_isLineLike : MD := (yX0_isLineLike, cX0_isLineLike, 4, (some FieldType.boolean))
theorem mo_X0_isLineLike : MOk m_X0_isLineLike 2 := ⟨mem_t4 8 rfl rfl, mem_t1 3 rfl rfl, by decide +kernel, by decide⟩
theorem vo_X0_isLineLike : VOk yX0_isLineLike 0 := ⟨mem_t4 7 rfl rfl, mem_pv (n := 7) (List.mem_of_getElem? (i := 68) rfl), by decide, rfl⟩
abbrev m_X0_hasRunsOf : MD := (yX0_hasRunsOf, cX0_hasRunsOf, 3, (some FieldType.boolean))
theorem mo_X0_hasRunsOf : MOk m_X0_hasRunsOf 1 := ⟨mem_t4 4 rfl rfl, mem_t1 3 rfl rfl, by decide +kernel, by decide⟩
theorem vo_X0_hasRunsOf : VOk yX0_hasRunsOf 0 := ⟨mem_t4 3 rfl rfl, mem_pv (n := 7) (List.mem_of_getElem? (i := 67) rfl), by decide, rfl⟩
abbrev m_X1_begin : MD := (yX1_begin, cX1_begin, 1, none)
theorem mo_X1_begin : MOk m_X1_begin 0 := ⟨mem_t3 137 rfl rfl, mem_t1 10 rfl rfl, by decide +kernel, by decide⟩
theorem vo_X1_begin : VOk yX1_begin 1 := ⟨mem_t3 136 rfl rfl, mem_pv (n := 5) (List.mem_of_getElem? (i := 50) rfl), by decide, rfl⟩
abbrev m_X1_forgetSolutions : MD := (yX1_forgetSolutions, cX1_forgetSolutions, 1, none)
theorem mo_X1_forgetSolutions : MOk m_X1_forgetSolutions 0 := ⟨mem_t2 239 rfl rfl, mem_t1 10 rfl rfl, by decide +kernel, by decide⟩
theorem vo_X1_forgetSolutions : VOk yX1_forgetSolutions 1 := ⟨mem_t2 238 rfl rfl, mem_pv (n := 5) (List.mem_of_getElem? (i := 33) rfl), by decide, rfl⟩
abbrev m_X1_forgetAll : MD := (yX1_forgetAll, cX1_forgetAll, 1, none)
theorem mo_X1_forgetAll : MOk m_X1_forgetAll 0 := ⟨mem_t2 168 rfl rfl, mem_t1 10 rfl rfl, by decide +kernel, by decide⟩
theorem vo_X1_forgetAll : VOk yX1_forgetAll 1 := ⟨mem_t2 167 rfl rfl, mem_pv (n := 5) (List.mem_of_getElem? (i := 24) rfl), by decide, rfl⟩
abbrev m_X1_isKept : MD := (yX1_isKept, cX1_isKept, 2, (some FieldType.boolean))
theorem mo_X1_isKept : MOk m_X1_isKept 1 := ⟨mem_t3 189 rfl rfl, mem_t1 10 rfl rfl, by decide +kernel, by decide⟩
theorem vo_X1_isKept : VOk yX1_isKept 1 := ⟨mem_t3 188 rfl rfl, mem_pv (n := 5) (List.mem_of_getElem? (i := 59) rfl), by decide, rfl⟩
abbrev m_X1_kept : MD := (yX1_kept, cX1_kept, 2, (some (FieldType.object "CellPictures$Grid")))
theorem mo_X1_kept : MOk m_X1_kept 1 := ⟨mem_t3 159 rfl rfl, mem_t1 10 rfl rfl, by decide +kernel, by decide⟩
theorem vo_X1_kept : VOk yX1_kept 1 := ⟨mem_t3 158 rfl rfl, mem_pv (n := 5) (List.mem_of_getElem? (i := 55) rfl), by decide, rfl⟩
abbrev m_X2_put : MD := (yX2_put, cX2_put, 4, none)
theorem mo_X2_put : MOk m_X2_put 3 := ⟨mem_t2 231 rfl rfl, mem_t1 5 rfl rfl, by decide +kernel, by decide⟩
theorem vo_X2_put : VOk yX2_put 2 := ⟨mem_t2 230 rfl rfl, mem_pv (n := 2) (List.mem_of_getElem? (i := 31) rfl), by decide, rfl⟩
abbrev m_X4_leastOf : MD := (yX4_leastOf, cX4_leastOf, 2, (some FieldType.int))
theorem mo_X4_leastOf : MOk m_X4_leastOf 1 := ⟨mem_t3 163 rfl rfl, mem_t1 9 rfl rfl, by decide +kernel, by decide⟩
theorem vo_X4_leastOf : Cond.static yX4_leastOf ∈ gtb := mem_t3 162 rfl rfl
abbrev m_X4_valuesIn : MD := (yX4_valuesIn, cX4_valuesIn, 5, (some FieldType.int))
theorem mo_X4_valuesIn : MOk m_X4_valuesIn 2 := ⟨mem_t2 198 rfl rfl, mem_t1 9 rfl rfl, by decide +kernel, by decide⟩
theorem vo_X4_valuesIn : Cond.static yX4_valuesIn ∈ gtb := mem_t2 197 rfl rfl
abbrev m_X4_valuesAt : MD := (yX4_valuesAt, cX4_valuesAt, 3, (some FieldType.int))
theorem mo_X4_valuesAt : MOk m_X4_valuesAt 2 := ⟨mem_t2 195 rfl rfl, mem_t1 9 rfl rfl, by decide +kernel, by decide⟩
theorem vo_X4_valuesAt : VOk yX4_valuesAt 4 := ⟨mem_t2 194 rfl rfl, mem_pv (n := 2) (List.mem_of_getElem? (i := 27) rfl), by decide, rfl⟩
abbrev m_X1_add : MD := (yX1_add, cX1_add, 5, none)
theorem mo_X1_add : MOk m_X1_add 1 := ⟨mem_t3 155 rfl rfl, mem_t1 10 rfl rfl, by decide +kernel, by decide⟩
theorem vo_X1_add : VOk yX1_add 1 := ⟨mem_t3 154 rfl rfl, mem_pv (n := 5) (List.mem_of_getElem? (i := 54) rfl), by decide, rfl⟩
abbrev m_X2_clear : MD := (yX2_clear, cX2_clear, 1, none)
theorem mo_X2_clear : MOk m_X2_clear 0 := ⟨mem_t2 160 rfl rfl, mem_t1 5 rfl rfl, by decide +kernel, by decide⟩
theorem vo_X2_clear : VOk yX2_clear 2 := ⟨mem_t2 159 rfl rfl, mem_pv (n := 2) (List.mem_of_getElem? (i := 22) rfl), by decide, rfl⟩
abbrev m_X3_cellsWith : MD := (yX3_cellsWith, cX3_cellsWith, 3, (some FieldType.int))
theorem mo_X3_cellsWith : MOk m_X3_cellsWith 2 := ⟨mem_t3 40 rfl rfl, mem_t1 7 rfl rfl, by decide +kernel, by decide⟩
theorem vo_X3_cellsWith : Cond.static yX3_cellsWith ∈ gtb := mem_t3 39 rfl rfl
abbrev m_X3_cover : MD := (yX3_cover, cX3_cover, 4, (some FieldType.int))
theorem mo_X3_cover : MOk m_X3_cover 2 := ⟨mem_t3 55 rfl rfl, mem_t1 7 rfl rfl, by decide +kernel, by decide⟩
theorem vo_X3_cover : Cond.static yX3_cover ∈ gtb := mem_t3 54 rfl rfl
abbrev m_X3_spreadDown : MD := (yX3_spreadDown, cX3_spreadDown, 5, (some FieldType.int))
theorem mo_X3_spreadDown : MOk m_X3_spreadDown 2 := ⟨mem_t3 52 rfl rfl, mem_t1 7 rfl rfl, by decide +kernel, by decide⟩
theorem vo_X3_spreadDown : Cond.static yX3_spreadDown ∈ gtb := mem_t3 51 rfl rfl
abbrev m_X3_spreadUp : MD := (yX3_spreadUp, cX3_spreadUp, 5, (some FieldType.int))
theorem mo_X3_spreadUp : MOk m_X3_spreadUp 2 := ⟨mem_t3 43 rfl rfl, mem_t1 7 rfl rfl, by decide +kernel, by decide⟩
theorem vo_X3_spreadUp : Cond.static yX3_spreadUp ∈ gtb := mem_t3 42 rfl rfl
abbrev m_X3_stretches : MD := (yX3_stretches, cX3_stretches, 4, (some FieldType.int))
theorem mo_X3_stretches : MOk m_X3_stretches 2 := ⟨mem_t3 49 rfl rfl, mem_t1 7 rfl rfl, by decide +kernel, by decide⟩
theorem vo_X3_stretches : Cond.static yX3_stretches ∈ gtb := mem_t3 48 rfl rfl
abbrev m_X3_keptOf : MD := (yX3_keptOf, cX3_keptOf, 14, (some FieldType.long))
theorem mo_X3_keptOf : MOk m_X3_keptOf 2 := ⟨mem_t3 36 rfl rfl, mem_t1 7 rfl rfl, by decide +kernel, by decide⟩
theorem vo_X3_keptOf : VOk yX3_keptOf 3 := ⟨mem_t3 35 rfl rfl, mem_pv (n := 5) (List.mem_of_getElem? (i := 38) rfl), by decide, rfl⟩
abbrev m_X3_countRun : MD := (yX3_countRun, cX3_countRun, 11, none)
theorem mo_X3_countRun : MOk m_X3_countRun 3 := ⟨mem_t3 73 rfl rfl, mem_t1 7 rfl rfl, by decide +kernel, by decide⟩
theorem vo_X3_countRun : VOk yX3_countRun 3 := ⟨mem_t3 72 rfl rfl, mem_pv (n := 5) (List.mem_of_getElem? (i := 41) rfl), by decide, rfl⟩
abbrev m_X3_countWays : MD := (yX3_countWays, cX3_countWays, 7, (some FieldType.long))
theorem mo_X3_countWays : MOk m_X3_countWays 2 := ⟨mem_t3 69 rfl rfl, mem_t1 7 rfl rfl, by decide +kernel, by decide⟩
theorem vo_X3_countWays : VOk yX3_countWays 3 := ⟨mem_t3 68 rfl rfl, mem_pv (n := 5) (List.mem_of_getElem? (i := 40) rfl), by decide, rfl⟩
abbrev m_X4_fill : MD := (yX4_fill, cX4_fill, 7, none)
theorem mo_X4_fill : MOk m_X4_fill 0 := ⟨mem_t3 16 rfl rfl, mem_t1 9 rfl rfl, by decide +kernel, by decide⟩
theorem vo_X4_fill : VOk yX4_fill 4 := ⟨mem_t3 15 rfl rfl, mem_pv (n := 2) (List.mem_of_getElem? (i := 35) rfl), by decide, rfl⟩
abbrev m_X4_fix : MD := (yX4_fix, cX4_fix, 5, none)
theorem mo_X4_fix : MOk m_X4_fix 3 := ⟨mem_t3 27 rfl rfl, mem_t1 9 rfl rfl, by decide +kernel, by decide⟩
theorem vo_X4_fix : VOk yX4_fix 4 := ⟨mem_t3 26 rfl rfl, mem_pv (n := 2) (List.mem_of_getElem? (i := 37) rfl), by decide, rfl⟩
abbrev m_X4_tell : MD := (yX4_tell, cX4_tell, 5, none)
theorem mo_X4_tell : MOk m_X4_tell 1 := ⟨mem_t3 22 rfl rfl, mem_t1 9 rfl rfl, by decide +kernel, by decide⟩
theorem vo_X4_tell : VOk yX4_tell 4 := ⟨mem_t3 21 rfl rfl, mem_pv (n := 2) (List.mem_of_getElem? (i := 36) rfl), by decide, rfl⟩
abbrev m_X4_become : MD := (yX4_become, cX4_become, 2, none)
theorem mo_X4_become : MOk m_X4_become 1 := ⟨mem_t3 12 rfl rfl, mem_t1 9 rfl rfl, by decide +kernel, by decide⟩
theorem vo_X4_become : VOk yX4_become 4 := ⟨mem_t3 11 rfl rfl, mem_pv (n := 2) (List.mem_of_getElem? (i := 34) rfl), by decide, rfl⟩
abbrev m_X4_copy : MD := (yX4_copy, cX4_copy, 2, none)
theorem mo_X4_copy : MOk m_X4_copy 1 := ⟨mem_t3 113 rfl rfl, mem_t1 9 rfl rfl, by decide +kernel, by decide⟩
theorem vo_X4_copy : VOk yX4_copy 4 := ⟨mem_t3 112 rfl rfl, mem_pv (n := 2) (List.mem_of_getElem? (i := 47) rfl), by decide, rfl⟩
abbrev m_X4_saveTo : MD := (yX4_saveTo, cX4_saveTo, 3, none)
theorem mo_X4_saveTo : MOk m_X4_saveTo 2 := ⟨mem_t3 151 rfl rfl, mem_t1 9 rfl rfl, by decide +kernel, by decide⟩
theorem vo_X4_saveTo : VOk yX4_saveTo 4 := ⟨mem_t3 150 rfl rfl, mem_pv (n := 2) (List.mem_of_getElem? (i := 53) rfl), by decide, rfl⟩
abbrev m_X4_restoreFrom : MD := (yX4_restoreFrom, cX4_restoreFrom, 3, none)
theorem mo_X4_restoreFrom : MOk m_X4_restoreFrom 2 := ⟨mem_t3 177 rfl rfl, mem_t1 9 rfl rfl, by decide +kernel, by decide⟩
theorem vo_X4_restoreFrom : VOk yX4_restoreFrom 4 := ⟨mem_t3 176 rfl rfl, mem_pv (n := 2) (List.mem_of_getElem? (i := 58) rfl), by decide, rfl⟩
abbrev m_X4_drop : MD := (yX4_drop, cX4_drop, 4, none)
theorem mo_X4_drop : MOk m_X4_drop 3 := ⟨mem_t3 120 rfl rfl, mem_t1 9 rfl rfl, by decide +kernel, by decide⟩
theorem vo_X4_drop : VOk yX4_drop 4 := ⟨mem_t3 119 rfl rfl, mem_pv (n := 2) (List.mem_of_getElem? (i := 48) rfl), by decide, rfl⟩
abbrev m_X4_linesThrough : MD := (yX4_linesThrough, cX4_linesThrough, 3, (some FieldType.int))
theorem mo_X4_linesThrough : MOk m_X4_linesThrough 2 := ⟨mem_t3 107 rfl rfl, mem_t1 9 rfl rfl, by decide +kernel, by decide⟩
theorem vo_X4_linesThrough : VOk yX4_linesThrough 4 := ⟨mem_t3 106 rfl rfl, mem_pv (n := 2) (List.mem_of_getElem? (i := 46) rfl), by decide, rfl⟩
abbrev m_X4_narrow : MD := (yX4_narrow, cX4_narrow, 13, (some FieldType.int))
theorem mo_X4_narrow : MOk m_X4_narrow 2 := ⟨mem_t3 59 rfl rfl, mem_t1 9 rfl rfl, by decide +kernel, by decide⟩
theorem vo_X4_narrow : VOk yX4_narrow 4 := ⟨mem_t3 58 rfl rfl, mem_pv (n := 2) (List.mem_of_getElem? (i := 39) rfl), by decide, rfl⟩
abbrev m_J6_bitCount_0f7a4 : MD := (yJ6_bitCount_0f7a4, cJ6_bitCount_0f7a4, 1, (some FieldType.int))
theorem mo_J6_bitCount_0f7a4 : MOk m_J6_bitCount_0f7a4 1 := ⟨mem_t2 202 rfl rfl, mem_t1 13 rfl rfl, by decide +kernel, by decide⟩
theorem vo_J6_bitCount_0f7a4 : Cond.static yJ6_bitCount_0f7a4 ∈ gtb := mem_t2 201 rfl rfl
abbrev m_X4_countSingles : MD := (yX4_countSingles, cX4_countSingles, 4, (some FieldType.int))
theorem mo_X4_countSingles : MOk m_X4_countSingles 0 := ⟨mem_t2 191 rfl rfl, mem_t1 9 rfl rfl, by decide +kernel, by decide⟩
theorem vo_X4_countSingles : VOk yX4_countSingles 4 := ⟨mem_t2 190 rfl rfl, mem_pv (n := 2) (List.mem_of_getElem? (i := 26) rfl), by decide, rfl⟩
abbrev m_X4_firstOfFewest : MD := (yX4_firstOfFewest, cX4_firstOfFewest, 6, (some FieldType.int))
theorem mo_X4_firstOfFewest : MOk m_X4_firstOfFewest 0 := ⟨mem_t3 147 rfl rfl, mem_t1 9 rfl rfl, by decide +kernel, by decide⟩
theorem vo_X4_firstOfFewest : VOk yX4_firstOfFewest 4 := ⟨mem_t3 146 rfl rfl, mem_pv (n := 2) (List.mem_of_getElem? (i := 52) rfl), by decide, rfl⟩
abbrev m_X5_settle : MD := (yX5_settle, cX5_settle, 10, (some FieldType.int))
theorem mo_X5_settle : MOk m_X5_settle 2 := ⟨mem_t3 87 rfl rfl, mem_t1 8 rfl rfl, by decide +kernel, by decide⟩
theorem vo_X5_settle : VOk yX5_settle 5 := ⟨mem_t3 86 rfl rfl, mem_pv (n := 8) (List.mem_of_getElem? (i := 43) rfl), by decide, rfl⟩
abbrev m_X5_siftCell : MD := (yX5_siftCell, cX5_siftCell, 8, (some FieldType.int))
theorem mo_X5_siftCell : MOk m_X5_siftCell 3 := ⟨mem_t3 103 rfl rfl, mem_t1 8 rfl rfl, by decide +kernel, by decide⟩
theorem vo_X5_siftCell : VOk yX5_siftCell 5 := ⟨mem_t3 102 rfl rfl, mem_pv (n := 8) (List.mem_of_getElem? (i := 45) rfl), by decide, rfl⟩
abbrev m_X5_sift : MD := (yX5_sift, cX5_sift, 8, (some FieldType.int))
theorem mo_X5_sift : MOk m_X5_sift 1 := ⟨mem_t3 99 rfl rfl, mem_t1 8 rfl rfl, by decide +kernel, by decide⟩
theorem vo_X5_sift : VOk yX5_sift 5 := ⟨mem_t3 98 rfl rfl, mem_pv (n := 8) (List.mem_of_getElem? (i := 44) rfl), by decide, rfl⟩
abbrev m_X5_closeEmptyChoices : MD := (yX5_closeEmptyChoices, cX5_closeEmptyChoices, 1, none)
theorem mo_X5_closeEmptyChoices : MOk m_X5_closeEmptyChoices 0 := ⟨mem_t3 168 rfl rfl, mem_t1 8 rfl rfl, by decide +kernel, by decide⟩
theorem vo_X5_closeEmptyChoices : VOk yX5_closeEmptyChoices 5 := ⟨mem_t3 167 rfl rfl, mem_pv (n := 8) (List.mem_of_getElem? (i := 56) rfl), by decide, rfl⟩
abbrev m_X5_followsChoice : MD := (yX5_followsChoice, cX5_followsChoice, 5, (some FieldType.boolean))
theorem mo_X5_followsChoice : MOk m_X5_followsChoice 0 := ⟨mem_t3 172 rfl rfl, mem_t1 8 rfl rfl, by decide +kernel, by decide⟩
theorem vo_X5_followsChoice : VOk yX5_followsChoice 5 := ⟨mem_t3 171 rfl rfl, mem_pv (n := 8) (List.mem_of_getElem? (i := 57) rfl), by decide, rfl⟩
abbrev m_X5_opensChoice : MD := (yX5_opensChoice, cX5_opensChoice, 2, (some FieldType.boolean))
theorem mo_X5_opensChoice : MOk m_X5_opensChoice 0 := ⟨mem_t3 143 rfl rfl, mem_t1 8 rfl rfl, by decide +kernel, by decide⟩
theorem vo_X5_opensChoice : VOk yX5_opensChoice 5 := ⟨mem_t3 142 rfl rfl, mem_pv (n := 8) (List.mem_of_getElem? (i := 51) rfl), by decide, rfl⟩
abbrev m_X5_seek : MD := (yX5_seek, cX5_seek, 7, none)
theorem mo_X5_seek : MOk m_X5_seek 4 := ⟨mem_t3 133 rfl rfl, mem_t1 8 rfl rfl, by decide +kernel, by decide⟩
theorem vo_X5_seek : VOk yX5_seek 5 := ⟨mem_t3 132 rfl rfl, mem_pv (n := 8) (List.mem_of_getElem? (i := 49) rfl), by decide, rfl⟩
abbrev m_X5_judge : MD := (yX5_judge, cX5_judge, 3, (some FieldType.int))
theorem mo_X5_judge : MOk m_X5_judge 2 := ⟨mem_t3 198 rfl rfl, mem_t1 8 rfl rfl, by decide +kernel, by decide⟩
theorem vo_X5_judge : VOk yX5_judge 5 := ⟨mem_t3 197 rfl rfl, mem_pv (n := 8) (List.mem_of_getElem? (i := 60) rfl), by decide, rfl⟩
abbrev m_X6_append : MD := (yX6_append, cX6_append, 3, none)
theorem mo_X6_append : MOk m_X6_append 1 := ⟨mem_t2 47 rfl rfl, mem_t1 2 rfl rfl, by decide +kernel, by decide⟩
theorem vo_X6_append : VOk yX6_append 6 := ⟨mem_t2 46 rfl rfl, mem_pv (n := 2) (List.mem_of_getElem? (i := 0) rfl), by decide, rfl⟩
abbrev m_X6_byteAt : MD := (yX6_byteAt, cX6_byteAt, 2, (some FieldType.int))
theorem mo_X6_byteAt : MOk m_X6_byteAt 1 := ⟨mem_t2 67 rfl rfl, mem_t1 2 rfl rfl, by decide +kernel, by decide⟩
theorem vo_X6_byteAt : VOk yX6_byteAt 6 := ⟨mem_t2 66 rfl rfl, mem_pv (n := 2) (List.mem_of_getElem? (i := 3) rfl), by decide, rfl⟩
abbrev m_X7_isDigit : MD := (yX7_isDigit, cX7_isDigit, 1, (some FieldType.boolean))
theorem mo_X7_isDigit : MOk m_X7_isDigit 1 := ⟨mem_t2 70 rfl rfl, mem_t1 4 rfl rfl, by decide +kernel, by decide⟩
theorem vo_X7_isDigit : Cond.static yX7_isDigit ∈ gtb := mem_t2 69 rfl rfl
abbrev m_X7_endOfDigits : MD := (yX7_endOfDigits, cX7_endOfDigits, 3, (some FieldType.int))
theorem mo_X7_endOfDigits : MOk m_X7_endOfDigits 1 := ⟨mem_t2 88 rfl rfl, mem_t1 4 rfl rfl, by decide +kernel, by decide⟩
theorem vo_X7_endOfDigits : VOk yX7_endOfDigits 7 := ⟨mem_t2 87 rfl rfl, mem_pv (n := 8) (List.mem_of_getElem? (i := 6) rfl), by decide, rfl⟩
abbrev m_X7_isLetter : MD := (yX7_isLetter, cX7_isLetter, 1, (some FieldType.boolean))
theorem mo_X7_isLetter : MOk m_X7_isLetter 1 := ⟨mem_t2 73 rfl rfl, mem_t1 4 rfl rfl, by decide +kernel, by decide⟩
theorem vo_X7_isLetter : Cond.static yX7_isLetter ∈ gtb := mem_t2 72 rfl rfl
abbrev m_X7_isSpace : MD := (yX7_isSpace, cX7_isSpace, 1, (some FieldType.boolean))
theorem mo_X7_isSpace : MOk m_X7_isSpace 1 := ⟨mem_t2 76 rfl rfl, mem_t1 4 rfl rfl, by decide +kernel, by decide⟩
theorem vo_X7_isSpace : Cond.static yX7_isSpace ∈ gtb := mem_t2 75 rfl rfl
abbrev m_X7_advance : MD := (yX7_advance, cX7_advance, 3, none)
theorem mo_X7_advance : MOk m_X7_advance 0 := ⟨mem_t2 84 rfl rfl, mem_t1 4 rfl rfl, by decide +kernel, by decide⟩
theorem vo_X7_advance : VOk yX7_advance 7 := ⟨mem_t2 83 rfl rfl, mem_pv (n := 8) (List.mem_of_getElem? (i := 5) rfl), by decide, rfl⟩
abbrev m_X7_refuse : MD := (yX7_refuse, cX7_refuse, 2, (some FieldType.boolean))
theorem mo_X7_refuse : MOk m_X7_refuse 1 := ⟨mem_t2 80 rfl rfl, mem_t1 4 rfl rfl, by decide +kernel, by decide⟩
theorem vo_X7_refuse : VOk yX7_refuse 7 := ⟨mem_t2 79 rfl rfl, mem_pv (n := 8) (List.mem_of_getElem? (i := 4) rfl), by decide, rfl⟩
abbrev m_X7_cutsClean : MD := (yX7_cutsClean, cX7_cutsClean, 5, (some FieldType.boolean))
theorem mo_X7_cutsClean : MOk m_X7_cutsClean 0 := ⟨mem_t2 63 rfl rfl, mem_t1 4 rfl rfl, by decide +kernel, by decide⟩
theorem vo_X7_cutsClean : VOk yX7_cutsClean 7 := ⟨mem_t2 62 rfl rfl, mem_pv (n := 8) (List.mem_of_getElem? (i := 2) rfl), by decide, rfl⟩
abbrev m_X8_isSize : MD := (yX8_isSize, cX8_isSize, 2, (some FieldType.boolean))
theorem mo_X8_isSize : MOk m_X8_isSize 2 := ⟨mem_t2 99 rfl rfl, mem_t1 1 rfl rfl, by decide +kernel, by decide⟩
theorem vo_X8_isSize : Cond.static yX8_isSize ∈ gtb := mem_t2 98 rfl rfl
abbrev m_X7_sizeRead : MD := (yX7_sizeRead, cX7_sizeRead, 3, (some FieldType.int))
theorem mo_X7_sizeRead : MOk m_X7_sizeRead 1 := ⟨mem_t2 96 rfl rfl, mem_t1 4 rfl rfl, by decide +kernel, by decide⟩
theorem vo_X7_sizeRead : VOk yX7_sizeRead 7 := ⟨mem_t2 95 rfl rfl, mem_pv (n := 8) (List.mem_of_getElem? (i := 8) rfl), by decide, rfl⟩
abbrev m_X7_readsHead : MD := (yX7_readsHead, cX7_readsHead, 4, (some FieldType.boolean))
theorem mo_X7_readsHead : MOk m_X7_readsHead 0 := ⟨mem_t2 92 rfl rfl, mem_t1 4 rfl rfl, by decide +kernel, by decide⟩
theorem vo_X7_readsHead : VOk yX7_readsHead 7 := ⟨mem_t2 91 rfl rfl, mem_pv (n := 8) (List.mem_of_getElem? (i := 7) rfl), by decide, rfl⟩
abbrev m_X7_readsRun : MD := (yX7_readsRun, cX7_readsRun, 5, (some FieldType.boolean))
theorem mo_X7_readsRun : MOk m_X7_readsRun 2 := ⟨mem_t2 116 rfl rfl, mem_t1 4 rfl rfl, by decide +kernel, by decide⟩
theorem vo_X7_readsRun : VOk yX7_readsRun 7 := ⟨mem_t2 115 rfl rfl, mem_pv (n := 8) (List.mem_of_getElem? (i := 12) rfl), by decide, rfl⟩
abbrev m_X7_readsLine : MD := (yX7_readsLine, cX7_readsLine, 3, (some FieldType.boolean))
theorem mo_X7_readsLine : MOk m_X7_readsLine 1 := ⟨mem_t2 112 rfl rfl, mem_t1 4 rfl rfl, by decide +kernel, by decide⟩
theorem vo_X7_readsLine : VOk yX7_readsLine 7 := ⟨mem_t2 111 rfl rfl, mem_pv (n := 8) (List.mem_of_getElem? (i := 11) rfl), by decide, rfl⟩
abbrev m_X7_readsAll : MD := (yX7_readsAll, cX7_readsAll, 2, (some FieldType.boolean))
theorem mo_X7_readsAll : MOk m_X7_readsAll 0 := ⟨mem_t2 59 rfl rfl, mem_t1 4 rfl rfl, by decide +kernel, by decide⟩
theorem vo_X7_readsAll : VOk yX7_readsAll 7 := ⟨mem_t2 58 rfl rfl, mem_pv (n := 8) (List.mem_of_getElem? (i := 1) rfl), by decide, rfl⟩
abbrev m_X8_feed : MD := (yX8_feed, cX8_feed, 6, (some FieldType.int))
theorem mo_X8_feed : MOk m_X8_feed 5 := ⟨mem_t2 43 rfl rfl, mem_t1 1 rfl rfl, by decide +kernel, by decide⟩
theorem vo_X8_feed : VOk yX8_feed 8 := ⟨mem_t2 41 rfl rfl, mem_t2 42 rfl rfl, by decide, rfl⟩
abbrev m_X8_end : MD := (yX8_end, cX8_end, 2, (some FieldType.int))
theorem mo_X8_end : MOk m_X8_end 1 := ⟨mem_t2 51 rfl rfl, mem_t1 1 rfl rfl, by decide +kernel, by decide⟩
theorem vo_X8_end : VOk yX8_end 8 := ⟨mem_t2 49 rfl rfl, mem_t2 50 rfl rfl, by decide, rfl⟩
abbrev m_X8_beginPuzzle : MD := (yX8_beginPuzzle, cX8_beginPuzzle, 1, none)
theorem mo_X8_beginPuzzle : MOk m_X8_beginPuzzle 0 := ⟨mem_t2 164 rfl rfl, mem_t1 1 rfl rfl, by decide +kernel, by decide⟩
theorem vo_X8_beginPuzzle : VOk yX8_beginPuzzle 8 := ⟨mem_t2 163 rfl rfl, mem_pv (n := 14) (List.mem_of_getElem? (i := 23) rfl), by decide, rfl⟩
abbrev m_X8_load : MD := (yX8_load, cX8_load, 2, (some FieldType.int))
theorem mo_X8_load : MOk m_X8_load 0 := ⟨mem_t2 55 rfl rfl, mem_t1 1 rfl rfl, by decide +kernel, by decide⟩
theorem vo_X8_load : VOk yX8_load 8 := ⟨mem_t2 53 rfl rfl, mem_t2 54 rfl rfl, by decide, rfl⟩
abbrev m_X8_fault : MD := (yX8_fault, cX8_fault, 1, (some FieldType.int))
theorem mo_X8_fault : MOk m_X8_fault 0 := ⟨mem_t2 172 rfl rfl, mem_t1 1 rfl rfl, by decide +kernel, by decide⟩
theorem vo_X8_fault : VOk yX8_fault 8 := ⟨mem_t2 170 rfl rfl, mem_t2 171 rfl rfl, by decide, rfl⟩
abbrev m_X8_blank : MD := (yX8_blank, cX8_blank, 4, (some FieldType.boolean))
theorem mo_X8_blank : MOk m_X8_blank 3 := ⟨mem_t2 176 rfl rfl, mem_t1 1 rfl rfl, by decide +kernel, by decide⟩
theorem vo_X8_blank : VOk yX8_blank 8 := ⟨mem_t2 174 rfl rfl, mem_t2 175 rfl rfl, by decide, rfl⟩
abbrev m_X8_hasPuzzle : MD := (yX8_hasPuzzle, cX8_hasPuzzle, 1, (some FieldType.boolean))
theorem mo_X8_hasPuzzle : MOk m_X8_hasPuzzle 0 := ⟨mem_t2 186 rfl rfl, mem_t1 1 rfl rfl, by decide +kernel, by decide⟩
theorem vo_X8_hasPuzzle : VOk yX8_hasPuzzle 8 := ⟨mem_t2 185 rfl rfl, mem_pv (n := 14) (List.mem_of_getElem? (i := 25) rfl), by decide, rfl⟩
abbrev m_X8_about : MD := (yX8_about, cX8_about, 2, (some FieldType.int))
theorem mo_X8_about : MOk m_X8_about 1 := ⟨mem_t2 182 rfl rfl, mem_t1 1 rfl rfl, by decide +kernel, by decide⟩
theorem vo_X8_about : VOk yX8_about 8 := ⟨mem_t2 180 rfl rfl, mem_t2 181 rfl rfl, by decide, rfl⟩
abbrev m_X8_isLine : MD := (yX8_isLine, cX8_isLine, 2, (some FieldType.boolean))
theorem mo_X8_isLine : MOk m_X8_isLine 1 := ⟨mem_t2 213 rfl rfl, mem_t1 1 rfl rfl, by decide +kernel, by decide⟩
theorem vo_X8_isLine : VOk yX8_isLine 8 := ⟨mem_t2 212 rfl rfl, mem_pv (n := 14) (List.mem_of_getElem? (i := 28) rfl), by decide, rfl⟩
abbrev m_X8_run : MD := (yX8_run, cX8_run, 4, (some FieldType.int))
theorem mo_X8_run : MOk m_X8_run 3 := ⟨mem_t2 209 rfl rfl, mem_t1 1 rfl rfl, by decide +kernel, by decide⟩
theorem vo_X8_run : VOk yX8_run 8 := ⟨mem_t2 207 rfl rfl, mem_t2 208 rfl rfl, by decide, rfl⟩
abbrev m_X8_isCell : MD := (yX8_isCell, cX8_isCell, 3, (some FieldType.boolean))
theorem mo_X8_isCell : MOk m_X8_isCell 2 := ⟨mem_t2 223 rfl rfl, mem_t1 1 rfl rfl, by decide +kernel, by decide⟩
theorem vo_X8_isCell : VOk yX8_isCell 8 := ⟨mem_t2 222 rfl rfl, mem_pv (n := 14) (List.mem_of_getElem? (i := 29) rfl), by decide, rfl⟩
abbrev m_X8_isValueOrNone : MD := (yX8_isValueOrNone, cX8_isValueOrNone, 2, (some FieldType.boolean))
theorem mo_X8_isValueOrNone : MOk m_X8_isValueOrNone 1 := ⟨mem_t2 227 rfl rfl, mem_t1 1 rfl rfl, by decide +kernel, by decide⟩
theorem vo_X8_isValueOrNone : VOk yX8_isValueOrNone 8 := ⟨mem_t2 226 rfl rfl, mem_pv (n := 14) (List.mem_of_getElem? (i := 30) rfl), by decide, rfl⟩
abbrev m_X8_give : MD := (yX8_give, cX8_give, 4, (some FieldType.boolean))
theorem mo_X8_give : MOk m_X8_give 3 := ⟨mem_t2 219 rfl rfl, mem_t1 1 rfl rfl, by decide +kernel, by decide⟩
theorem vo_X8_give : VOk yX8_give 8 := ⟨mem_t2 217 rfl rfl, mem_t2 218 rfl rfl, by decide, rfl⟩
abbrev m_X8_given : MD := (yX8_given, cX8_given, 3, (some FieldType.int))
theorem mo_X8_given : MOk m_X8_given 2 := ⟨mem_t3 3 rfl rfl, mem_t1 1 rfl rfl, by decide +kernel, by decide⟩
theorem vo_X8_given : VOk yX8_given 8 := ⟨mem_t3 1 rfl rfl, mem_t3 2 rfl rfl, by decide, rfl⟩
abbrev m_X8_fresh : MD := (yX8_fresh, cX8_fresh, 1, (some FieldType.boolean))
theorem mo_X8_fresh : MOk m_X8_fresh 0 := ⟨mem_t3 8 rfl rfl, mem_t1 1 rfl rfl, by decide +kernel, by decide⟩
theorem vo_X8_fresh : VOk yX8_fresh 8 := ⟨mem_t3 6 rfl rfl, mem_t3 7 rfl rfl, by decide, rfl⟩
abbrev m_X8_rule : MD := (yX8_rule, cX8_rule, 4, (some FieldType.int))
theorem mo_X8_rule : MOk m_X8_rule 1 := ⟨mem_t3 32 rfl rfl, mem_t1 1 rfl rfl, by decide +kernel, by decide⟩
theorem vo_X8_rule : VOk yX8_rule 8 := ⟨mem_t3 30 rfl rfl, mem_t3 31 rfl rfl, by decide, rfl⟩
abbrev m_X8_ways : MD := (yX8_ways, cX8_ways, 2, (some FieldType.long))
theorem mo_X8_ways : MOk m_X8_ways 1 := ⟨mem_t3 64 rfl rfl, mem_t1 1 rfl rfl, by decide +kernel, by decide⟩
theorem vo_X8_ways : VOk yX8_ways 8 := ⟨mem_t3 62 rfl rfl, mem_t3 63 rfl rfl, by decide, rfl⟩
abbrev m_X8_rest : MD := (yX8_rest, cX8_rest, 1, (some FieldType.int))
theorem mo_X8_rest : MOk m_X8_rest 0 := ⟨mem_t3 78 rfl rfl, mem_t1 1 rfl rfl, by decide +kernel, by decide⟩
theorem vo_X8_rest : VOk yX8_rest 8 := ⟨mem_t3 76 rfl rfl, mem_t3 77 rfl rfl, by decide, rfl⟩
abbrev m_X8_tries : MD := (yX8_tries, cX8_tries, 2, (some FieldType.int))
theorem mo_X8_tries : MOk m_X8_tries 0 := ⟨mem_t3 94 rfl rfl, mem_t1 1 rfl rfl, by decide +kernel, by decide⟩
theorem vo_X8_tries : VOk yX8_tries 8 := ⟨mem_t3 92 rfl rfl, mem_t3 93 rfl rfl, by decide, rfl⟩
abbrev m_X8_set : MD := (yX8_set, cX8_set, 3, (some FieldType.int))
theorem mo_X8_set : MOk m_X8_set 2 := ⟨mem_t3 124 rfl rfl, mem_t1 1 rfl rfl, by decide +kernel, by decide⟩
theorem vo_X8_set : VOk yX8_set 8 := ⟨mem_t3 122 rfl rfl, mem_t3 123 rfl rfl, by decide, rfl⟩
abbrev m_X8_search : MD := (yX8_search, cX8_search, 3, (some FieldType.int))
theorem mo_X8_search : MOk m_X8_search 2 := ⟨mem_t3 129 rfl rfl, mem_t1 1 rfl rfl, by decide +kernel, by decide⟩
theorem vo_X8_search : VOk yX8_search 8 := ⟨mem_t3 127 rfl rfl, mem_t3 128 rfl rfl, by decide, rfl⟩
abbrev m_X8_nodes : MD := (yX8_nodes, cX8_nodes, 1, (some FieldType.int))
theorem mo_X8_nodes : MOk m_X8_nodes 0 := ⟨mem_t3 181 rfl rfl, mem_t1 1 rfl rfl, by decide +kernel, by decide⟩
theorem vo_X8_nodes : VOk yX8_nodes 8 := ⟨mem_t3 179 rfl rfl, mem_t3 180 rfl rfl, by decide, rfl⟩
abbrev m_X8_solution : MD := (yX8_solution, cX8_solution, 4, (some FieldType.int))
theorem mo_X8_solution : MOk m_X8_solution 3 := ⟨mem_t3 185 rfl rfl, mem_t1 1 rfl rfl, by decide +kernel, by decide⟩
theorem vo_X8_solution : VOk yX8_solution 8 := ⟨mem_t3 183 rfl rfl, mem_t3 184 rfl rfl, by decide, rfl⟩
abbrev m_X8_level : MD := (yX8_level, cX8_level, 1, (some FieldType.int))
theorem mo_X8_level : MOk m_X8_level 0 := ⟨mem_t3 194 rfl rfl, mem_t1 1 rfl rfl, by decide +kernel, by decide⟩
theorem vo_X8_level : VOk yX8_level 8 := ⟨mem_t3 192 rfl rfl, mem_t3 193 rfl rfl, by decide, rfl⟩
abbrev m_X8_mark : MD := (yX8_mark, cX8_mark, 4, (some FieldType.boolean))
theorem mo_X8_mark : MOk m_X8_mark 3 := ⟨mem_t3 204 rfl rfl, mem_t1 1 rfl rfl, by decide +kernel, by decide⟩
theorem vo_X8_mark : VOk yX8_mark 8 := ⟨mem_t3 202 rfl rfl, mem_t3 203 rfl rfl, by decide, rfl⟩
abbrev m_X8_marked : MD := (yX8_marked, cX8_marked, 3, (some FieldType.int))
theorem mo_X8_marked : MOk m_X8_marked 2 := ⟨mem_t3 208 rfl rfl, mem_t1 1 rfl rfl, by decide +kernel, by decide⟩
theorem vo_X8_marked : VOk yX8_marked 8 := ⟨mem_t3 206 rfl rfl, mem_t3 207 rfl rfl, by decide, rfl⟩
abbrev m_X8_areGivensMarked : MD := (yX8_areGivensMarked, cX8_areGivensMarked, 4, (some FieldType.boolean))
theorem mo_X8_areGivensMarked : MOk m_X8_areGivensMarked 0 := ⟨mem_t4 12 rfl rfl, mem_t1 1 rfl rfl, by decide +kernel, by decide⟩
theorem vo_X8_areGivensMarked : VOk yX8_areGivensMarked 8 := ⟨mem_t4 11 rfl rfl, mem_pv (n := 14) (List.mem_of_getElem? (i := 69) rfl), by decide, rfl⟩
abbrev m_X8_draftFromMarks : MD := (yX8_draftFromMarks, cX8_draftFromMarks, 2, none)
theorem mo_X8_draftFromMarks : MOk m_X8_draftFromMarks 0 := ⟨mem_t3 216 rfl rfl, mem_t1 1 rfl rfl, by decide +kernel, by decide⟩
theorem vo_X8_draftFromMarks : VOk yX8_draftFromMarks 8 := ⟨mem_t3 215 rfl rfl, mem_pv (n := 14) (List.mem_of_getElem? (i := 61) rfl), by decide, rfl⟩
abbrev m_X8_done : MD := (yX8_done, cX8_done, 1, (some FieldType.int))
theorem mo_X8_done : MOk m_X8_done 0 := ⟨mem_t3 212 rfl rfl, mem_t1 1 rfl rfl, by decide +kernel, by decide⟩
theorem vo_X8_done : VOk yX8_done 8 := ⟨mem_t3 210 rfl rfl, mem_t3 211 rfl rfl, by decide, rfl⟩
abbrev m_X8_wrong : MD := (yX8_wrong, cX8_wrong, 5, (some FieldType.int))
theorem mo_X8_wrong : MOk m_X8_wrong 0 := ⟨mem_t4 17 rfl rfl, mem_t1 1 rfl rfl, by decide +kernel, by decide⟩
theorem vo_X8_wrong : VOk yX8_wrong 8 := ⟨mem_t4 15 rfl rfl, mem_t4 16 rfl rfl, by decide, rfl⟩
abbrev m_X8_hintOf : MD := (yX8_hintOf, cX8_hintOf, 9, (some FieldType.int))
theorem mo_X8_hintOf : MOk m_X8_hintOf 2 := ⟨mem_t4 27 rfl rfl, mem_t1 1 rfl rfl, by decide +kernel, by decide⟩
theorem vo_X8_hintOf : VOk yX8_hintOf 8 := ⟨mem_t4 26 rfl rfl, mem_pv (n := 14) (List.mem_of_getElem? (i := 70) rfl), by decide, rfl⟩
abbrev m_X8_hint : MD := (yX8_hint, cX8_hint, 5, (some FieldType.int))
theorem mo_X8_hint : MOk m_X8_hint 0 := ⟨mem_t4 21 rfl rfl, mem_t1 1 rfl rfl, by decide +kernel, by decide⟩
theorem vo_X8_hint : VOk yX8_hint 8 := ⟨mem_t4 19 rfl rfl, mem_t4 20 rfl rfl, by decide, rfl⟩
abbrev m_X8_draw : MD := (yX8_draw, cX8_draw, 1, (some FieldType.int))
theorem mo_X8_draw : MOk m_X8_draw 0 := ⟨mem_t4 36 rfl rfl, mem_t1 1 rfl rfl, by decide +kernel, by decide⟩
theorem vo_X8_draw : VOk yX8_draw 8 := ⟨mem_t4 34 rfl rfl, mem_t4 35 rfl rfl, by decide, rfl⟩
abbrev m_X8_giveFirstUnlike : MD := (yX8_giveFirstUnlike, cX8_giveFirstUnlike, 3, none)
theorem mo_X8_giveFirstUnlike : MOk m_X8_giveFirstUnlike 0 := ⟨mem_t4 45 rfl rfl, mem_t1 1 rfl rfl, by decide +kernel, by decide⟩
theorem vo_X8_giveFirstUnlike : VOk yX8_giveFirstUnlike 8 := ⟨mem_t4 44 rfl rfl, mem_pv (n := 14) (List.mem_of_getElem? (i := 71) rfl), by decide, rfl⟩
abbrev m_X8_mend : MD := (yX8_mend, cX8_mend, 3, (some FieldType.int))
theorem mo_X8_mend : MOk m_X8_mend 0 := ⟨mem_t4 40 rfl rfl, mem_t1 1 rfl rfl, by decide +kernel, by decide⟩
theorem vo_X8_mend : VOk yX8_mend 8 := ⟨mem_t4 38 rfl rfl, mem_t4 39 rfl rfl, by decide, rfl⟩
abbrev m_X9_in : MD := (yX9_in, cX9_in, 3, (some FieldType.boolean))
theorem mo_X9_in : MOk m_X9_in 3 := ⟨mem_t4 218 rfl rfl, mem_t1 11 rfl rfl, by decide +kernel, by decide⟩
theorem vo_X9_in : Cond.static yX9_in ∈ gtb := mem_t4 217 rfl rfl
abbrev m_X9_is : MD := (yX9_is, cX9_is, 1, (some FieldType.boolean))
theorem mo_X9_is : MOk m_X9_is 0 := ⟨mem_t5 50 rfl rfl, mem_t1 11 rfl rfl, by decide +kernel, by decide⟩
theorem vo_X9_is : VOk yX9_is 9 := ⟨mem_t5 49 rfl rfl, mem_pv (n := 50) (List.mem_of_getElem? (i := 86) rfl), by decide, rfl⟩
abbrev m_X9_lines : MD := (yX9_lines, cX9_lines, 1, (some FieldType.int))
theorem mo_X9_lines : MOk m_X9_lines 0 := ⟨mem_t5 34 rfl rfl, mem_t1 11 rfl rfl, by decide +kernel, by decide⟩
theorem vo_X9_lines : VOk yX9_lines 9 := ⟨mem_t5 33 rfl rfl, mem_pv (n := 50) (List.mem_of_getElem? (i := 85) rfl), by decide, rfl⟩
abbrev m_X9_isLine : MD := (yX9_isLine, cX9_isLine, 2, (some FieldType.boolean))
theorem mo_X9_isLine : MOk m_X9_isLine 1 := ⟨mem_t5 65 rfl rfl, mem_t1 11 rfl rfl, by decide +kernel, by decide⟩
theorem vo_X9_isLine : VOk yX9_isLine 9 := ⟨mem_t5 64 rfl rfl, mem_pv (n := 50) (List.mem_of_getElem? (i := 88) rfl), by decide, rfl⟩
abbrev m_X9_isCell : MD := (yX9_isCell, cX9_isCell, 3, (some FieldType.boolean))
theorem mo_X9_isCell : MOk m_X9_isCell 2 := ⟨mem_t5 54 rfl rfl, mem_t1 11 rfl rfl, by decide +kernel, by decide⟩
theorem vo_X9_isCell : VOk yX9_isCell 9 := ⟨mem_t5 53 rfl rfl, mem_pv (n := 50) (List.mem_of_getElem? (i := 87) rfl), by decide, rfl⟩
abbrev m_X9_sizeOf : MD := (yX9_sizeOf, cX9_sizeOf, 2, (some FieldType.int))
theorem mo_X9_sizeOf : MOk m_X9_sizeOf 1 := ⟨mem_t5 101 rfl rfl, mem_t1 11 rfl rfl, by decide +kernel, by decide⟩
theorem vo_X9_sizeOf : VOk yX9_sizeOf 9 := ⟨mem_t5 100 rfl rfl, mem_pv (n := 50) (List.mem_of_getElem? (i := 93) rfl), by decide, rfl⟩
abbrev m_X9_cellOf : MD := (yX9_cellOf, cX9_cellOf, 3, (some FieldType.int))
theorem mo_X9_cellOf : MOk m_X9_cellOf 2 := ⟨mem_t5 109 rfl rfl, mem_t1 11 rfl rfl, by decide +kernel, by decide⟩
theorem vo_X9_cellOf : VOk yX9_cellOf 9 := ⟨mem_t5 108 rfl rfl, mem_pv (n := 50) (List.mem_of_getElem? (i := 95) rfl), by decide, rfl⟩
abbrev m_X9_inOrder : MD := (yX9_inOrder, cX9_inOrder, 2, (some FieldType.int))
theorem mo_X9_inOrder : MOk m_X9_inOrder 1 := ⟨mem_t5 138 rfl rfl, mem_t1 11 rfl rfl, by decide +kernel, by decide⟩
theorem vo_X9_inOrder : VOk yX9_inOrder 9 := ⟨mem_t5 137 rfl rfl, mem_pv (n := 50) (List.mem_of_getElem? (i := 99) rfl), by decide, rfl⟩
abbrev m_X9_isNew : MD := (yX9_isNew, cX9_isNew, 2, none)
theorem mo_X9_isNew : MOk m_X9_isNew 0 := ⟨mem_t5 22 rfl rfl, mem_t1 11 rfl rfl, by decide +kernel, by decide⟩
theorem vo_X9_isNew : VOk yX9_isNew 9 := ⟨mem_t5 21 rfl rfl, mem_pv (n := 50) (List.mem_of_getElem? (i := 82) rfl), by decide, rfl⟩
abbrev m_X9_noMarks : MD := (yX9_noMarks, cX9_noMarks, 2, none)
theorem mo_X9_noMarks : MOk m_X9_noMarks 0 := ⟨mem_t5 26 rfl rfl, mem_t1 11 rfl rfl, by decide +kernel, by decide⟩
theorem vo_X9_noMarks : VOk yX9_noMarks 9 := ⟨mem_t5 25 rfl rfl, mem_pv (n := 50) (List.mem_of_getElem? (i := 83) rfl), by decide, rfl⟩
abbrev m_X9_runMany : MD := (yX9_runMany, cX9_runMany, 3, (some FieldType.int))
theorem mo_X9_runMany : MOk m_X9_runMany 0 := ⟨mem_t5 30 rfl rfl, mem_t1 11 rfl rfl, by decide +kernel, by decide⟩
theorem vo_X9_runMany : VOk yX9_runMany 9 := ⟨mem_t5 29 rfl rfl, mem_pv (n := 50) (List.mem_of_getElem? (i := 84) rfl), by decide, rfl⟩
abbrev m_X9_four : MD := (yX9_four, cX9_four, 3, none)
theorem mo_X9_four : MOk m_X9_four 1 := ⟨mem_t4 211 rfl rfl, mem_t1 11 rfl rfl, by decide +kernel, by decide⟩
theorem vo_X9_four : VOk yX9_four 9 := ⟨mem_t4 210 rfl rfl, mem_pv (n := 50) (List.mem_of_getElem? (i := 72) rfl), by decide, rfl⟩
abbrev m_X9_feed : MD := (yX9_feed, cX9_feed, 6, (some FieldType.int))
theorem mo_X9_feed : MOk m_X9_feed 5 := ⟨mem_t4 207 rfl rfl, mem_t1 11 rfl rfl, by decide +kernel, by decide⟩
theorem vo_X9_feed : VOk yX9_feed 9 := ⟨mem_t4 205 rfl rfl, mem_t4 206 rfl rfl, by decide, rfl⟩
abbrev m_X9_end : MD := (yX9_end, cX9_end, 2, (some FieldType.int))
theorem mo_X9_end : MOk m_X9_end 1 := ⟨mem_t4 215 rfl rfl, mem_t1 11 rfl rfl, by decide +kernel, by decide⟩
theorem vo_X9_end : VOk yX9_end 9 := ⟨mem_t4 213 rfl rfl, mem_t4 214 rfl rfl, by decide, rfl⟩
abbrev m_X9_fails : MD := (yX9_fails, cX9_fails, 3, none)
theorem mo_X9_fails : MOk m_X9_fails 2 := ⟨mem_t4 234 rfl rfl, mem_t1 11 rfl rfl, by decide +kernel, by decide⟩
theorem vo_X9_fails : VOk yX9_fails 9 := ⟨mem_t4 233 rfl rfl, mem_pv (n := 50) (List.mem_of_getElem? (i := 75) rfl), by decide, rfl⟩
abbrev m_X9_good : MD := (yX9_good, cX9_good, 1, (some FieldType.boolean))
theorem mo_X9_good : MOk m_X9_good 0 := ⟨mem_t4 230 rfl rfl, mem_t1 11 rfl rfl, by decide +kernel, by decide⟩
theorem vo_X9_good : VOk yX9_good 9 := ⟨mem_t4 229 rfl rfl, mem_pv (n := 50) (List.mem_of_getElem? (i := 74) rfl), by decide, rfl⟩
abbrev m_X9_token : MD := (yX9_token, cX9_token, 4, none)
theorem mo_X9_token : MOk m_X9_token 3 := ⟨mem_t4 238 rfl rfl, mem_t1 11 rfl rfl, by decide +kernel, by decide⟩
theorem vo_X9_token : VOk yX9_token 9 := ⟨mem_t4 237 rfl rfl, mem_pv (n := 50) (List.mem_of_getElem? (i := 76) rfl), by decide, rfl⟩
abbrev m_X9_cut : MD := (yX9_cut, cX9_cut, 5, none)
theorem mo_X9_cut : MOk m_X9_cut 0 := ⟨mem_t4 226 rfl rfl, mem_t1 11 rfl rfl, by decide +kernel, by decide⟩
theorem vo_X9_cut : VOk yX9_cut 9 := ⟨mem_t4 225 rfl rfl, mem_pv (n := 50) (List.mem_of_getElem? (i := 73) rfl), by decide, rfl⟩
abbrev m_X9_number : MD := (yX9_number, cX9_number, 3, (some FieldType.int))
theorem mo_X9_number : MOk m_X9_number 2 := ⟨mem_t5 2 rfl rfl, mem_t1 11 rfl rfl, by decide +kernel, by decide⟩
theorem vo_X9_number : VOk yX9_number 9 := ⟨mem_t5 1 rfl rfl, mem_pv (n := 50) (List.mem_of_getElem? (i := 77) rfl), by decide, rfl⟩
abbrev m_X9_semi : MD := (yX9_semi, cX9_semi, 1, none)
theorem mo_X9_semi : MOk m_X9_semi 0 := ⟨mem_t5 6 rfl rfl, mem_t1 11 rfl rfl, by decide +kernel, by decide⟩
theorem vo_X9_semi : VOk yX9_semi 9 := ⟨mem_t5 5 rfl rfl, mem_pv (n := 50) (List.mem_of_getElem? (i := 78) rfl), by decide, rfl⟩
abbrev m_X9_oneRun : MD := (yX9_oneRun, cX9_oneRun, 3, none)
theorem mo_X9_oneRun : MOk m_X9_oneRun 1 := ⟨mem_t5 14 rfl rfl, mem_t1 11 rfl rfl, by decide +kernel, by decide⟩
theorem vo_X9_oneRun : VOk yX9_oneRun 9 := ⟨mem_t5 13 rfl rfl, mem_pv (n := 50) (List.mem_of_getElem? (i := 80) rfl), by decide, rfl⟩
abbrev m_X9_oneLine : MD := (yX9_oneLine, cX9_oneLine, 4, none)
theorem mo_X9_oneLine : MOk m_X9_oneLine 1 := ⟨mem_t5 10 rfl rfl, mem_t1 11 rfl rfl, by decide +kernel, by decide⟩
theorem vo_X9_oneLine : VOk yX9_oneLine 9 := ⟨mem_t5 9 rfl rfl, mem_pv (n := 50) (List.mem_of_getElem? (i := 79) rfl), by decide, rfl⟩
abbrev m_X9_colourSumsDiffer : MD := (yX9_colourSumsDiffer, cX9_colourSumsDiffer, 5, (some FieldType.boolean))
theorem mo_X9_colourSumsDiffer : MOk m_X9_colourSumsDiffer 0 := ⟨mem_t5 18 rfl rfl, mem_t1 11 rfl rfl, by decide +kernel, by decide⟩
theorem vo_X9_colourSumsDiffer : VOk yX9_colourSumsDiffer 9 := ⟨mem_t5 17 rfl rfl, mem_pv (n := 50) (List.mem_of_getElem? (i := 81) rfl), by decide, rfl⟩
abbrev m_X9_load : MD := (yX9_load, cX9_load, 2, (some FieldType.int))
theorem mo_X9_load : MOk m_X9_load 0 := ⟨mem_t4 222 rfl rfl, mem_t1 11 rfl rfl, by decide +kernel, by decide⟩
theorem vo_X9_load : VOk yX9_load 9 := ⟨mem_t4 220 rfl rfl, mem_t4 221 rfl rfl, by decide, rfl⟩
abbrev m_X9_fault : MD := (yX9_fault, cX9_fault, 1, (some FieldType.int))
theorem mo_X9_fault : MOk m_X9_fault 0 := ⟨mem_t5 38 rfl rfl, mem_t1 11 rfl rfl, by decide +kernel, by decide⟩
theorem vo_X9_fault : VOk yX9_fault 9 := ⟨mem_t5 36 rfl rfl, mem_t5 37 rfl rfl, by decide, rfl⟩
abbrev m_X9_blank : MD := (yX9_blank, cX9_blank, 5, (some FieldType.boolean))
theorem mo_X9_blank : MOk m_X9_blank 3 := ⟨mem_t5 42 rfl rfl, mem_t1 11 rfl rfl, by decide +kernel, by decide⟩
theorem vo_X9_blank : VOk yX9_blank 9 := ⟨mem_t5 40 rfl rfl, mem_t5 41 rfl rfl, by decide, rfl⟩
abbrev m_X9_many : MD := (yX9_many, cX9_many, 3, (some FieldType.int))
theorem mo_X9_many : MOk m_X9_many 1 := ⟨mem_t5 57 rfl rfl, mem_t1 11 rfl rfl, by decide +kernel, by decide⟩
theorem vo_X9_many : Cond.static yX9_many ∈ gtb := mem_t5 56 rfl rfl
abbrev m_X9_about : MD := (yX9_about, cX9_about, 4, (some FieldType.int))
theorem mo_X9_about : MOk m_X9_about 1 := ⟨mem_t5 46 rfl rfl, mem_t1 11 rfl rfl, by decide +kernel, by decide⟩
theorem vo_X9_about : VOk yX9_about 9 := ⟨mem_t5 44 rfl rfl, mem_t5 45 rfl rfl, by decide, rfl⟩
abbrev m_X9_run : MD := (yX9_run, cX9_run, 4, (some FieldType.int))
theorem mo_X9_run : MOk m_X9_run 3 := ⟨mem_t5 61 rfl rfl, mem_t1 11 rfl rfl, by decide +kernel, by decide⟩
theorem vo_X9_run : VOk yX9_run 9 := ⟨mem_t5 59 rfl rfl, mem_t5 60 rfl rfl, by decide, rfl⟩
abbrev m_X9_give : MD := (yX9_give, cX9_give, 4, (some FieldType.boolean))
theorem mo_X9_give : MOk m_X9_give 3 := ⟨mem_t5 69 rfl rfl, mem_t1 11 rfl rfl, by decide +kernel, by decide⟩
theorem vo_X9_give : VOk yX9_give 9 := ⟨mem_t5 67 rfl rfl, mem_t5 68 rfl rfl, by decide, rfl⟩
abbrev m_X9_given : MD := (yX9_given, cX9_given, 3, (some FieldType.int))
theorem mo_X9_given : MOk m_X9_given 2 := ⟨mem_t5 73 rfl rfl, mem_t1 11 rfl rfl, by decide +kernel, by decide⟩
theorem vo_X9_given : VOk yX9_given 9 := ⟨mem_t5 71 rfl rfl, mem_t5 72 rfl rfl, by decide, rfl⟩
abbrev m_X9_first : MD := (yX9_first, cX9_first, 4, none)
theorem mo_X9_first : MOk m_X9_first 2 := ⟨mem_t5 81 rfl rfl, mem_t1 11 rfl rfl, by decide +kernel, by decide⟩
theorem vo_X9_first : VOk yX9_first 9 := ⟨mem_t5 80 rfl rfl, mem_pv (n := 50) (List.mem_of_getElem? (i := 89) rfl), by decide, rfl⟩
abbrev m_X9_fresh : MD := (yX9_fresh, cX9_fresh, 1, (some FieldType.boolean))
theorem mo_X9_fresh : MOk m_X9_fresh 0 := ⟨mem_t5 77 rfl rfl, mem_t1 11 rfl rfl, by decide +kernel, by decide⟩
theorem vo_X9_fresh : VOk yX9_fresh 9 := ⟨mem_t5 75 rfl rfl, mem_t5 76 rfl rfl, by decide, rfl⟩
abbrev m_X9_can : MD := (yX9_can, cX9_can, 3, (some FieldType.boolean))
theorem mo_X9_can : MOk m_X9_can 2 := ⟨mem_t5 105 rfl rfl, mem_t1 11 rfl rfl, by decide +kernel, by decide⟩
theorem vo_X9_can : VOk yX9_can 9 := ⟨mem_t5 104 rfl rfl, mem_pv (n := 50) (List.mem_of_getElem? (i := 94) rfl), by decide, rfl⟩
abbrev m_X9_lay : MD := (yX9_lay, cX9_lay, 10, none)
theorem mo_X9_lay : MOk m_X9_lay 2 := ⟨mem_t5 97 rfl rfl, mem_t1 11 rfl rfl, by decide +kernel, by decide⟩
theorem vo_X9_lay : VOk yX9_lay 9 := ⟨mem_t5 96 rfl rfl, mem_pv (n := 50) (List.mem_of_getElem? (i := 92) rfl), by decide, rfl⟩
abbrev m_X9_allWays : MD := (yX9_allWays, cX9_allWays, 5, none)
theorem mo_X9_allWays : MOk m_X9_allWays 3 := ⟨mem_t5 93 rfl rfl, mem_t1 11 rfl rfl, by decide +kernel, by decide⟩
theorem vo_X9_allWays : VOk yX9_allWays 9 := ⟨mem_t5 92 rfl rfl, mem_pv (n := 50) (List.mem_of_getElem? (i := 91) rfl), by decide, rfl⟩
abbrev m_X9_lineRule : MD := (yX9_lineRule, cX9_lineRule, 7, (some FieldType.int))
theorem mo_X9_lineRule : MOk m_X9_lineRule 3 := ⟨mem_t5 89 rfl rfl, mem_t1 11 rfl rfl, by decide +kernel, by decide⟩
theorem vo_X9_lineRule : VOk yX9_lineRule 9 := ⟨mem_t5 88 rfl rfl, mem_pv (n := 50) (List.mem_of_getElem? (i := 90) rfl), by decide, rfl⟩
abbrev m_X9_toRest : MD := (yX9_toRest, cX9_toRest, 6, (some FieldType.boolean))
theorem mo_X9_toRest : MOk m_X9_toRest 2 := ⟨mem_t5 126 rfl rfl, mem_t1 11 rfl rfl, by decide +kernel, by decide⟩
theorem vo_X9_toRest : VOk yX9_toRest 9 := ⟨mem_t5 125 rfl rfl, mem_pv (n := 50) (List.mem_of_getElem? (i := 97) rfl), by decide, rfl⟩
abbrev m_X9_trying : MD := (yX9_trying, cX9_trying, 7, (some FieldType.boolean))
theorem mo_X9_trying : MOk m_X9_trying 1 := ⟨mem_t5 134 rfl rfl, mem_t1 11 rfl rfl, by decide +kernel, by decide⟩
theorem vo_X9_trying : VOk yX9_trying 9 := ⟨mem_t5 133 rfl rfl, mem_pv (n := 50) (List.mem_of_getElem? (i := 98) rfl), by decide, rfl⟩
abbrev m_X9_rule : MD := (yX9_rule, cX9_rule, 2, (some FieldType.int))
theorem mo_X9_rule : MOk m_X9_rule 1 := ⟨mem_t5 85 rfl rfl, mem_t1 11 rfl rfl, by decide +kernel, by decide⟩
theorem vo_X9_rule : VOk yX9_rule 9 := ⟨mem_t5 83 rfl rfl, mem_t5 84 rfl rfl, by decide, rfl⟩
abbrev m_X9_ways : MD := (yX9_ways, cX9_ways, 2, (some FieldType.long))
theorem mo_X9_ways : MOk m_X9_ways 1 := ⟨mem_t5 113 rfl rfl, mem_t1 11 rfl rfl, by decide +kernel, by decide⟩
theorem vo_X9_ways : VOk yX9_ways 9 := ⟨mem_t5 111 rfl rfl, mem_t5 112 rfl rfl, by decide, rfl⟩
abbrev m_X9_needSets : MD := (yX9_needSets, cX9_needSets, 1, none)
theorem mo_X9_needSets : MOk m_X9_needSets 0 := ⟨mem_t5 122 rfl rfl, mem_t1 11 rfl rfl, by decide +kernel, by decide⟩
theorem vo_X9_needSets : VOk yX9_needSets 9 := ⟨mem_t5 121 rfl rfl, mem_pv (n := 50) (List.mem_of_getElem? (i := 96) rfl), by decide, rfl⟩
abbrev m_X9_rest : MD := (yX9_rest, cX9_rest, 1, (some FieldType.int))
theorem mo_X9_rest : MOk m_X9_rest 0 := ⟨mem_t5 118 rfl rfl, mem_t1 11 rfl rfl, by decide +kernel, by decide⟩
theorem vo_X9_rest : VOk yX9_rest 9 := ⟨mem_t5 116 rfl rfl, mem_t5 117 rfl rfl, by decide, rfl⟩
abbrev m_X9_tries : MD := (yX9_tries, cX9_tries, 1, (some FieldType.int))
theorem mo_X9_tries : MOk m_X9_tries 0 := ⟨mem_t5 130 rfl rfl, mem_t1 11 rfl rfl, by decide +kernel, by decide⟩
theorem vo_X9_tries : VOk yX9_tries 9 := ⟨mem_t5 128 rfl rfl, mem_t5 129 rfl rfl, by decide, rfl⟩
abbrev m_X9_set : MD := (yX9_set, cX9_set, 3, (some FieldType.int))
theorem mo_X9_set : MOk m_X9_set 2 := ⟨mem_t5 142 rfl rfl, mem_t1 11 rfl rfl, by decide +kernel, by decide⟩
theorem vo_X9_set : VOk yX9_set 9 := ⟨mem_t5 140 rfl rfl, mem_t5 141 rfl rfl, by decide, rfl⟩
abbrev m_X9_allOne : MD := (yX9_allOne, cX9_allOne, 4, (some FieldType.boolean))
theorem mo_X9_allOne : MOk m_X9_allOne 2 := ⟨mem_t5 158 rfl rfl, mem_t1 11 rfl rfl, by decide +kernel, by decide⟩
theorem vo_X9_allOne : VOk yX9_allOne 9 := ⟨mem_t5 157 rfl rfl, mem_pv (n := 50) (List.mem_of_getElem? (i := 102) rfl), by decide, rfl⟩
abbrev m_X9_least : MD := (yX9_least, cX9_least, 2, (some FieldType.int))
theorem mo_X9_least : MOk m_X9_least 1 := ⟨mem_t5 161 rfl rfl, mem_t1 11 rfl rfl, by decide +kernel, by decide⟩
theorem vo_X9_least : Cond.static yX9_least ∈ gtb := mem_t5 160 rfl rfl
abbrev m_X9_branch : MD := (yX9_branch, cX9_branch, 6, (some FieldType.int))
theorem mo_X9_branch : MOk m_X9_branch 1 := ⟨mem_t5 165 rfl rfl, mem_t1 11 rfl rfl, by decide +kernel, by decide⟩
theorem vo_X9_branch : VOk yX9_branch 9 := ⟨mem_t5 164 rfl rfl, mem_pv (n := 50) (List.mem_of_getElem? (i := 103) rfl), by decide, rfl⟩
abbrev m_X9_look : MD := (yX9_look, cX9_look, 6, none)
theorem mo_X9_look : MOk m_X9_look 1 := ⟨mem_t5 154 rfl rfl, mem_t1 11 rfl rfl, by decide +kernel, by decide⟩
theorem vo_X9_look : VOk yX9_look 9 := ⟨mem_t5 153 rfl rfl, mem_pv (n := 50) (List.mem_of_getElem? (i := 101) rfl), by decide, rfl⟩
abbrev m_X9_searches : MD := (yX9_searches, cX9_searches, 3, none)
theorem mo_X9_searches : MOk m_X9_searches 2 := ⟨mem_t5 150 rfl rfl, mem_t1 11 rfl rfl, by decide +kernel, by decide⟩
theorem vo_X9_searches : VOk yX9_searches 9 := ⟨mem_t5 149 rfl rfl, mem_pv (n := 50) (List.mem_of_getElem? (i := 100) rfl), by decide, rfl⟩
abbrev m_X9_search : MD := (yX9_search, cX9_search, 4, (some FieldType.int))
theorem mo_X9_search : MOk m_X9_search 2 := ⟨mem_t5 146 rfl rfl, mem_t1 11 rfl rfl, by decide +kernel, by decide⟩
theorem vo_X9_search : VOk yX9_search 9 := ⟨mem_t5 144 rfl rfl, mem_t5 145 rfl rfl, by decide, rfl⟩
abbrev m_X9_nodes : MD := (yX9_nodes, cX9_nodes, 1, (some FieldType.int))
theorem mo_X9_nodes : MOk m_X9_nodes 0 := ⟨mem_t5 169 rfl rfl, mem_t1 11 rfl rfl, by decide +kernel, by decide⟩
theorem vo_X9_nodes : VOk yX9_nodes 9 := ⟨mem_t5 167 rfl rfl, mem_t5 168 rfl rfl, by decide, rfl⟩
abbrev m_X9_solution : MD := (yX9_solution, cX9_solution, 4, (some FieldType.int))
theorem mo_X9_solution : MOk m_X9_solution 3 := ⟨mem_t5 173 rfl rfl, mem_t1 11 rfl rfl, by decide +kernel, by decide⟩
theorem vo_X9_solution : VOk yX9_solution 9 := ⟨mem_t5 171 rfl rfl, mem_t5 172 rfl rfl, by decide, rfl⟩
abbrev m_X9_level : MD := (yX9_level, cX9_level, 1, (some FieldType.int))
theorem mo_X9_level : MOk m_X9_level 0 := ⟨mem_t5 177 rfl rfl, mem_t1 11 rfl rfl, by decide +kernel, by decide⟩
theorem vo_X9_level : VOk yX9_level 9 := ⟨mem_t5 175 rfl rfl, mem_t5 176 rfl rfl, by decide, rfl⟩
abbrev m_X9_mark : MD := (yX9_mark, cX9_mark, 4, (some FieldType.boolean))
theorem mo_X9_mark : MOk m_X9_mark 3 := ⟨mem_t5 181 rfl rfl, mem_t1 11 rfl rfl, by decide +kernel, by decide⟩
theorem vo_X9_mark : VOk yX9_mark 9 := ⟨mem_t5 179 rfl rfl, mem_t5 180 rfl rfl, by decide, rfl⟩
abbrev m_X9_marked : MD := (yX9_marked, cX9_marked, 3, (some FieldType.int))
theorem mo_X9_marked : MOk m_X9_marked 2 := ⟨mem_t5 185 rfl rfl, mem_t1 11 rfl rfl, by decide +kernel, by decide⟩
theorem vo_X9_marked : VOk yX9_marked 9 := ⟨mem_t5 183 rfl rfl, mem_t5 184 rfl rfl, by decide, rfl⟩
abbrev m_X9_shown : MD := (yX9_shown, cX9_shown, 2, (some FieldType.int))
theorem mo_X9_shown : MOk m_X9_shown 1 := ⟨mem_t5 197 rfl rfl, mem_t1 11 rfl rfl, by decide +kernel, by decide⟩
theorem vo_X9_shown : VOk yX9_shown 9 := ⟨mem_t5 196 rfl rfl, mem_pv (n := 50) (List.mem_of_getElem? (i := 105) rfl), by decide, rfl⟩
abbrev m_X9_readsAs : MD := (yX9_readsAs, cX9_readsAs, 6, (some FieldType.int))
theorem mo_X9_readsAs : MOk m_X9_readsAs 1 := ⟨mem_t5 201 rfl rfl, mem_t1 11 rfl rfl, by decide +kernel, by decide⟩
theorem vo_X9_readsAs : VOk yX9_readsAs 9 := ⟨mem_t5 200 rfl rfl, mem_pv (n := 50) (List.mem_of_getElem? (i := 106) rfl), by decide, rfl⟩
abbrev m_X9_isDone : MD := (yX9_isDone, cX9_isDone, 3, (some FieldType.boolean))
theorem mo_X9_isDone : MOk m_X9_isDone 0 := ⟨mem_t5 193 rfl rfl, mem_t1 11 rfl rfl, by decide +kernel, by decide⟩
theorem vo_X9_isDone : VOk yX9_isDone 9 := ⟨mem_t5 192 rfl rfl, mem_pv (n := 50) (List.mem_of_getElem? (i := 104) rfl), by decide, rfl⟩
abbrev m_X9_done : MD := (yX9_done, cX9_done, 1, (some FieldType.int))
theorem mo_X9_done : MOk m_X9_done 0 := ⟨mem_t5 189 rfl rfl, mem_t1 11 rfl rfl, by decide +kernel, by decide⟩
theorem vo_X9_done : VOk yX9_done 9 := ⟨mem_t5 187 rfl rfl, mem_t5 188 rfl rfl, by decide, rfl⟩
abbrev m_X9_wrong : MD := (yX9_wrong, cX9_wrong, 4, (some FieldType.int))
theorem mo_X9_wrong : MOk m_X9_wrong 0 := ⟨mem_t5 205 rfl rfl, mem_t1 11 rfl rfl, by decide +kernel, by decide⟩
theorem vo_X9_wrong : VOk yX9_wrong 9 := ⟨mem_t5 203 rfl rfl, mem_t5 204 rfl rfl, by decide, rfl⟩
abbrev m_X9_hint : MD := (yX9_hint, cX9_hint, 4, (some FieldType.int))
theorem mo_X9_hint : MOk m_X9_hint 0 := ⟨mem_t5 209 rfl rfl, mem_t1 11 rfl rfl, by decide +kernel, by decide⟩
theorem vo_X9_hint : VOk yX9_hint 9 := ⟨mem_t5 207 rfl rfl, mem_t5 208 rfl rfl, by decide, rfl⟩
abbrev m_X9_draw : MD := (yX9_draw, cX9_draw, 3, (some FieldType.int))
theorem mo_X9_draw : MOk m_X9_draw 0 := ⟨mem_t5 213 rfl rfl, mem_t1 11 rfl rfl, by decide +kernel, by decide⟩
theorem vo_X9_draw : VOk yX9_draw 9 := ⟨mem_t5 211 rfl rfl, mem_t5 212 rfl rfl, by decide, rfl⟩
abbrev m_X9_mend : MD := (yX9_mend, cX9_mend, 3, (some FieldType.int))
theorem mo_X9_mend : MOk m_X9_mend 0 := ⟨mem_t5 217 rfl rfl, mem_t1 11 rfl rfl, by decide +kernel, by decide⟩
theorem vo_X9_mend : VOk yX9_mend 9 := ⟨mem_t5 215 rfl rfl, mem_t5 216 rfl rfl, by decide, rfl⟩
theorem fl_X8_12 : FL RX8 12 8 0 := ⟨by decide, by decide +kernel, rfl, Or.inl (mem_t1 237 rfl rfl)⟩
theorem fl_X8_19 : FL RX8 19 8 1 := ⟨by decide, by decide +kernel, rfl, Or.inl (mem_t1 238 rfl rfl)⟩
theorem fl_X8_23 : FL RX8 23 8 2 := ⟨by decide, by decide +kernel, rfl, Or.inl (mem_t1 239 rfl rfl)⟩
theorem fl_X8_31 : FL RX8 31 8 3 := ⟨by decide, by decide +kernel, rfl, Or.inl (mem_t2 0 rfl rfl)⟩
theorem fl_X8_38 : FL RX8 38 8 4 := ⟨by decide, by decide +kernel, rfl, Or.inl (mem_t2 1 rfl rfl)⟩
theorem fl_X8_42 : FL RX8 42 8 5 := ⟨by decide, by decide +kernel, rfl, Or.inl (mem_t2 2 rfl rfl)⟩
theorem fl_X8_50 : FL RX8 50 8 6 := ⟨by decide, by decide +kernel, rfl, Or.inl (mem_t2 3 rfl rfl)⟩
theorem fl_X8_59 : FL RX8 59 8 7 := ⟨by decide, by decide +kernel, rfl, Or.inl (mem_t2 4 rfl rfl)⟩
theorem fl_X8_66 : FL RX8 66 8 8 := ⟨by decide, by decide +kernel, rfl, Or.inl (mem_t2 5 rfl rfl)⟩
theorem fl_X8_70 : FL RX8 70 8 9 := ⟨by decide, by decide +kernel, rfl, Or.inl (mem_t2 6 rfl rfl)⟩
theorem fl_X8_76 : FL RX8 76 8 10 := ⟨by decide, by decide +kernel, rfl, Or.inl (mem_t2 7 rfl rfl)⟩
theorem fl_X8_80 : FL RX8 80 8 11 := ⟨by decide, by decide +kernel, rfl, Or.inl (mem_t2 8 rfl rfl)⟩
theorem fl_X8_83 : FL RX8 83 8 12 := ⟨by decide, by decide +kernel, rfl, Or.inl (mem_t2 9 rfl rfl)⟩
theorem fl_X8_87 : FL RX8 87 8 13 := ⟨by decide, by decide +kernel, rfl, Or.inl (mem_t2 10 rfl rfl)⟩
theorem fl_X8_91 : FL RX8 91 6 1 := ⟨by decide, by decide +kernel, rfl, Or.inr ⟨"CellPictures", mem_n1 31 rfl rfl⟩⟩
theorem fl_X8_102 : FL RX8 102 7 2 := ⟨by decide, by decide +kernel, rfl, Or.inr ⟨"CellPictures", mem_n1 92 rfl rfl⟩⟩
theorem fl_X8_105 : FL RX8 105 7 3 := ⟨by decide, by decide +kernel, rfl, Or.inr ⟨"CellPictures", mem_n1 94 rfl rfl⟩⟩
theorem fl_X8_117 : FL RX8 117 0 6 := ⟨by decide, by decide +kernel, rfl, Or.inr ⟨"CellPictures", mem_n1 66 rfl rfl⟩⟩
theorem fl_X8_131 : FL RX8 131 0 3 := ⟨by decide, by decide +kernel, rfl, Or.inr ⟨"CellPictures", mem_n1 54 rfl rfl⟩⟩
theorem fl_X8_134 : FL RX8 134 0 4 := ⟨by decide, by decide +kernel, rfl, Or.inr ⟨"CellPictures", mem_n1 59 rfl rfl⟩⟩
theorem fl_X8_137 : FL RX8 137 0 5 := ⟨by decide, by decide +kernel, rfl, Or.inr ⟨"CellPictures", mem_n1 63 rfl rfl⟩⟩
theorem fl_X8_144 : FL RX8 144 2 1 := ⟨by decide, by decide +kernel, rfl, Or.inr ⟨"CellPictures", mem_n1 127 rfl rfl⟩⟩
theorem fl_X8_154 : FL RX8 154 0 0 := ⟨by decide, by decide +kernel, rfl, Or.inr ⟨"CellPictures", mem_n1 47 rfl rfl⟩⟩
theorem fl_X8_184 : FL RX8 184 4 1 := ⟨by decide, by decide +kernel, rfl, Or.inr ⟨"CellPictures", mem_n1 172 rfl rfl⟩⟩
theorem fl_X8_230 : FL RX8 230 1 4 := ⟨by decide, by decide +kernel, rfl, Or.inr ⟨"CellPictures", mem_n1 225 rfl rfl⟩⟩
theorem fl_X8_233 : FL RX8 233 1 2 := ⟨by decide, by decide +kernel, rfl, Or.inr ⟨"CellPictures", mem_n1 219 rfl rfl⟩⟩
theorem fl_X8_236 : FL RX8 236 1 3 := ⟨by decide, by decide +kernel, rfl, Or.inr ⟨"CellPictures", mem_n1 222 rfl rfl⟩⟩
theorem fl_X8_260 : FL RX8 260 1 0 := ⟨by decide, by decide +kernel, rfl, Or.inr ⟨"CellPictures", mem_n1 214 rfl rfl⟩⟩
theorem fl_X8_304 : FL RX8 304 1 1 := ⟨by decide, by decide +kernel, rfl, Or.inr ⟨"CellPictures", mem_n1 216 rfl rfl⟩⟩
theorem fl_X0_9 : FL RX0 9 0 0 := ⟨by decide, by decide +kernel, rfl, Or.inl (mem_t1 45 rfl rfl)⟩
theorem fl_X0_15 : FL RX0 15 0 1 := ⟨by decide, by decide +kernel, rfl, Or.inl (mem_t1 48 rfl rfl)⟩
theorem fl_X0_18 : FL RX0 18 0 2 := ⟨by decide, by decide +kernel, rfl, Or.inl (mem_t1 49 rfl rfl)⟩
theorem fl_X0_21 : FL RX0 21 0 3 := ⟨by decide, by decide +kernel, rfl, Or.inl (mem_t1 50 rfl rfl)⟩
theorem fl_X0_25 : FL RX0 25 0 4 := ⟨by decide, by decide +kernel, rfl, Or.inl (mem_t1 55 rfl rfl)⟩
theorem fl_X0_28 : FL RX0 28 0 5 := ⟨by decide, by decide +kernel, rfl, Or.inl (mem_t1 60 rfl rfl)⟩
theorem fl_X0_31 : FL RX0 31 0 6 := ⟨by decide, by decide +kernel, rfl, Or.inl (mem_t1 65 rfl rfl)⟩
theorem fl_X1_12 : FL RX1 12 1 0 := ⟨by decide, by decide +kernel, rfl, Or.inl (mem_t1 213 rfl rfl)⟩
theorem fl_X1_18 : FL RX1 18 1 1 := ⟨by decide, by decide +kernel, rfl, Or.inl (mem_t1 215 rfl rfl)⟩
theorem fl_X1_21 : FL RX1 21 1 2 := ⟨by decide, by decide +kernel, rfl, Or.inl (mem_t1 217 rfl rfl)⟩
theorem fl_X1_25 : FL RX1 25 1 3 := ⟨by decide, by decide +kernel, rfl, Or.inl (mem_t1 220 rfl rfl)⟩
theorem fl_X1_28 : FL RX1 28 1 4 := ⟨by decide, by decide +kernel, rfl, Or.inl (mem_t1 223 rfl rfl)⟩
theorem fl_X1_36 : FL RX1 36 4 0 := ⟨by decide, by decide +kernel, rfl, Or.inr ⟨"CellPictures", mem_n1 169 rfl rfl⟩⟩
theorem fl_X1_42 : FL RX1 42 0 4 := ⟨by decide, by decide +kernel, rfl, Or.inr ⟨"CellPictures", mem_n1 58 rfl rfl⟩⟩
theorem fl_X1_47 : FL RX1 47 0 3 := ⟨by decide, by decide +kernel, rfl, Or.inr ⟨"CellPictures", mem_n1 53 rfl rfl⟩⟩
theorem fl_X2_9 : FL RX2 9 2 0 := ⟨by decide, by decide +kernel, rfl, Or.inl (mem_t1 125 rfl rfl)⟩
theorem fl_X2_15 : FL RX2 15 2 1 := ⟨by decide, by decide +kernel, rfl, Or.inl (mem_t1 126 rfl rfl)⟩
theorem fl_X3_9 : FL RX3 9 3 1 := ⟨by decide, by decide +kernel, rfl, Or.inl (mem_t1 140 rfl rfl)⟩
theorem fl_X3_15 : FL RX3 15 3 2 := ⟨by decide, by decide +kernel, rfl, Or.inl (mem_t1 141 rfl rfl)⟩
theorem fl_X3_18 : FL RX3 18 3 3 := ⟨by decide, by decide +kernel, rfl, Or.inl (mem_t1 142 rfl rfl)⟩
theorem fl_X3_22 : FL RX3 22 3 4 := ⟨by decide, by decide +kernel, rfl, Or.inl (mem_t1 143 rfl rfl)⟩
theorem fl_X3_25 : FL RX3 25 3 0 := ⟨by decide, by decide +kernel, rfl, Or.inl (mem_t1 139 rfl rfl)⟩
theorem fl_X3_35 : FL RX3 35 0 0 := ⟨by decide, by decide +kernel, rfl, Or.inr ⟨"CellPictures", mem_n1 46 rfl rfl⟩⟩
theorem fl_X4_9 : FL RX4 9 4 1 := ⟨by decide, by decide +kernel, rfl, Or.inl (mem_t1 170 rfl rfl)⟩
theorem fl_X4_15 : FL RX4 15 4 0 := ⟨by decide, by decide +kernel, rfl, Or.inl (mem_t1 168 rfl rfl)⟩
theorem fl_X4_35 : FL RX4 35 0 5 := ⟨by decide, by decide +kernel, rfl, Or.inr ⟨"CellPictures", mem_n1 61 rfl rfl⟩⟩
theorem fl_X4_39 : FL RX4 39 0 4 := ⟨by decide, by decide +kernel, rfl, Or.inr ⟨"CellPictures", mem_n1 57 rfl rfl⟩⟩
theorem fl_X4_42 : FL RX4 42 0 3 := ⟨by decide, by decide +kernel, rfl, Or.inr ⟨"CellPictures", mem_n1 52 rfl rfl⟩⟩
theorem fl_X5_9 : FL RX5 9 5 4 := ⟨by decide, by decide +kernel, rfl, Or.inl (mem_t1 182 rfl rfl)⟩
theorem fl_X5_15 : FL RX5 15 5 5 := ⟨by decide, by decide +kernel, rfl, Or.inl (mem_t1 183 rfl rfl)⟩
theorem fl_X5_19 : FL RX5 19 5 6 := ⟨by decide, by decide +kernel, rfl, Or.inl (mem_t1 184 rfl rfl)⟩
theorem fl_X5_22 : FL RX5 22 5 7 := ⟨by decide, by decide +kernel, rfl, Or.inl (mem_t1 185 rfl rfl)⟩
theorem fl_X5_26 : FL RX5 26 5 0 := ⟨by decide, by decide +kernel, rfl, Or.inl (mem_t1 178 rfl rfl)⟩
theorem fl_X5_30 : FL RX5 30 5 1 := ⟨by decide, by decide +kernel, rfl, Or.inl (mem_t1 179 rfl rfl)⟩
theorem fl_X5_39 : FL RX5 39 5 2 := ⟨by decide, by decide +kernel, rfl, Or.inl (mem_t1 180 rfl rfl)⟩
theorem fl_X5_43 : FL RX5 43 5 3 := ⟨by decide, by decide +kernel, rfl, Or.inl (mem_t1 181 rfl rfl)⟩
theorem fl_X5_52 : FL RX5 52 4 1 := ⟨by decide, by decide +kernel, rfl, Or.inr ⟨"CellPictures", mem_n1 171 rfl rfl⟩⟩
theorem fl_X5_64 : FL RX5 64 0 4 := ⟨by decide, by decide +kernel, rfl, Or.inr ⟨"CellPictures", mem_n1 56 rfl rfl⟩⟩
theorem fl_X5_67 : FL RX5 67 0 3 := ⟨by decide, by decide +kernel, rfl, Or.inr ⟨"CellPictures", mem_n1 51 rfl rfl⟩⟩
theorem fl_X5_78 : FL RX5 78 0 5 := ⟨by decide, by decide +kernel, rfl, Or.inr ⟨"CellPictures", mem_n1 62 rfl rfl⟩⟩
theorem fl_X5_124 : FL RX5 124 1 2 := ⟨by decide, by decide +kernel, rfl, Or.inr ⟨"CellPictures", mem_n1 218 rfl rfl⟩⟩
theorem fl_X5_130 : FL RX5 130 1 3 := ⟨by decide, by decide +kernel, rfl, Or.inr ⟨"CellPictures", mem_n1 221 rfl rfl⟩⟩
theorem fl_X5_133 : FL RX5 133 1 4 := ⟨by decide, by decide +kernel, rfl, Or.inr ⟨"CellPictures", mem_n1 224 rfl rfl⟩⟩
theorem fl_X6_9 : FL RX6 9 6 0 := ⟨by decide, by decide +kernel, rfl, Or.inl (mem_t1 29 rfl rfl)⟩
theorem fl_X6_15 : FL RX6 15 6 1 := ⟨by decide, by decide +kernel, rfl, Or.inl (mem_t1 30 rfl rfl)⟩
theorem fl_X7_9 : FL RX7 9 7 2 := ⟨by decide, by decide +kernel, rfl, Or.inl (mem_t1 91 rfl rfl)⟩
theorem fl_X7_15 : FL RX7 15 7 3 := ⟨by decide, by decide +kernel, rfl, Or.inl (mem_t1 93 rfl rfl)⟩
theorem fl_X7_18 : FL RX7 18 7 4 := ⟨by decide, by decide +kernel, rfl, Or.inl (mem_t1 95 rfl rfl)⟩
theorem fl_X7_21 : FL RX7 21 7 5 := ⟨by decide, by decide +kernel, rfl, Or.inl (mem_t1 96 rfl rfl)⟩
theorem fl_X7_24 : FL RX7 24 7 6 := ⟨by decide, by decide +kernel, rfl, Or.inl (mem_t1 97 rfl rfl)⟩
theorem fl_X7_27 : FL RX7 27 7 7 := ⟨by decide, by decide +kernel, rfl, Or.inl (mem_t1 98 rfl rfl)⟩
theorem fl_X7_30 : FL RX7 30 7 0 := ⟨by decide, by decide +kernel, rfl, Or.inl (mem_t1 89 rfl rfl)⟩
theorem fl_X7_34 : FL RX7 34 7 1 := ⟨by decide, by decide +kernel, rfl, Or.inl (mem_t1 90 rfl rfl)⟩
theorem fl_X7_64 : FL RX7 64 6 1 := ⟨by decide, by decide +kernel, rfl, Or.inr ⟨"CellPictures", mem_n1 32 rfl rfl⟩⟩
theorem fl_X7_102 : FL RX7 102 0 5 := ⟨by decide, by decide +kernel, rfl, Or.inr ⟨"CellPictures", mem_n1 64 rfl rfl⟩⟩
theorem fl_X9_9 : FL RX9 9 9 4 := ⟨by decide, by decide +kernel, rfl, Or.inl (mem_t4 57 rfl rfl)⟩
theorem fl_X9_13 : FL RX9 13 9 5 := ⟨by decide, by decide +kernel, rfl, Or.inl (mem_t4 58 rfl rfl)⟩
theorem fl_X9_16 : FL RX9 16 9 6 := ⟨by decide, by decide +kernel, rfl, Or.inl (mem_t4 59 rfl rfl)⟩
theorem fl_X9_19 : FL RX9 19 9 7 := ⟨by decide, by decide +kernel, rfl, Or.inl (mem_t4 60 rfl rfl)⟩
theorem fl_X9_22 : FL RX9 22 9 8 := ⟨by decide, by decide +kernel, rfl, Or.inl (mem_t4 61 rfl rfl)⟩
theorem fl_X9_25 : FL RX9 25 9 9 := ⟨by decide, by decide +kernel, rfl, Or.inl (mem_t4 62 rfl rfl)⟩
theorem fl_X9_28 : FL RX9 28 9 12 := ⟨by decide, by decide +kernel, rfl, Or.inl (mem_t4 65 rfl rfl)⟩
theorem fl_X9_32 : FL RX9 32 9 14 := ⟨by decide, by decide +kernel, rfl, Or.inl (mem_t4 67 rfl rfl)⟩
theorem fl_X9_35 : FL RX9 35 9 15 := ⟨by decide, by decide +kernel, rfl, Or.inl (mem_t4 68 rfl rfl)⟩
theorem fl_X9_38 : FL RX9 38 9 20 := ⟨by decide, by decide +kernel, rfl, Or.inl (mem_t4 73 rfl rfl)⟩
theorem fl_X9_41 : FL RX9 41 9 21 := ⟨by decide, by decide +kernel, rfl, Or.inl (mem_t4 74 rfl rfl)⟩
theorem fl_X9_44 : FL RX9 44 9 22 := ⟨by decide, by decide +kernel, rfl, Or.inl (mem_t4 75 rfl rfl)⟩
theorem fl_X9_47 : FL RX9 47 9 28 := ⟨by decide, by decide +kernel, rfl, Or.inl (mem_t4 81 rfl rfl)⟩
theorem fl_X9_50 : FL RX9 50 9 29 := ⟨by decide, by decide +kernel, rfl, Or.inl (mem_t4 82 rfl rfl)⟩
theorem fl_X9_53 : FL RX9 53 9 30 := ⟨by decide, by decide +kernel, rfl, Or.inl (mem_t4 83 rfl rfl)⟩
theorem fl_X9_56 : FL RX9 56 9 34 := ⟨by decide, by decide +kernel, rfl, Or.inl (mem_t4 87 rfl rfl)⟩
theorem fl_X9_59 : FL RX9 59 9 35 := ⟨by decide, by decide +kernel, rfl, Or.inl (mem_t4 88 rfl rfl)⟩
theorem fl_X9_62 : FL RX9 62 9 38 := ⟨by decide, by decide +kernel, rfl, Or.inl (mem_t4 91 rfl rfl)⟩
theorem fl_X9_65 : FL RX9 65 9 40 := ⟨by decide, by decide +kernel, rfl, Or.inl (mem_t4 93 rfl rfl)⟩
theorem fl_X9_68 : FL RX9 68 9 46 := ⟨by decide, by decide +kernel, rfl, Or.inl (mem_t4 99 rfl rfl)⟩
theorem fl_X9_71 : FL RX9 71 9 47 := ⟨by decide, by decide +kernel, rfl, Or.inl (mem_t4 100 rfl rfl)⟩
theorem fl_X9_74 : FL RX9 74 9 48 := ⟨by decide, by decide +kernel, rfl, Or.inl (mem_t4 101 rfl rfl)⟩
theorem fl_X9_77 : FL RX9 77 9 49 := ⟨by decide, by decide +kernel, rfl, Or.inl (mem_t4 102 rfl rfl)⟩
theorem fl_X9_80 : FL RX9 80 9 0 := ⟨by decide, by decide +kernel, rfl, Or.inl (mem_t4 53 rfl rfl)⟩
theorem fl_X9_83 : FL RX9 83 9 1 := ⟨by decide, by decide +kernel, rfl, Or.inl (mem_t4 54 rfl rfl)⟩
theorem fl_X9_86 : FL RX9 86 9 2 := ⟨by decide, by decide +kernel, rfl, Or.inl (mem_t4 55 rfl rfl)⟩
theorem fl_X9_101 : FL RX9 101 9 10 := ⟨by decide, by decide +kernel, rfl, Or.inl (mem_t4 63 rfl rfl)⟩
theorem fl_X9_105 : FL RX9 105 9 11 := ⟨by decide, by decide +kernel, rfl, Or.inl (mem_t4 64 rfl rfl)⟩
theorem fl_X9_108 : FL RX9 108 9 16 := ⟨by decide, by decide +kernel, rfl, Or.inl (mem_t4 69 rfl rfl)⟩
theorem fl_X9_115 : FL RX9 115 9 17 := ⟨by decide, by decide +kernel, rfl, Or.inl (mem_t4 70 rfl rfl)⟩
theorem fl_X9_118 : FL RX9 118 9 18 := ⟨by decide, by decide +kernel, rfl, Or.inl (mem_t4 71 rfl rfl)⟩
theorem fl_X9_121 : FL RX9 121 9 23 := ⟨by decide, by decide +kernel, rfl, Or.inl (mem_t4 76 rfl rfl)⟩
theorem fl_X9_135 : FL RX9 135 9 24 := ⟨by decide, by decide +kernel, rfl, Or.inl (mem_t4 77 rfl rfl)⟩
theorem fl_X9_138 : FL RX9 138 9 27 := ⟨by decide, by decide +kernel, rfl, Or.inl (mem_t4 80 rfl rfl)⟩
theorem fl_X9_144 : FL RX9 144 9 26 := ⟨by decide, by decide +kernel, rfl, Or.inl (mem_t4 79 rfl rfl)⟩
theorem fl_X9_147 : FL RX9 147 9 25 := ⟨by decide, by decide +kernel, rfl, Or.inl (mem_t4 78 rfl rfl)⟩
theorem fl_X9_166 : FL RX9 166 9 19 := ⟨by decide, by decide +kernel, rfl, Or.inl (mem_t4 72 rfl rfl)⟩
theorem fl_X9_169 : FL RX9 169 9 3 := ⟨by decide, by decide +kernel, rfl, Or.inl (mem_t4 56 rfl rfl)⟩
theorem fl_X9_197 : FL RX9 197 9 31 := ⟨by decide, by decide +kernel, rfl, Or.inl (mem_t4 84 rfl rfl)⟩
theorem fl_X9_200 : FL RX9 200 9 32 := ⟨by decide, by decide +kernel, rfl, Or.inl (mem_t4 85 rfl rfl)⟩
theorem fl_X9_203 : FL RX9 203 9 33 := ⟨by decide, by decide +kernel, rfl, Or.inl (mem_t4 86 rfl rfl)⟩
theorem fl_X9_215 : FL RX9 215 9 36 := ⟨by decide, by decide +kernel, rfl, Or.inl (mem_t4 89 rfl rfl)⟩
theorem fl_X9_226 : FL RX9 226 9 37 := ⟨by decide, by decide +kernel, rfl, Or.inl (mem_t4 90 rfl rfl)⟩
theorem fl_X9_233 : FL RX9 233 9 39 := ⟨by decide, by decide +kernel, rfl, Or.inl (mem_t4 92 rfl rfl)⟩
theorem fl_X9_255 : FL RX9 255 9 44 := ⟨by decide, by decide +kernel, rfl, Or.inl (mem_t4 97 rfl rfl)⟩
theorem fl_X9_264 : FL RX9 264 9 45 := ⟨by decide, by decide +kernel, rfl, Or.inl (mem_t4 98 rfl rfl)⟩
theorem fl_X9_267 : FL RX9 267 9 43 := ⟨by decide, by decide +kernel, rfl, Or.inl (mem_t4 96 rfl rfl)⟩
theorem fl_X9_270 : FL RX9 270 9 41 := ⟨by decide, by decide +kernel, rfl, Or.inl (mem_t4 94 rfl rfl)⟩
theorem fl_X9_273 : FL RX9 273 9 42 := ⟨by decide, by decide +kernel, rfl, Or.inl (mem_t4 95 rfl rfl)⟩
theorem fl_X9_282 : FL RX9 282 9 13 := ⟨by decide, by decide +kernel, rfl, Or.inl (mem_t4 66 rfl rfl)⟩
theorem ml_X8_94 : ML RX8 94 yX6_append := Or.inr ⟨"CellPictures", mem_n2 44 rfl rfl⟩
theorem ml_X8_98 : ML RX8 98 yX7_readsAll := Or.inr ⟨"CellPictures", mem_n2 56 rfl rfl⟩
theorem ml_X8_108 : ML RX8 108 yX0_copy := Or.inr ⟨"CellPictures", mem_n2 150 rfl rfl⟩
theorem ml_X8_111 : ML RX8 111 yX2_clear := Or.inr ⟨"CellPictures", mem_n2 157 rfl rfl⟩
theorem ml_X8_114 : ML RX8 114 yX8_beginPuzzle := Or.inl (mem_t2 161 rfl rfl)
theorem ml_X8_120 : ML RX8 120 yX8_isSize := Or.inl (mem_t2 177 rfl rfl)
theorem ml_X8_124 : ML RX8 124 yX0_begin := Or.inr ⟨"CellPictures", mem_n2 178 rfl rfl⟩
theorem ml_X8_128 : ML RX8 128 yX8_hasPuzzle := Or.inl (mem_t2 183 rfl rfl)
theorem ml_X8_140 : ML RX8 140 yX0_lines := Or.inr ⟨"CellPictures", mem_n2 187 rfl rfl⟩
theorem ml_X8_147 : ML RX8 147 yX4_countSingles := Or.inr ⟨"CellPictures", mem_n2 188 rfl rfl⟩
theorem ml_X8_150 : ML RX8 150 yX8_isLine := Or.inl (mem_t2 210 rfl rfl)
theorem ml_X8_158 : ML RX8 158 yX0_lengthOf := Or.inr ⟨"CellPictures", mem_n2 214 rfl rfl⟩
theorem ml_X8_162 : ML RX8 162 yX0_colourOf := Or.inr ⟨"CellPictures", mem_n2 215 rfl rfl⟩
theorem ml_X8_165 : ML RX8 165 yX8_isCell := Or.inl (mem_t2 220 rfl rfl)
theorem ml_X8_168 : ML RX8 168 yX8_isValueOrNone := Or.inl (mem_t2 224 rfl rfl)
theorem ml_X8_171 : ML RX8 171 yX2_put := Or.inr ⟨"CellPictures", mem_n2 228 rfl rfl⟩
theorem ml_X8_174 : ML RX8 174 yX1_forgetSolutions := Or.inr ⟨"CellPictures", mem_n2 236 rfl rfl⟩
theorem ml_X8_177 : ML RX8 177 yX2_at := Or.inr ⟨"CellPictures", mem_n3 4 rfl rfl⟩
theorem ml_X8_180 : ML RX8 180 yX4_become := Or.inr ⟨"CellPictures", mem_n3 9 rfl rfl⟩
theorem ml_X8_187 : ML RX8 187 yX3_keptOf := Or.inr ⟨"CellPictures", mem_n3 33 rfl rfl⟩
theorem ml_X8_191 : ML RX8 191 yX4_narrow := Or.inr ⟨"CellPictures", mem_n3 56 rfl rfl⟩
theorem ml_X8_195 : ML RX8 195 yJ6_bitCount_0f7a4 := Or.inl (mem_t3 60 rfl rfl)
theorem ml_X8_203 : ML RX8 203 yX3_countWays := Or.inr ⟨"CellPictures", mem_n3 66 rfl rfl⟩
theorem ml_X8_206 : ML RX8 206 yX8_fresh := Or.inl (mem_t3 79 rfl rfl)
theorem ml_X8_209 : ML RX8 209 yX0_allLines := Or.inr ⟨"CellPictures", mem_n3 80 rfl rfl⟩
theorem ml_X8_212 : ML RX8 212 yX5_settle := Or.inr ⟨"CellPictures", mem_n3 84 rfl rfl⟩
theorem ml_X8_216 : ML RX8 216 yX8_rest := Or.inl (mem_t3 95 rfl rfl)
theorem ml_X8_219 : ML RX8 219 yX5_sift := Or.inr ⟨"CellPictures", mem_n3 96 rfl rfl⟩
theorem ml_X8_223 : ML RX8 223 yX4_valuesAt := Or.inr ⟨"CellPictures", mem_n3 125 rfl rfl⟩
theorem ml_X8_226 : ML RX8 226 yX5_seek := Or.inr ⟨"CellPictures", mem_n3 130 rfl rfl⟩
theorem ml_X8_239 : ML RX8 239 yX1_isKept := Or.inr ⟨"CellPictures", mem_n3 186 rfl rfl⟩
theorem ml_X8_242 : ML RX8 242 yX1_kept := Or.inr ⟨"CellPictures", mem_n3 190 rfl rfl⟩
theorem ml_X8_246 : ML RX8 246 yX5_judge := Or.inr ⟨"CellPictures", mem_n3 195 rfl rfl⟩
theorem ml_X8_250 : ML RX8 250 yX8_draftFromMarks := Or.inl (mem_t3 213 rfl rfl)
theorem ml_X8_253 : ML RX8 253 yX0_hasRunsOf := Or.inr ⟨"CellPictures", mem_n4 1 rfl rfl⟩
theorem ml_X8_257 : ML RX8 257 yX8_areGivensMarked := Or.inl (mem_t4 9 rfl rfl)
theorem ml_X8_263 : ML RX8 263 yX4_fill := Or.inr ⟨"CellPictures", mem_n4 22 rfl rfl⟩
theorem ml_X8_266 : ML RX8 266 yX4_tell := Or.inr ⟨"CellPictures", mem_n4 23 rfl rfl⟩
theorem ml_X8_269 : ML RX8 269 yX8_hintOf := Or.inl (mem_t4 24 rfl rfl)
theorem ml_X8_272 : ML RX8 272 yX8_done := Or.inl (mem_t4 41 rfl rfl)
theorem ml_X8_275 : ML RX8 275 yX8_giveFirstUnlike := Or.inl (mem_t4 42 rfl rfl)
theorem ml_X8_278 : ML RX8 278 yX1_forgetAll := Or.inr ⟨"CellPictures", mem_n2 165 rfl rfl⟩
theorem ml_X8_281 : ML RX8 281 yX0_readLine := Or.inr ⟨"CellPictures", mem_n3 217 rfl rfl⟩
theorem ml_X8_285 : ML RX8 285 yX2_valueAt := Or.inr ⟨"CellPictures", mem_n4 13 rfl rfl⟩
theorem ml_X8_288 : ML RX8 288 yX0_cellsOf := Or.inr ⟨"CellPictures", mem_n4 28 rfl rfl⟩
theorem ml_X8_291 : ML RX8 291 yX0_xOf := Or.inr ⟨"CellPictures", mem_n4 29 rfl rfl⟩
theorem ml_X8_294 : ML RX8 294 yX0_yOf := Or.inr ⟨"CellPictures", mem_n4 30 rfl rfl⟩
theorem ml_X8_297 : ML RX8 297 yX4_valuesIn := Or.inr ⟨"CellPictures", mem_n4 31 rfl rfl⟩
theorem ml_X8_301 : ML RX8 301 yX4_leastOf := Or.inr ⟨"CellPictures", mem_n4 32 rfl rfl⟩
theorem ml_X8_307 : ML RX8 307 yX8_give := Or.inl (mem_t4 46 rfl rfl)
theorem ml_X0_34 : ML RX0 34 yJ7_fill_53178 := Or.inl (mem_t2 104 rfl rfl)
theorem ml_X0_40 : cpW RX0 40 := mem_t2 154 rfl rfl
theorem ml_X0_46 : ML RX0 46 yX0_lines := Or.inl (mem_t2 149 rfl rfl)
theorem ml_X0_50 : ML RX0 50 yX0_lengthOf := Or.inl (mem_t2 125 rfl rfl)
theorem ml_X0_54 : ML RX0 54 yX0_needsGapAhead := Or.inl (mem_t2 129 rfl rfl)
theorem ml_X0_58 : ML RX0 58 yX0_cellsOf := Or.inl (mem_t2 133 rfl rfl)
theorem ml_X0_62 : ML RX0 62 yX0_cellsTold := Or.inl (mem_t2 141 rfl rfl)
theorem ml_X0_66 : ML RX0 66 yX0_colourOf := Or.inl (mem_t2 145 rfl rfl)
theorem ml_X0_69 : ML RX0 69 yX0_xOf := Or.inl (mem_t3 221 rfl rfl)
theorem ml_X0_72 : ML RX0 72 yX0_yOf := Or.inl (mem_t3 225 rfl rfl)
theorem ml_X0_75 : ML RX0 75 yX2_valueAt := Or.inr ⟨"CellPictures", mem_n3 229 rfl rfl⟩
theorem ml_X0_80 : ML RX0 80 yX0_addStretch := Or.inl (mem_t3 236 rfl rfl)
theorem ml_X0_84 : ML RX0 84 yX0_add := Or.inl (mem_t4 0 rfl rfl)
theorem ml_X0_87 : ML RX0 87 yX0_isLineLike := Or.inl (mem_t4 5 rfl rfl)
theorem ml_X1_32 : ML RX1 32 yX1_kept := Or.inl (mem_t3 156 rfl rfl)
theorem ml_X1_50 : ML RX1 50 yX4_valuesAt := Or.inr ⟨"CellPictures", mem_n3 160 rfl rfl⟩
theorem ml_X1_54 : ML RX1 54 yX4_leastOf := Or.inr ⟨"CellPictures", mem_n3 161 rfl rfl⟩
theorem ml_X1_58 : ML RX1 58 yX2_put := Or.inr ⟨"CellPictures", mem_n3 164 rfl rfl⟩
theorem ml_X2_19 : ML RX2 19 yJ7_fill_53178 := Or.inl (mem_t1 122 rfl rfl)
theorem ml_X2_25 : ML RX2 25 yX2_at := Or.inl (mem_t2 232 rfl rfl)
theorem ml_X2_29 : mxW RX2 29 := mem_t3 233 rfl rfl
theorem ml_X3_29 : ML RX3 29 yX0_cellsOf := Or.inr ⟨"CellPictures", mem_n3 37 rfl rfl⟩
theorem ml_X3_38 : ML RX3 38 yX3_cellsWith := Or.inl (mem_t3 38 rfl rfl)
theorem ml_X3_42 : ML RX3 42 yX3_spreadUp := Or.inl (mem_t3 41 rfl rfl)
theorem ml_X3_46 : ML RX3 46 yX0_lengthOf := Or.inr ⟨"CellPictures", mem_n3 44 rfl rfl⟩
theorem ml_X3_49 : ML RX3 49 yX0_needsGapAhead := Or.inr ⟨"CellPictures", mem_n3 45 rfl rfl⟩
theorem ml_X3_53 : ML RX3 53 yX0_colourOf := Or.inr ⟨"CellPictures", mem_n3 46 rfl rfl⟩
theorem ml_X3_56 : ML RX3 56 yX3_stretches := Or.inl (mem_t3 47 rfl rfl)
theorem ml_X3_59 : ML RX3 59 yX3_spreadDown := Or.inl (mem_t3 50 rfl rfl)
theorem ml_X3_62 : ML RX3 62 yX3_cover := Or.inl (mem_t3 53 rfl rfl)
theorem ml_X3_65 : ML RX3 65 yX3_countRun := Or.inl (mem_t3 70 rfl rfl)
theorem ml_X3_69 : cpW RX3 69 := mem_t3 74 rfl rfl
theorem ml_X4_19 : ML RX4 19 yX4_fill := Or.inl (mem_t3 13 rfl rfl)
theorem ml_X4_22 : ML RX4 22 yX4_tell := Or.inl (mem_t3 19 rfl rfl)
theorem ml_X4_26 : ML RX4 26 yX0_lines := Or.inr ⟨"CellPictures", mem_n3 17 rfl rfl⟩
theorem ml_X4_31 : ML RX4 31 yX0_cellsOf := Or.inr ⟨"CellPictures", mem_n3 18 rfl rfl⟩
theorem ml_X4_45 : ML RX4 45 yX2_at := Or.inr ⟨"CellPictures", mem_n3 23 rfl rfl⟩
theorem ml_X4_51 : ML RX4 51 yX4_fix := Or.inl (mem_t3 24 rfl rfl)
theorem ml_X4_55 : cpW RX4 55 := mem_t3 114 rfl rfl
theorem ml_X4_65 : ML RX4 65 yX4_valuesIn := Or.inl (mem_t2 196 rfl rfl)
theorem ml_X4_69 : ML RX4 69 yX4_valuesAt := Or.inl (mem_t2 192 rfl rfl)
theorem ml_X4_72 : ML RX4 72 yJ6_bitCount_0f7a4 := Or.inl (mem_t2 200 rfl rfl)
theorem ml_X5_46 : ML RX5 46 yX0_lines := Or.inr ⟨"CellPictures", mem_n3 88 rfl rfl⟩
theorem ml_X5_54 : ML RX5 54 yX3_keptOf := Or.inr ⟨"CellPictures", mem_n3 89 rfl rfl⟩
theorem ml_X5_60 : ML RX5 60 yX4_narrow := Or.inr ⟨"CellPictures", mem_n3 90 rfl rfl⟩
theorem ml_X5_70 : ML RX5 70 yX5_siftCell := Or.inl (mem_t3 100 rfl rfl)
theorem ml_X5_74 : ML RX5 74 yX4_linesThrough := Or.inr ⟨"CellPictures", mem_n3 104 rfl rfl⟩
theorem ml_X5_81 : ML RX5 81 yX4_valuesAt := Or.inr ⟨"CellPictures", mem_n3 108 rfl rfl⟩
theorem ml_X5_84 : ML RX5 84 yJ6_bitCount_0f7a4 := Or.inl (mem_t3 109 rfl rfl)
theorem ml_X5_90 : ML RX5 90 yX4_copy := Or.inr ⟨"CellPictures", mem_n3 110 rfl rfl⟩
theorem ml_X5_94 : ML RX5 94 yX4_fix := Or.inr ⟨"CellPictures", mem_n3 115 rfl rfl⟩
theorem ml_X5_98 : ML RX5 98 yX5_settle := Or.inl (mem_t3 116 rfl rfl)
theorem ml_X5_102 : ML RX5 102 yX4_drop := Or.inr ⟨"CellPictures", mem_n3 117 rfl rfl⟩
theorem ml_X5_105 : ML RX5 105 yX1_begin := Or.inr ⟨"CellPictures", mem_n3 134 rfl rfl⟩
theorem ml_X5_110 : ML RX5 110 yX4_become := Or.inr ⟨"CellPictures", mem_n3 138 rfl rfl⟩
theorem ml_X5_114 : ML RX5 114 yX0_allLines := Or.inr ⟨"CellPictures", mem_n3 139 rfl rfl⟩
theorem ml_X5_117 : ML RX5 117 yX5_opensChoice := Or.inl (mem_t3 140 rfl rfl)
theorem ml_X5_121 : ML RX5 121 yX1_add := Or.inr ⟨"CellPictures", mem_n3 152 rfl rfl⟩
theorem ml_X5_127 : ML RX5 127 yX5_closeEmptyChoices := Or.inl (mem_t3 165 rfl rfl)
theorem ml_X5_137 : ML RX5 137 yX5_followsChoice := Or.inl (mem_t3 169 rfl rfl)
theorem ml_X5_140 : ML RX5 140 yX4_firstOfFewest := Or.inr ⟨"CellPictures", mem_n3 144 rfl rfl⟩
theorem ml_X5_143 : ML RX5 143 yX4_saveTo := Or.inr ⟨"CellPictures", mem_n3 148 rfl rfl⟩
theorem ml_X5_147 : ML RX5 147 yX4_leastOf := Or.inr ⟨"CellPictures", mem_n3 173 rfl rfl⟩
theorem ml_X5_150 : ML RX5 150 yX4_restoreFrom := Or.inr ⟨"CellPictures", mem_n3 174 rfl rfl⟩
theorem ml_X5_153 : ML RX5 153 yX5_sift := Or.inl (mem_t3 199 rfl rfl)
theorem ml_X5_157 : ML RX5 157 yX5_seek := Or.inl (mem_t3 200 rfl rfl)
theorem ml_X7_38 : ML RX7 38 yX7_cutsClean := Or.inl (mem_t2 60 rfl rfl)
theorem ml_X7_42 : ML RX7 42 yX7_advance := Or.inl (mem_t2 81 rfl rfl)
theorem ml_X7_45 : ML RX7 45 yX7_readsHead := Or.inl (mem_t2 89 rfl rfl)
theorem ml_X7_48 : ML RX7 48 yX0_lines := Or.inr ⟨"CellPictures", mem_n2 105 rfl rfl⟩
theorem ml_X7_54 : ML RX7 54 yX7_readsLine := Or.inl (mem_t2 109 rfl rfl)
theorem ml_X7_58 : ML RX7 58 yX7_refuse := Or.inl (mem_t2 77 rfl rfl)
theorem ml_X7_61 : ML RX7 61 yX0_isBalanced := Or.inr ⟨"CellPictures", mem_n2 137 rfl rfl⟩
theorem ml_X7_69 : ML RX7 69 yX6_byteAt := Or.inr ⟨"CellPictures", mem_n2 64 rfl rfl⟩
theorem ml_X7_73 : ML RX7 73 yX7_isDigit := Or.inl (mem_t2 68 rfl rfl)
theorem ml_X7_76 : ML RX7 76 yX7_isLetter := Or.inl (mem_t2 71 rfl rfl)
theorem ml_X7_79 : ML RX7 79 yX7_isSpace := Or.inl (mem_t2 74 rfl rfl)
theorem ml_X7_82 : ML RX7 82 yX7_endOfDigits := Or.inl (mem_t2 85 rfl rfl)
theorem ml_X7_85 : ML RX7 85 yX7_sizeRead := Or.inl (mem_t2 93 rfl rfl)
theorem ml_X7_88 : ML RX7 88 yX0_begin := Or.inr ⟨"CellPictures", mem_n2 100 rfl rfl⟩
theorem ml_X7_92 : ML RX7 92 yX8_isSize := Or.inr ⟨"CellPictures", mem_n2 97 rfl rfl⟩
theorem ml_X7_96 : ML RX7 96 yX7_readsRun := Or.inl (mem_t2 113 rfl rfl)
theorem ml_X7_99 : ML RX7 99 yX0_fitsItsCells := Or.inr ⟨"CellPictures", mem_n2 121 rfl rfl⟩
theorem ml_X7_105 : ML RX7 105 yX0_add := Or.inr ⟨"CellPictures", mem_n2 117 rfl rfl⟩
theorem ml_L_13 : ML RL 13 yX8_feed := Or.inl (mem_t2 40 rfl rfl)
theorem ml_L_17 : ML RL 17 yX9_feed := Or.inl (mem_t4 204 rfl rfl)
theorem ml_L_18 : ML RL 18 yX8_end := Or.inl (mem_t2 48 rfl rfl)
theorem ml_L_22 : ML RL 22 yX9_end := Or.inl (mem_t4 212 rfl rfl)
theorem ml_L_23 : ML RL 23 yX8_load := Or.inl (mem_t2 52 rfl rfl)
theorem ml_L_27 : ML RL 27 yX9_load := Or.inl (mem_t4 219 rfl rfl)
theorem ml_L_28 : ML RL 28 yX8_fault := Or.inl (mem_t2 169 rfl rfl)
theorem ml_L_31 : ML RL 31 yX9_fault := Or.inl (mem_t5 35 rfl rfl)
theorem ml_L_32 : ML RL 32 yX8_blank := Or.inl (mem_t2 173 rfl rfl)
theorem ml_L_36 : ML RL 36 yX9_blank := Or.inl (mem_t5 39 rfl rfl)
theorem ml_L_37 : ML RL 37 yX8_about := Or.inl (mem_t2 179 rfl rfl)
theorem ml_L_40 : ML RL 40 yX9_about := Or.inl (mem_t5 43 rfl rfl)
theorem ml_L_41 : ML RL 41 yX8_run := Or.inl (mem_t2 206 rfl rfl)
theorem ml_L_45 : ML RL 45 yX9_run := Or.inl (mem_t5 58 rfl rfl)
theorem ml_L_46 : ML RL 46 yX8_give := Or.inl (mem_t2 216 rfl rfl)
theorem ml_L_49 : ML RL 49 yX9_give := Or.inl (mem_t5 66 rfl rfl)
theorem ml_L_50 : ML RL 50 yX8_given := Or.inl (mem_t3 0 rfl rfl)
theorem ml_L_54 : ML RL 54 yX9_given := Or.inl (mem_t5 70 rfl rfl)
theorem ml_L_55 : ML RL 55 yX8_fresh := Or.inl (mem_t3 5 rfl rfl)
theorem ml_L_59 : ML RL 59 yX9_fresh := Or.inl (mem_t5 74 rfl rfl)
theorem ml_L_60 : ML RL 60 yX8_rule := Or.inl (mem_t3 29 rfl rfl)
theorem ml_L_63 : ML RL 63 yX9_rule := Or.inl (mem_t5 82 rfl rfl)
theorem ml_L_64 : ML RL 64 yX8_ways := Or.inl (mem_t3 61 rfl rfl)
theorem ml_L_68 : ML RL 68 yX9_ways := Or.inl (mem_t5 110 rfl rfl)
theorem ml_L_69 : ML RL 69 yX8_rest := Or.inl (mem_t3 75 rfl rfl)
theorem ml_L_72 : ML RL 72 yX9_rest := Or.inl (mem_t5 115 rfl rfl)
theorem ml_L_73 : ML RL 73 yX8_tries := Or.inl (mem_t3 91 rfl rfl)
theorem ml_L_76 : ML RL 76 yX9_tries := Or.inl (mem_t5 127 rfl rfl)
theorem ml_L_77 : ML RL 77 yX8_set := Or.inl (mem_t3 121 rfl rfl)
theorem ml_L_80 : ML RL 80 yX9_set := Or.inl (mem_t5 139 rfl rfl)
theorem ml_L_81 : ML RL 81 yX8_search := Or.inl (mem_t3 126 rfl rfl)
theorem ml_L_84 : ML RL 84 yX9_search := Or.inl (mem_t5 143 rfl rfl)
theorem ml_L_85 : ML RL 85 yX8_nodes := Or.inl (mem_t3 178 rfl rfl)
theorem ml_L_88 : ML RL 88 yX9_nodes := Or.inl (mem_t5 166 rfl rfl)
theorem ml_L_89 : ML RL 89 yX8_solution := Or.inl (mem_t3 182 rfl rfl)
theorem ml_L_92 : ML RL 92 yX9_solution := Or.inl (mem_t5 170 rfl rfl)
theorem ml_L_93 : ML RL 93 yX8_level := Or.inl (mem_t3 191 rfl rfl)
theorem ml_L_96 : ML RL 96 yX9_level := Or.inl (mem_t5 174 rfl rfl)
theorem ml_L_97 : ML RL 97 yX8_mark := Or.inl (mem_t3 201 rfl rfl)
theorem ml_L_100 : ML RL 100 yX9_mark := Or.inl (mem_t5 178 rfl rfl)
theorem ml_L_101 : ML RL 101 yX8_marked := Or.inl (mem_t3 205 rfl rfl)
theorem ml_L_104 : ML RL 104 yX9_marked := Or.inl (mem_t5 182 rfl rfl)
theorem ml_L_105 : ML RL 105 yX8_done := Or.inl (mem_t3 209 rfl rfl)
theorem ml_L_108 : ML RL 108 yX9_done := Or.inl (mem_t5 186 rfl rfl)
theorem ml_L_109 : ML RL 109 yX8_wrong := Or.inl (mem_t4 14 rfl rfl)
theorem ml_L_112 : ML RL 112 yX9_wrong := Or.inl (mem_t5 202 rfl rfl)
theorem ml_L_113 : ML RL 113 yX8_hint := Or.inl (mem_t4 18 rfl rfl)
theorem ml_L_116 : ML RL 116 yX9_hint := Or.inl (mem_t5 206 rfl rfl)
theorem ml_L_117 : ML RL 117 yX8_draw := Or.inl (mem_t4 33 rfl rfl)
theorem ml_L_120 : ML RL 120 yX9_draw := Or.inl (mem_t5 210 rfl rfl)
theorem ml_L_121 : ML RL 121 yX8_mend := Or.inl (mem_t4 37 rfl rfl)
theorem ml_L_124 : ML RL 124 yX9_mend := Or.inl (mem_t5 214 rfl rfl)
theorem ml_X9_89 : ML RX9 89 yX9_is := Or.inl (mem_t5 47 rfl rfl)
theorem ml_X9_93 : ML RX9 93 yX9_lines := Or.inl (mem_t5 31 rfl rfl)
theorem ml_X9_97 : ML RX9 97 yX9_in := Or.inl (mem_t4 216 rfl rfl)
theorem ml_X9_111 : ML RX9 111 yX9_four := Or.inl (mem_t4 208 rfl rfl)
theorem ml_X9_124 : ML RX9 124 yX9_good := Or.inl (mem_t4 227 rfl rfl)
theorem ml_X9_127 : ML RX9 127 yX9_fails := Or.inl (mem_t4 231 rfl rfl)
theorem ml_X9_131 : ML RX9 131 yX9_token := Or.inl (mem_t4 235 rfl rfl)
theorem ml_X9_141 : ML RX9 141 yX9_oneRun := Or.inl (mem_t5 11 rfl rfl)
theorem ml_X9_150 : ML RX9 150 yX9_cut := Or.inl (mem_t4 223 rfl rfl)
theorem ml_X9_153 : ML RX9 153 yX9_number := Or.inl (mem_t4 239 rfl rfl)
theorem ml_X9_157 : ML RX9 157 yX9_semi := Or.inl (mem_t5 3 rfl rfl)
theorem ml_X9_160 : ML RX9 160 yX9_oneLine := Or.inl (mem_t5 7 rfl rfl)
theorem ml_X9_163 : ML RX9 163 yX9_colourSumsDiffer := Or.inl (mem_t5 15 rfl rfl)
theorem ml_X9_172 : ML RX9 172 yX9_isNew := Or.inl (mem_t5 19 rfl rfl)
theorem ml_X9_175 : ML RX9 175 yX9_noMarks := Or.inl (mem_t5 23 rfl rfl)
theorem ml_X9_178 : ML RX9 178 yX9_runMany := Or.inl (mem_t5 27 rfl rfl)
theorem ml_X9_181 : ML RX9 181 yX9_isCell := Or.inl (mem_t5 51 rfl rfl)
theorem ml_X9_185 : ML RX9 185 yX9_many := Or.inl (mem_t5 55 rfl rfl)
theorem ml_X9_189 : ML RX9 189 yX9_isLine := Or.inl (mem_t5 62 rfl rfl)
theorem ml_X9_193 : ML RX9 193 yX9_first := Or.inl (mem_t5 78 rfl rfl)
theorem ml_X9_206 : ML RX9 206 yX9_cellOf := Or.inl (mem_t5 106 rfl rfl)
theorem ml_X9_209 : ML RX9 209 yX9_sizeOf := Or.inl (mem_t5 98 rfl rfl)
theorem ml_X9_212 : ML RX9 212 yX9_can := Or.inl (mem_t5 102 rfl rfl)
theorem ml_X9_219 : ML RX9 219 yX9_lay := Or.inl (mem_t5 94 rfl rfl)
theorem ml_X9_222 : ML RX9 222 yX9_allWays := Or.inl (mem_t5 90 rfl rfl)
theorem ml_X9_229 : ML RX9 229 yX9_lineRule := Or.inl (mem_t5 86 rfl rfl)
theorem ml_X9_236 : ML RX9 236 yX9_inOrder := Or.inl (mem_t5 135 rfl rfl)
theorem ml_X9_239 : ML RX9 239 yX9_toRest := Or.inl (mem_t5 123 rfl rfl)
theorem ml_X9_245 : ML RX9 245 yX9_needSets := Or.inl (mem_t5 119 rfl rfl)
theorem ml_X9_248 : ML RX9 248 yX9_trying := Or.inl (mem_t5 131 rfl rfl)
theorem ml_X9_252 : ML RX9 252 yX9_allOne := Or.inl (mem_t5 155 rfl rfl)
theorem ml_X9_258 : ML RX9 258 yX9_least := Or.inl (mem_t5 159 rfl rfl)
theorem ml_X9_261 : ML RX9 261 yX9_branch := Or.inl (mem_t5 162 rfl rfl)
theorem ml_X9_276 : ML RX9 276 yX9_look := Or.inl (mem_t5 151 rfl rfl)
theorem ml_X9_279 : ML RX9 279 yX9_searches := Or.inl (mem_t5 147 rfl rfl)
theorem ml_X9_285 : ML RX9 285 yX9_shown := Or.inl (mem_t5 194 rfl rfl)
theorem ml_X9_288 : ML RX9 288 yX9_readsAs := Or.inl (mem_t5 198 rfl rfl)
theorem ml_X9_291 : ML RX9 291 yX9_isDone := Or.inl (mem_t5 190 rfl rfl)
theorem kc_X8_201 : Cond.constantLong RX8 201 (-1) ∈ gtb := mem_t3 65 rfl rfl
theorem kc_X4_61 : Cond.constantLong RX4 61 (68736258049) ∈ gtb := mem_t2 199 rfl rfl
theorem kc_X4_63 : Cond.constantLong RX4 63 (-1) ∈ gtb := mem_t3 28 rfl rfl
theorem kc_X9_243 : Cond.constantLong RX9 243 (-1) ∈ gtb := mem_t5 114 rfl rfl
theorem kc_J6_265 : Cond.constant RJ6 265 (1431655765) ∈ gtb := mem_t2 203 rfl rfl
theorem kc_J6_266 : Cond.constant RJ6 266 (858993459) ∈ gtb := mem_t2 204 rfl rfl
theorem kc_J6_267 : Cond.constant RJ6 267 (252645135) ∈ gtb := mem_t2 205 rfl rfl
