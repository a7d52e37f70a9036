/-! constructors (written by wip/gen/ctor.py) -/
abbrev m_X6_init : MD := (yX6_init, cX6_init, 1, none)
theorem mo_X6_init : MOk m_X6_init 0 := ⟨mem_t1 27 rfl rfl, mem_t1 2 rfl rfl, by decide +kernel, by decide⟩
abbrev m_X0_init : MD := (yX0_init, cX0_init, 1, none)
theorem mo_X0_init : MOk m_X0_init 0 := ⟨mem_t1 43 rfl rfl, mem_t1 3 rfl rfl, by decide +kernel, by decide⟩
abbrev m_X7_init : MD := (yX7_init, cX7_init, 3, none)
theorem mo_X7_init : MOk m_X7_init 2 := ⟨mem_t1 87 rfl rfl, mem_t1 4 rfl rfl, by decide +kernel, by decide⟩
abbrev m_X2_init : MD := (yX2_init, cX2_init, 1, none)
theorem mo_X2_init : MOk m_X2_init 0 := ⟨mem_t1 120 rfl rfl, mem_t1 5 rfl rfl, by decide +kernel, by decide⟩
abbrev m_X3_init : MD := (yX3_init, cX3_init, 2, none)
theorem mo_X3_init : MOk m_X3_init 1 := ⟨mem_t1 137 rfl rfl, mem_t1 7 rfl rfl, by decide +kernel, by decide⟩
abbrev m_X4_init : MD := (yX4_init, cX4_init, 2, none)
theorem mo_X4_init : MOk m_X4_init 1 := ⟨mem_t1 166 rfl rfl, mem_t1 9 rfl rfl, by decide +kernel, by decide⟩
abbrev m_X5_init : MD := (yX5_init, cX5_init, 3, none)
theorem mo_X5_init : MOk m_X5_init 2 := ⟨mem_t1 160 rfl rfl, mem_t1 8 rfl rfl, by decide +kernel, by decide⟩
abbrev m_X1_init : MD := (yX1_init, cX1_init, 1, none)
theorem mo_X1_init : MOk m_X1_init 0 := ⟨mem_t1 209 rfl rfl, mem_t1 10 rfl rfl, by decide +kernel, by decide⟩
abbrev m_X8_init : MD := (yX8_init, cX8_init, 1, none)
theorem mo_X8_init : MOk m_X8_init 0 := ⟨mem_t1 19 rfl rfl, mem_t1 1 rfl rfl, by decide +kernel, by decide⟩
abbrev m_X9_init : MD := (yX9_init, cX9_init, 1, none)
theorem mo_X9_init : MOk m_X9_init 0 := ⟨mem_t4 51 rfl rfl, mem_t1 11 rfl rfl, by decide +kernel, by decide⟩
theorem ic_X6_init : Cond.instanceMethod yX6_init ∈ gtb := mem_t1 26 rfl rfl
theorem ic_X0_init : Cond.instanceMethod yX0_init ∈ gtb := mem_t1 42 rfl rfl
theorem ic_X7_init : Cond.instanceMethod yX7_init ∈ gtb := mem_t1 86 rfl rfl
theorem ic_X2_init : Cond.instanceMethod yX2_init ∈ gtb := mem_t1 119 rfl rfl
theorem ic_X3_init : Cond.instanceMethod yX3_init ∈ gtb := mem_t1 136 rfl rfl
theorem ic_X4_init : Cond.instanceMethod yX4_init ∈ gtb := mem_t1 165 rfl rfl
theorem ic_X5_init : Cond.instanceMethod yX5_init ∈ gtb := mem_t1 159 rfl rfl
theorem ic_X1_init : Cond.instanceMethod yX1_init ∈ gtb := mem_t1 208 rfl rfl
theorem ic_X8_init : Cond.instanceMethod yX8_init ∈ gtb := mem_t1 18 rfl rfl
theorem ic_X9_init : Cond.instanceMethod yX9_init ∈ gtb := mem_t4 50 rfl rfl
theorem fc_X8_12 : FL RX8 12 8 0 ∧ Cond.fieldLink RX8 12 (cT 8).1 ((cT 8).2.1 0).2.1 ((cT 8).2.1 0).2.2.1 ∈ gtb := ⟨⟨by decide, by decide +kernel, rfl, Or.inl (mem_t1 237 rfl rfl)⟩, mem_t1 237 rfl rfl⟩
theorem fc_X8_19 : FL RX8 19 8 1 ∧ Cond.fieldLink RX8 19 (cT 8).1 ((cT 8).2.1 1).2.1 ((cT 8).2.1 1).2.2.1 ∈ gtb := ⟨⟨by decide, by decide +kernel, rfl, Or.inl (mem_t1 238 rfl rfl)⟩, mem_t1 238 rfl rfl⟩
theorem fc_X8_23 : FL RX8 23 8 2 ∧ Cond.fieldLink RX8 23 (cT 8).1 ((cT 8).2.1 2).2.1 ((cT 8).2.1 2).2.2.1 ∈ gtb := ⟨⟨by decide, by decide +kernel, rfl, Or.inl (mem_t1 239 rfl rfl)⟩, mem_t1 239 rfl rfl⟩
theorem fc_X8_31 : FL RX8 31 8 3 ∧ Cond.fieldLink RX8 31 (cT 8).1 ((cT 8).2.1 3).2.1 ((cT 8).2.1 3).2.2.1 ∈ gtb := ⟨⟨by decide, by decide +kernel, rfl, Or.inl (mem_t2 0 rfl rfl)⟩, mem_t2 0 rfl rfl⟩
theorem fc_X8_38 : FL RX8 38 8 4 ∧ Cond.fieldLink RX8 38 (cT 8).1 ((cT 8).2.1 4).2.1 ((cT 8).2.1 4).2.2.1 ∈ gtb := ⟨⟨by decide, by decide +kernel, rfl, Or.inl (mem_t2 1 rfl rfl)⟩, mem_t2 1 rfl rfl⟩
theorem fc_X8_42 : FL RX8 42 8 5 ∧ Cond.fieldLink RX8 42 (cT 8).1 ((cT 8).2.1 5).2.1 ((cT 8).2.1 5).2.2.1 ∈ gtb := ⟨⟨by decide, by decide +kernel, rfl, Or.inl (mem_t2 2 rfl rfl)⟩, mem_t2 2 rfl rfl⟩
theorem fc_X8_50 : FL RX8 50 8 6 ∧ Cond.fieldLink RX8 50 (cT 8).1 ((cT 8).2.1 6).2.1 ((cT 8).2.1 6).2.2.1 ∈ gtb := ⟨⟨by decide, by decide +kernel, rfl, Or.inl (mem_t2 3 rfl rfl)⟩, mem_t2 3 rfl rfl⟩
theorem fc_X8_59 : FL RX8 59 8 7 ∧ Cond.fieldLink RX8 59 (cT 8).1 ((cT 8).2.1 7).2.1 ((cT 8).2.1 7).2.2.1 ∈ gtb := ⟨⟨by decide, by decide +kernel, rfl, Or.inl (mem_t2 4 rfl rfl)⟩, mem_t2 4 rfl rfl⟩
theorem fc_X8_66 : FL RX8 66 8 8 ∧ Cond.fieldLink RX8 66 (cT 8).1 ((cT 8).2.1 8).2.1 ((cT 8).2.1 8).2.2.1 ∈ gtb := ⟨⟨by decide, by decide +kernel, rfl, Or.inl (mem_t2 5 rfl rfl)⟩, mem_t2 5 rfl rfl⟩
theorem fc_X8_70 : FL RX8 70 8 9 ∧ Cond.fieldLink RX8 70 (cT 8).1 ((cT 8).2.1 9).2.1 ((cT 8).2.1 9).2.2.1 ∈ gtb := ⟨⟨by decide, by decide +kernel, rfl, Or.inl (mem_t2 6 rfl rfl)⟩, mem_t2 6 rfl rfl⟩
theorem fc_X8_76 : FL RX8 76 8 10 ∧ Cond.fieldLink RX8 76 (cT 8).1 ((cT 8).2.1 10).2.1 ((cT 8).2.1 10).2.2.1 ∈ gtb := ⟨⟨by decide, by decide +kernel, rfl, Or.inl (mem_t2 7 rfl rfl)⟩, mem_t2 7 rfl rfl⟩
theorem fc_X8_80 : FL RX8 80 8 11 ∧ Cond.fieldLink RX8 80 (cT 8).1 ((cT 8).2.1 11).2.1 ((cT 8).2.1 11).2.2.1 ∈ gtb := ⟨⟨by decide, by decide +kernel, rfl, Or.inl (mem_t2 8 rfl rfl)⟩, mem_t2 8 rfl rfl⟩
theorem fc_X8_83 : FL RX8 83 8 12 ∧ Cond.fieldLink RX8 83 (cT 8).1 ((cT 8).2.1 12).2.1 ((cT 8).2.1 12).2.2.1 ∈ gtb := ⟨⟨by decide, by decide +kernel, rfl, Or.inl (mem_t2 9 rfl rfl)⟩, mem_t2 9 rfl rfl⟩
theorem fc_X8_87 : FL RX8 87 8 13 ∧ Cond.fieldLink RX8 87 (cT 8).1 ((cT 8).2.1 13).2.1 ((cT 8).2.1 13).2.2.1 ∈ gtb := ⟨⟨by decide, by decide +kernel, rfl, Or.inl (mem_t2 10 rfl rfl)⟩, mem_t2 10 rfl rfl⟩
theorem fc_X0_9 : FL RX0 9 0 0 ∧ Cond.fieldLink RX0 9 (cT 0).1 ((cT 0).2.1 0).2.1 ((cT 0).2.1 0).2.2.1 ∈ gtb := ⟨⟨by decide, by decide +kernel, rfl, Or.inl (mem_t1 45 rfl rfl)⟩, mem_t1 45 rfl rfl⟩
theorem fc_X0_15 : FL RX0 15 0 1 ∧ Cond.fieldLink RX0 15 (cT 0).1 ((cT 0).2.1 1).2.1 ((cT 0).2.1 1).2.2.1 ∈ gtb := ⟨⟨by decide, by decide +kernel, rfl, Or.inl (mem_t1 48 rfl rfl)⟩, mem_t1 48 rfl rfl⟩
theorem fc_X0_18 : FL RX0 18 0 2 ∧ Cond.fieldLink RX0 18 (cT 0).1 ((cT 0).2.1 2).2.1 ((cT 0).2.1 2).2.2.1 ∈ gtb := ⟨⟨by decide, by decide +kernel, rfl, Or.inl (mem_t1 49 rfl rfl)⟩, mem_t1 49 rfl rfl⟩
theorem fc_X0_21 : FL RX0 21 0 3 ∧ Cond.fieldLink RX0 21 (cT 0).1 ((cT 0).2.1 3).2.1 ((cT 0).2.1 3).2.2.1 ∈ gtb := ⟨⟨by decide, by decide +kernel, rfl, Or.inl (mem_t1 50 rfl rfl)⟩, mem_t1 50 rfl rfl⟩
theorem fc_X0_25 : FL RX0 25 0 4 ∧ Cond.fieldLink RX0 25 (cT 0).1 ((cT 0).2.1 4).2.1 ((cT 0).2.1 4).2.2.1 ∈ gtb := ⟨⟨by decide, by decide +kernel, rfl, Or.inl (mem_t1 55 rfl rfl)⟩, mem_t1 55 rfl rfl⟩
theorem fc_X0_28 : FL RX0 28 0 5 ∧ Cond.fieldLink RX0 28 (cT 0).1 ((cT 0).2.1 5).2.1 ((cT 0).2.1 5).2.2.1 ∈ gtb := ⟨⟨by decide, by decide +kernel, rfl, Or.inl (mem_t1 60 rfl rfl)⟩, mem_t1 60 rfl rfl⟩
theorem fc_X0_31 : FL RX0 31 0 6 ∧ Cond.fieldLink RX0 31 (cT 0).1 ((cT 0).2.1 6).2.1 ((cT 0).2.1 6).2.2.1 ∈ gtb := ⟨⟨by decide, by decide +kernel, rfl, Or.inl (mem_t1 65 rfl rfl)⟩, mem_t1 65 rfl rfl⟩
theorem fc_X1_12 : FL RX1 12 1 0 ∧ Cond.fieldLink RX1 12 (cT 1).1 ((cT 1).2.1 0).2.1 ((cT 1).2.1 0).2.2.1 ∈ gtb := ⟨⟨by decide, by decide +kernel, rfl, Or.inl (mem_t1 213 rfl rfl)⟩, mem_t1 213 rfl rfl⟩
theorem fc_X1_18 : FL RX1 18 1 1 ∧ Cond.fieldLink RX1 18 (cT 1).1 ((cT 1).2.1 1).2.1 ((cT 1).2.1 1).2.2.1 ∈ gtb := ⟨⟨by decide, by decide +kernel, rfl, Or.inl (mem_t1 215 rfl rfl)⟩, mem_t1 215 rfl rfl⟩
theorem fc_X1_21 : FL RX1 21 1 2 ∧ Cond.fieldLink RX1 21 (cT 1).1 ((cT 1).2.1 2).2.1 ((cT 1).2.1 2).2.2.1 ∈ gtb := ⟨⟨by decide, by decide +kernel, rfl, Or.inl (mem_t1 217 rfl rfl)⟩, mem_t1 217 rfl rfl⟩
theorem fc_X1_25 : FL RX1 25 1 3 ∧ Cond.fieldLink RX1 25 (cT 1).1 ((cT 1).2.1 3).2.1 ((cT 1).2.1 3).2.2.1 ∈ gtb := ⟨⟨by decide, by decide +kernel, rfl, Or.inl (mem_t1 220 rfl rfl)⟩, mem_t1 220 rfl rfl⟩
theorem fc_X1_28 : FL RX1 28 1 4 ∧ Cond.fieldLink RX1 28 (cT 1).1 ((cT 1).2.1 4).2.1 ((cT 1).2.1 4).2.2.1 ∈ gtb := ⟨⟨by decide, by decide +kernel, rfl, Or.inl (mem_t1 223 rfl rfl)⟩, mem_t1 223 rfl rfl⟩
theorem fc_X2_9 : FL RX2 9 2 0 ∧ Cond.fieldLink RX2 9 (cT 2).1 ((cT 2).2.1 0).2.1 ((cT 2).2.1 0).2.2.1 ∈ gtb := ⟨⟨by decide, by decide +kernel, rfl, Or.inl (mem_t1 125 rfl rfl)⟩, mem_t1 125 rfl rfl⟩
theorem fc_X2_15 : FL RX2 15 2 1 ∧ Cond.fieldLink RX2 15 (cT 2).1 ((cT 2).2.1 1).2.1 ((cT 2).2.1 1).2.2.1 ∈ gtb := ⟨⟨by decide, by decide +kernel, rfl, Or.inl (mem_t1 126 rfl rfl)⟩, mem_t1 126 rfl rfl⟩
theorem fc_X3_9 : FL RX3 9 3 1 ∧ Cond.fieldLink RX3 9 (cT 3).1 ((cT 3).2.1 1).2.1 ((cT 3).2.1 1).2.2.1 ∈ gtb := ⟨⟨by decide, by decide +kernel, rfl, Or.inl (mem_t1 140 rfl rfl)⟩, mem_t1 140 rfl rfl⟩
theorem fc_X3_15 : FL RX3 15 3 2 ∧ Cond.fieldLink RX3 15 (cT 3).1 ((cT 3).2.1 2).2.1 ((cT 3).2.1 2).2.2.1 ∈ gtb := ⟨⟨by decide, by decide +kernel, rfl, Or.inl (mem_t1 141 rfl rfl)⟩, mem_t1 141 rfl rfl⟩
theorem fc_X3_18 : FL RX3 18 3 3 ∧ Cond.fieldLink RX3 18 (cT 3).1 ((cT 3).2.1 3).2.1 ((cT 3).2.1 3).2.2.1 ∈ gtb := ⟨⟨by decide, by decide +kernel, rfl, Or.inl (mem_t1 142 rfl rfl)⟩, mem_t1 142 rfl rfl⟩
theorem fc_X3_22 : FL RX3 22 3 4 ∧ Cond.fieldLink RX3 22 (cT 3).1 ((cT 3).2.1 4).2.1 ((cT 3).2.1 4).2.2.1 ∈ gtb := ⟨⟨by decide, by decide +kernel, rfl, Or.inl (mem_t1 143 rfl rfl)⟩, mem_t1 143 rfl rfl⟩
theorem fc_X3_25 : FL RX3 25 3 0 ∧ Cond.fieldLink RX3 25 (cT 3).1 ((cT 3).2.1 0).2.1 ((cT 3).2.1 0).2.2.1 ∈ gtb := ⟨⟨by decide, by decide +kernel, rfl, Or.inl (mem_t1 139 rfl rfl)⟩, mem_t1 139 rfl rfl⟩
theorem fc_X4_9 : FL RX4 9 4 1 ∧ Cond.fieldLink RX4 9 (cT 4).1 ((cT 4).2.1 1).2.1 ((cT 4).2.1 1).2.2.1 ∈ gtb := ⟨⟨by decide, by decide +kernel, rfl, Or.inl (mem_t1 170 rfl rfl)⟩, mem_t1 170 rfl rfl⟩
theorem fc_X4_15 : FL RX4 15 4 0 ∧ Cond.fieldLink RX4 15 (cT 4).1 ((cT 4).2.1 0).2.1 ((cT 4).2.1 0).2.2.1 ∈ gtb := ⟨⟨by decide, by decide +kernel, rfl, Or.inl (mem_t1 168 rfl rfl)⟩, mem_t1 168 rfl rfl⟩
theorem fc_X5_9 : FL RX5 9 5 4 ∧ Cond.fieldLink RX5 9 (cT 5).1 ((cT 5).2.1 4).2.1 ((cT 5).2.1 4).2.2.1 ∈ gtb := ⟨⟨by decide, by decide +kernel, rfl, Or.inl (mem_t1 182 rfl rfl)⟩, mem_t1 182 rfl rfl⟩
theorem fc_X5_15 : FL RX5 15 5 5 ∧ Cond.fieldLink RX5 15 (cT 5).1 ((cT 5).2.1 5).2.1 ((cT 5).2.1 5).2.2.1 ∈ gtb := ⟨⟨by decide, by decide +kernel, rfl, Or.inl (mem_t1 183 rfl rfl)⟩, mem_t1 183 rfl rfl⟩
theorem fc_X5_19 : FL RX5 19 5 6 ∧ Cond.fieldLink RX5 19 (cT 5).1 ((cT 5).2.1 6).2.1 ((cT 5).2.1 6).2.2.1 ∈ gtb := ⟨⟨by decide, by decide +kernel, rfl, Or.inl (mem_t1 184 rfl rfl)⟩, mem_t1 184 rfl rfl⟩
theorem fc_X5_22 : FL RX5 22 5 7 ∧ Cond.fieldLink RX5 22 (cT 5).1 ((cT 5).2.1 7).2.1 ((cT 5).2.1 7).2.2.1 ∈ gtb := ⟨⟨by decide, by decide +kernel, rfl, Or.inl (mem_t1 185 rfl rfl)⟩, mem_t1 185 rfl rfl⟩
theorem fc_X5_26 : FL RX5 26 5 0 ∧ Cond.fieldLink RX5 26 (cT 5).1 ((cT 5).2.1 0).2.1 ((cT 5).2.1 0).2.2.1 ∈ gtb := ⟨⟨by decide, by decide +kernel, rfl, Or.inl (mem_t1 178 rfl rfl)⟩, mem_t1 178 rfl rfl⟩
theorem fc_X5_30 : FL RX5 30 5 1 ∧ Cond.fieldLink RX5 30 (cT 5).1 ((cT 5).2.1 1).2.1 ((cT 5).2.1 1).2.2.1 ∈ gtb := ⟨⟨by decide, by decide +kernel, rfl, Or.inl (mem_t1 179 rfl rfl)⟩, mem_t1 179 rfl rfl⟩
theorem fc_X5_39 : FL RX5 39 5 2 ∧ Cond.fieldLink RX5 39 (cT 5).1 ((cT 5).2.1 2).2.1 ((cT 5).2.1 2).2.2.1 ∈ gtb := ⟨⟨by decide, by decide +kernel, rfl, Or.inl (mem_t1 180 rfl rfl)⟩, mem_t1 180 rfl rfl⟩
theorem fc_X5_43 : FL RX5 43 5 3 ∧ Cond.fieldLink RX5 43 (cT 5).1 ((cT 5).2.1 3).2.1 ((cT 5).2.1 3).2.2.1 ∈ gtb := ⟨⟨by decide, by decide +kernel, rfl, Or.inl (mem_t1 181 rfl rfl)⟩, mem_t1 181 rfl rfl⟩
theorem fc_X6_9 : FL RX6 9 6 0 ∧ Cond.fieldLink RX6 9 (cT 6).1 ((cT 6).2.1 0).2.1 ((cT 6).2.1 0).2.2.1 ∈ gtb := ⟨⟨by decide, by decide +kernel, rfl, Or.inl (mem_t1 29 rfl rfl)⟩, mem_t1 29 rfl rfl⟩
theorem fc_X6_15 : FL RX6 15 6 1 ∧ Cond.fieldLink RX6 15 (cT 6).1 ((cT 6).2.1 1).2.1 ((cT 6).2.1 1).2.2.1 ∈ gtb := ⟨⟨by decide, by decide +kernel, rfl, Or.inl (mem_t1 30 rfl rfl)⟩, mem_t1 30 rfl rfl⟩
theorem fc_X7_9 : FL RX7 9 7 2 ∧ Cond.fieldLink RX7 9 (cT 7).1 ((cT 7).2.1 2).2.1 ((cT 7).2.1 2).2.2.1 ∈ gtb := ⟨⟨by decide, by decide +kernel, rfl, Or.inl (mem_t1 91 rfl rfl)⟩, mem_t1 91 rfl rfl⟩
theorem fc_X7_15 : FL RX7 15 7 3 ∧ Cond.fieldLink RX7 15 (cT 7).1 ((cT 7).2.1 3).2.1 ((cT 7).2.1 3).2.2.1 ∈ gtb := ⟨⟨by decide, by decide +kernel, rfl, Or.inl (mem_t1 93 rfl rfl)⟩, mem_t1 93 rfl rfl⟩
theorem fc_X7_18 : FL RX7 18 7 4 ∧ Cond.fieldLink RX7 18 (cT 7).1 ((cT 7).2.1 4).2.1 ((cT 7).2.1 4).2.2.1 ∈ gtb := ⟨⟨by decide, by decide +kernel, rfl, Or.inl (mem_t1 95 rfl rfl)⟩, mem_t1 95 rfl rfl⟩
theorem fc_X7_21 : FL RX7 21 7 5 ∧ Cond.fieldLink RX7 21 (cT 7).1 ((cT 7).2.1 5).2.1 ((cT 7).2.1 5).2.2.1 ∈ gtb := ⟨⟨by decide, by decide +kernel, rfl, Or.inl (mem_t1 96 rfl rfl)⟩, mem_t1 96 rfl rfl⟩
theorem fc_X7_24 : FL RX7 24 7 6 ∧ Cond.fieldLink RX7 24 (cT 7).1 ((cT 7).2.1 6).2.1 ((cT 7).2.1 6).2.2.1 ∈ gtb := ⟨⟨by decide, by decide +kernel, rfl, Or.inl (mem_t1 97 rfl rfl)⟩, mem_t1 97 rfl rfl⟩
theorem fc_X7_27 : FL RX7 27 7 7 ∧ Cond.fieldLink RX7 27 (cT 7).1 ((cT 7).2.1 7).2.1 ((cT 7).2.1 7).2.2.1 ∈ gtb := ⟨⟨by decide, by decide +kernel, rfl, Or.inl (mem_t1 98 rfl rfl)⟩, mem_t1 98 rfl rfl⟩
theorem fc_X7_30 : FL RX7 30 7 0 ∧ Cond.fieldLink RX7 30 (cT 7).1 ((cT 7).2.1 0).2.1 ((cT 7).2.1 0).2.2.1 ∈ gtb := ⟨⟨by decide, by decide +kernel, rfl, Or.inl (mem_t1 89 rfl rfl)⟩, mem_t1 89 rfl rfl⟩
theorem fc_X7_34 : FL RX7 34 7 1 ∧ Cond.fieldLink RX7 34 (cT 7).1 ((cT 7).2.1 1).2.1 ((cT 7).2.1 1).2.2.1 ∈ gtb := ⟨⟨by decide, by decide +kernel, rfl, Or.inl (mem_t1 90 rfl rfl)⟩, mem_t1 90 rfl rfl⟩
theorem fc_X9_9 : FL RX9 9 9 4 ∧ Cond.fieldLink RX9 9 (cT 9).1 ((cT 9).2.1 4).2.1 ((cT 9).2.1 4).2.2.1 ∈ gtb := ⟨⟨by decide, by decide +kernel, rfl, Or.inl (mem_t4 57 rfl rfl)⟩, mem_t4 57 rfl rfl⟩
theorem fc_X9_13 : FL RX9 13 9 5 ∧ Cond.fieldLink RX9 13 (cT 9).1 ((cT 9).2.1 5).2.1 ((cT 9).2.1 5).2.2.1 ∈ gtb := ⟨⟨by decide, by decide +kernel, rfl, Or.inl (mem_t4 58 rfl rfl)⟩, mem_t4 58 rfl rfl⟩
theorem fc_X9_16 : FL RX9 16 9 6 ∧ Cond.fieldLink RX9 16 (cT 9).1 ((cT 9).2.1 6).2.1 ((cT 9).2.1 6).2.2.1 ∈ gtb := ⟨⟨by decide, by decide +kernel, rfl, Or.inl (mem_t4 59 rfl rfl)⟩, mem_t4 59 rfl rfl⟩
theorem fc_X9_19 : FL RX9 19 9 7 ∧ Cond.fieldLink RX9 19 (cT 9).1 ((cT 9).2.1 7).2.1 ((cT 9).2.1 7).2.2.1 ∈ gtb := ⟨⟨by decide, by decide +kernel, rfl, Or.inl (mem_t4 60 rfl rfl)⟩, mem_t4 60 rfl rfl⟩
theorem fc_X9_22 : FL RX9 22 9 8 ∧ Cond.fieldLink RX9 22 (cT 9).1 ((cT 9).2.1 8).2.1 ((cT 9).2.1 8).2.2.1 ∈ gtb := ⟨⟨by decide, by decide +kernel, rfl, Or.inl (mem_t4 61 rfl rfl)⟩, mem_t4 61 rfl rfl⟩
theorem fc_X9_25 : FL RX9 25 9 9 ∧ Cond.fieldLink RX9 25 (cT 9).1 ((cT 9).2.1 9).2.1 ((cT 9).2.1 9).2.2.1 ∈ gtb := ⟨⟨by decide, by decide +kernel, rfl, Or.inl (mem_t4 62 rfl rfl)⟩, mem_t4 62 rfl rfl⟩
theorem fc_X9_28 : FL RX9 28 9 12 ∧ Cond.fieldLink RX9 28 (cT 9).1 ((cT 9).2.1 12).2.1 ((cT 9).2.1 12).2.2.1 ∈ gtb := ⟨⟨by decide, by decide +kernel, rfl, Or.inl (mem_t4 65 rfl rfl)⟩, mem_t4 65 rfl rfl⟩
theorem fc_X9_32 : FL RX9 32 9 14 ∧ Cond.fieldLink RX9 32 (cT 9).1 ((cT 9).2.1 14).2.1 ((cT 9).2.1 14).2.2.1 ∈ gtb := ⟨⟨by decide, by decide +kernel, rfl, Or.inl (mem_t4 67 rfl rfl)⟩, mem_t4 67 rfl rfl⟩
theorem fc_X9_35 : FL RX9 35 9 15 ∧ Cond.fieldLink RX9 35 (cT 9).1 ((cT 9).2.1 15).2.1 ((cT 9).2.1 15).2.2.1 ∈ gtb := ⟨⟨by decide, by decide +kernel, rfl, Or.inl (mem_t4 68 rfl rfl)⟩, mem_t4 68 rfl rfl⟩
theorem fc_X9_38 : FL RX9 38 9 20 ∧ Cond.fieldLink RX9 38 (cT 9).1 ((cT 9).2.1 20).2.1 ((cT 9).2.1 20).2.2.1 ∈ gtb := ⟨⟨by decide, by decide +kernel, rfl, Or.inl (mem_t4 73 rfl rfl)⟩, mem_t4 73 rfl rfl⟩
theorem fc_X9_41 : FL RX9 41 9 21 ∧ Cond.fieldLink RX9 41 (cT 9).1 ((cT 9).2.1 21).2.1 ((cT 9).2.1 21).2.2.1 ∈ gtb := ⟨⟨by decide, by decide +kernel, rfl, Or.inl (mem_t4 74 rfl rfl)⟩, mem_t4 74 rfl rfl⟩
theorem fc_X9_44 : FL RX9 44 9 22 ∧ Cond.fieldLink RX9 44 (cT 9).1 ((cT 9).2.1 22).2.1 ((cT 9).2.1 22).2.2.1 ∈ gtb := ⟨⟨by decide, by decide +kernel, rfl, Or.inl (mem_t4 75 rfl rfl)⟩, mem_t4 75 rfl rfl⟩
theorem fc_X9_47 : FL RX9 47 9 28 ∧ Cond.fieldLink RX9 47 (cT 9).1 ((cT 9).2.1 28).2.1 ((cT 9).2.1 28).2.2.1 ∈ gtb := ⟨⟨by decide, by decide +kernel, rfl, Or.inl (mem_t4 81 rfl rfl)⟩, mem_t4 81 rfl rfl⟩
theorem fc_X9_50 : FL RX9 50 9 29 ∧ Cond.fieldLink RX9 50 (cT 9).1 ((cT 9).2.1 29).2.1 ((cT 9).2.1 29).2.2.1 ∈ gtb := ⟨⟨by decide, by decide +kernel, rfl, Or.inl (mem_t4 82 rfl rfl)⟩, mem_t4 82 rfl rfl⟩
theorem fc_X9_53 : FL RX9 53 9 30 ∧ Cond.fieldLink RX9 53 (cT 9).1 ((cT 9).2.1 30).2.1 ((cT 9).2.1 30).2.2.1 ∈ gtb := ⟨⟨by decide, by decide +kernel, rfl, Or.inl (mem_t4 83 rfl rfl)⟩, mem_t4 83 rfl rfl⟩
theorem fc_X9_56 : FL RX9 56 9 34 ∧ Cond.fieldLink RX9 56 (cT 9).1 ((cT 9).2.1 34).2.1 ((cT 9).2.1 34).2.2.1 ∈ gtb := ⟨⟨by decide, by decide +kernel, rfl, Or.inl (mem_t4 87 rfl rfl)⟩, mem_t4 87 rfl rfl⟩
theorem fc_X9_59 : FL RX9 59 9 35 ∧ Cond.fieldLink RX9 59 (cT 9).1 ((cT 9).2.1 35).2.1 ((cT 9).2.1 35).2.2.1 ∈ gtb := ⟨⟨by decide, by decide +kernel, rfl, Or.inl (mem_t4 88 rfl rfl)⟩, mem_t4 88 rfl rfl⟩
theorem fc_X9_62 : FL RX9 62 9 38 ∧ Cond.fieldLink RX9 62 (cT 9).1 ((cT 9).2.1 38).2.1 ((cT 9).2.1 38).2.2.1 ∈ gtb := ⟨⟨by decide, by decide +kernel, rfl, Or.inl (mem_t4 91 rfl rfl)⟩, mem_t4 91 rfl rfl⟩
theorem fc_X9_65 : FL RX9 65 9 40 ∧ Cond.fieldLink RX9 65 (cT 9).1 ((cT 9).2.1 40).2.1 ((cT 9).2.1 40).2.2.1 ∈ gtb := ⟨⟨by decide, by decide +kernel, rfl, Or.inl (mem_t4 93 rfl rfl)⟩, mem_t4 93 rfl rfl⟩
theorem fc_X9_68 : FL RX9 68 9 46 ∧ Cond.fieldLink RX9 68 (cT 9).1 ((cT 9).2.1 46).2.1 ((cT 9).2.1 46).2.2.1 ∈ gtb := ⟨⟨by decide, by decide +kernel, rfl, Or.inl (mem_t4 99 rfl rfl)⟩, mem_t4 99 rfl rfl⟩
theorem fc_X9_71 : FL RX9 71 9 47 ∧ Cond.fieldLink RX9 71 (cT 9).1 ((cT 9).2.1 47).2.1 ((cT 9).2.1 47).2.2.1 ∈ gtb := ⟨⟨by decide, by decide +kernel, rfl, Or.inl (mem_t4 100 rfl rfl)⟩, mem_t4 100 rfl rfl⟩
theorem fc_X9_74 : FL RX9 74 9 48 ∧ Cond.fieldLink RX9 74 (cT 9).1 ((cT 9).2.1 48).2.1 ((cT 9).2.1 48).2.2.1 ∈ gtb := ⟨⟨by decide, by decide +kernel, rfl, Or.inl (mem_t4 101 rfl rfl)⟩, mem_t4 101 rfl rfl⟩
theorem fc_X9_77 : FL RX9 77 9 49 ∧ Cond.fieldLink RX9 77 (cT 9).1 ((cT 9).2.1 49).2.1 ((cT 9).2.1 49).2.2.1 ∈ gtb := ⟨⟨by decide, by decide +kernel, rfl, Or.inl (mem_t4 102 rfl rfl)⟩, mem_t4 102 rfl rfl⟩
theorem mc_X8_11 : ML RX8 11 yX6_init := Or.inr ⟨"CellPictures", mem_n1 25 rfl rfl⟩
theorem mc_X8_18 : ML RX8 18 yX0_init := Or.inr ⟨"CellPictures", mem_n1 41 rfl rfl⟩
theorem mc_X8_28 : ML RX8 28 yX7_init := Or.inr ⟨"CellPictures", mem_n1 85 rfl rfl⟩
theorem mc_X8_37 : ML RX8 37 yX2_init := Or.inr ⟨"CellPictures", mem_n1 118 rfl rfl⟩
theorem mc_X8_47 : ML RX8 47 yX3_init := Or.inr ⟨"CellPictures", mem_n1 135 rfl rfl⟩
theorem mc_X8_56 : ML RX8 56 yX5_init := Or.inr ⟨"CellPictures", mem_n1 158 rfl rfl⟩
theorem mc_X8_65 : ML RX8 65 yX4_init := Or.inr ⟨"CellPictures", mem_n1 204 rfl rfl⟩
theorem mc_X8_75 : ML RX8 75 yX1_init := Or.inr ⟨"CellPictures", mem_n1 207 rfl rfl⟩
theorem mc_X1_11 : ML RX1 11 yX2_init := Or.inr ⟨"CellPictures", mem_n1 212 rfl rfl⟩
theorem mc_X5_36 : ML RX5 36 yX4_init := Or.inr ⟨"CellPictures", mem_n1 164 rfl rfl⟩
theorem dX6_init_0 : decode cX6_init 0 = .ok (.aload_n 0, 1) := by decide +kernel
theorem dX6_init_1 : decode cX6_init 1 = .ok (.invokespecial 3, 3) := by decide +kernel
theorem dX6_init_4 : decode cX6_init 4 = .ok (.aload_n 0, 1) := by decide +kernel
theorem dX6_init_5 : decode cX6_init 5 = .ok (.sipush 900, 3) := by decide +kernel
theorem dX6_init_8 : decode cX6_init 8 = .ok (.newarray .byte, 2) := by decide +kernel
theorem dX6_init_10 : decode cX6_init 10 = .ok (.putfield 9, 3) := by decide +kernel
theorem dX6_init_13 : decode cX6_init 13 = .ok (.aload_n 0, 1) := by decide +kernel
theorem dX6_init_14 : decode cX6_init 14 = .ok (.iconst 0, 1) := by decide +kernel
theorem dX6_init_15 : decode cX6_init 15 = .ok (.putfield 15, 3) := by decide +kernel
theorem dX6_init_18 : decode cX6_init 18 = .ok (.return_, 1) := by decide +kernel
theorem dX0_init_0 : decode cX0_init 0 = .ok (.aload_n 0, 1) := by decide +kernel
theorem dX0_init_1 : decode cX0_init 1 = .ok (.invokespecial 3, 3) := by decide +kernel
theorem dX0_init_4 : decode cX0_init 4 = .ok (.aload_n 0, 1) := by decide +kernel
theorem dX0_init_5 : decode cX0_init 5 = .ok (.bipush 24, 2) := by decide +kernel
theorem dX0_init_7 : decode cX0_init 7 = .ok (.newarray .int, 2) := by decide +kernel
theorem dX0_init_9 : decode cX0_init 9 = .ok (.putfield 9, 3) := by decide +kernel
theorem dX0_init_12 : decode cX0_init 12 = .ok (.aload_n 0, 1) := by decide +kernel
theorem dX0_init_13 : decode cX0_init 13 = .ok (.sipush 288, 3) := by decide +kernel
theorem dX0_init_16 : decode cX0_init 16 = .ok (.newarray .int, 2) := by decide +kernel
theorem dX0_init_18 : decode cX0_init 18 = .ok (.putfield 15, 3) := by decide +kernel
theorem dX0_init_21 : decode cX0_init 21 = .ok (.aload_n 0, 1) := by decide +kernel
theorem dX0_init_22 : decode cX0_init 22 = .ok (.sipush 288, 3) := by decide +kernel
theorem dX0_init_25 : decode cX0_init 25 = .ok (.newarray .int, 2) := by decide +kernel
theorem dX0_init_27 : decode cX0_init 27 = .ok (.putfield 18, 3) := by decide +kernel
theorem dX0_init_30 : decode cX0_init 30 = .ok (.aload_n 0, 1) := by decide +kernel
theorem dX0_init_31 : decode cX0_init 31 = .ok (.iconst 0, 1) := by decide +kernel
theorem dX0_init_32 : decode cX0_init 32 = .ok (.putfield 21, 3) := by decide +kernel
theorem dX0_init_35 : decode cX0_init 35 = .ok (.aload_n 0, 1) := by decide +kernel
theorem dX0_init_36 : decode cX0_init 36 = .ok (.iconst 0, 1) := by decide +kernel
theorem dX0_init_37 : decode cX0_init 37 = .ok (.putfield 25, 3) := by decide +kernel
theorem dX0_init_40 : decode cX0_init 40 = .ok (.aload_n 0, 1) := by decide +kernel
theorem dX0_init_41 : decode cX0_init 41 = .ok (.iconst 0, 1) := by decide +kernel
theorem dX0_init_42 : decode cX0_init 42 = .ok (.putfield 28, 3) := by decide +kernel
theorem dX0_init_45 : decode cX0_init 45 = .ok (.aload_n 0, 1) := by decide +kernel
theorem dX0_init_46 : decode cX0_init 46 = .ok (.iconst 0, 1) := by decide +kernel
theorem dX0_init_47 : decode cX0_init 47 = .ok (.putfield 31, 3) := by decide +kernel
theorem dX0_init_50 : decode cX0_init 50 = .ok (.return_, 1) := by decide +kernel
theorem dX7_init_0 : decode cX7_init 0 = .ok (.aload_n 0, 1) := by decide +kernel
theorem dX7_init_1 : decode cX7_init 1 = .ok (.invokespecial 3, 3) := by decide +kernel
theorem dX7_init_4 : decode cX7_init 4 = .ok (.aload_n 0, 1) := by decide +kernel
theorem dX7_init_5 : decode cX7_init 5 = .ok (.iconst 0, 1) := by decide +kernel
theorem dX7_init_6 : decode cX7_init 6 = .ok (.putfield 9, 3) := by decide +kernel
theorem dX7_init_9 : decode cX7_init 9 = .ok (.aload_n 0, 1) := by decide +kernel
theorem dX7_init_10 : decode cX7_init 10 = .ok (.iconst 0, 1) := by decide +kernel
theorem dX7_init_11 : decode cX7_init 11 = .ok (.putfield 15, 3) := by decide +kernel
theorem dX7_init_14 : decode cX7_init 14 = .ok (.aload_n 0, 1) := by decide +kernel
theorem dX7_init_15 : decode cX7_init 15 = .ok (.iconst 0, 1) := by decide +kernel
theorem dX7_init_16 : decode cX7_init 16 = .ok (.putfield 18, 3) := by decide +kernel
theorem dX7_init_19 : decode cX7_init 19 = .ok (.aload_n 0, 1) := by decide +kernel
theorem dX7_init_20 : decode cX7_init 20 = .ok (.iconst 0, 1) := by decide +kernel
theorem dX7_init_21 : decode cX7_init 21 = .ok (.putfield 21, 3) := by decide +kernel
theorem dX7_init_24 : decode cX7_init 24 = .ok (.aload_n 0, 1) := by decide +kernel
theorem dX7_init_25 : decode cX7_init 25 = .ok (.iconst 0, 1) := by decide +kernel
theorem dX7_init_26 : decode cX7_init 26 = .ok (.putfield 24, 3) := by decide +kernel
theorem dX7_init_29 : decode cX7_init 29 = .ok (.aload_n 0, 1) := by decide +kernel
theorem dX7_init_30 : decode cX7_init 30 = .ok (.iconst 0, 1) := by decide +kernel
theorem dX7_init_31 : decode cX7_init 31 = .ok (.putfield 27, 3) := by decide +kernel
theorem dX7_init_34 : decode cX7_init 34 = .ok (.aload_n 0, 1) := by decide +kernel
theorem dX7_init_35 : decode cX7_init 35 = .ok (.aload_n 1, 1) := by decide +kernel
theorem dX7_init_36 : decode cX7_init 36 = .ok (.putfield 30, 3) := by decide +kernel
theorem dX7_init_39 : decode cX7_init 39 = .ok (.aload_n 0, 1) := by decide +kernel
theorem dX7_init_40 : decode cX7_init 40 = .ok (.aload_n 2, 1) := by decide +kernel
theorem dX7_init_41 : decode cX7_init 41 = .ok (.putfield 34, 3) := by decide +kernel
theorem dX7_init_44 : decode cX7_init 44 = .ok (.return_, 1) := by decide +kernel
theorem dX2_init_0 : decode cX2_init 0 = .ok (.aload_n 0, 1) := by decide +kernel
theorem dX2_init_1 : decode cX2_init 1 = .ok (.invokespecial 3, 3) := by decide +kernel
theorem dX2_init_4 : decode cX2_init 4 = .ok (.aload_n 0, 1) := by decide +kernel
theorem dX2_init_5 : decode cX2_init 5 = .ok (.sipush 144, 3) := by decide +kernel
theorem dX2_init_8 : decode cX2_init 8 = .ok (.newarray .int, 2) := by decide +kernel
theorem dX2_init_10 : decode cX2_init 10 = .ok (.putfield 9, 3) := by decide +kernel
theorem dX2_init_13 : decode cX2_init 13 = .ok (.aload_n 0, 1) := by decide +kernel
theorem dX2_init_14 : decode cX2_init 14 = .ok (.iconst 0, 1) := by decide +kernel
theorem dX2_init_15 : decode cX2_init 15 = .ok (.putfield 15, 3) := by decide +kernel
theorem dX2_init_18 : decode cX2_init 18 = .ok (.aload_n 0, 1) := by decide +kernel
theorem dX2_init_19 : decode cX2_init 19 = .ok (.getfield 9, 3) := by decide +kernel
theorem dX2_init_22 : decode cX2_init 22 = .ok (.iconst (-1), 1) := by decide +kernel
theorem dX2_init_23 : decode cX2_init 23 = .ok (.invokestatic 19, 3) := by decide +kernel
theorem dX2_init_26 : decode cX2_init 26 = .ok (.return_, 1) := by decide +kernel
theorem dX3_init_0 : decode cX3_init 0 = .ok (.aload_n 0, 1) := by decide +kernel
theorem dX3_init_1 : decode cX3_init 1 = .ok (.invokespecial 3, 3) := by decide +kernel
theorem dX3_init_4 : decode cX3_init 4 = .ok (.aload_n 0, 1) := by decide +kernel
theorem dX3_init_5 : decode cX3_init 5 = .ok (.bipush 13, 2) := by decide +kernel
theorem dX3_init_7 : decode cX3_init 7 = .ok (.newarray .int, 2) := by decide +kernel
theorem dX3_init_9 : decode cX3_init 9 = .ok (.putfield 9, 3) := by decide +kernel
theorem dX3_init_12 : decode cX3_init 12 = .ok (.aload_n 0, 1) := by decide +kernel
theorem dX3_init_13 : decode cX3_init 13 = .ok (.bipush 12, 2) := by decide +kernel
theorem dX3_init_15 : decode cX3_init 15 = .ok (.newarray .int, 2) := by decide +kernel
theorem dX3_init_17 : decode cX3_init 17 = .ok (.putfield 15, 3) := by decide +kernel
theorem dX3_init_20 : decode cX3_init 20 = .ok (.aload_n 0, 1) := by decide +kernel
theorem dX3_init_21 : decode cX3_init 21 = .ok (.bipush 13, 2) := by decide +kernel
theorem dX3_init_23 : decode cX3_init 23 = .ok (.newarray .long, 2) := by decide +kernel
theorem dX3_init_25 : decode cX3_init 25 = .ok (.putfield 18, 3) := by decide +kernel
theorem dX3_init_28 : decode cX3_init 28 = .ok (.aload_n 0, 1) := by decide +kernel
theorem dX3_init_29 : decode cX3_init 29 = .ok (.bipush 13, 2) := by decide +kernel
theorem dX3_init_31 : decode cX3_init 31 = .ok (.newarray .long, 2) := by decide +kernel
theorem dX3_init_33 : decode cX3_init 33 = .ok (.putfield 22, 3) := by decide +kernel
theorem dX3_init_36 : decode cX3_init 36 = .ok (.aload_n 0, 1) := by decide +kernel
theorem dX3_init_37 : decode cX3_init 37 = .ok (.aload_n 1, 1) := by decide +kernel
theorem dX3_init_38 : decode cX3_init 38 = .ok (.putfield 25, 3) := by decide +kernel
theorem dX3_init_41 : decode cX3_init 41 = .ok (.return_, 1) := by decide +kernel
theorem dX4_init_0 : decode cX4_init 0 = .ok (.aload_n 0, 1) := by decide +kernel
theorem dX4_init_1 : decode cX4_init 1 = .ok (.invokespecial 3, 3) := by decide +kernel
theorem dX4_init_4 : decode cX4_init 4 = .ok (.aload_n 0, 1) := by decide +kernel
theorem dX4_init_5 : decode cX4_init 5 = .ok (.bipush 24, 2) := by decide +kernel
theorem dX4_init_7 : decode cX4_init 7 = .ok (.newarray .long, 2) := by decide +kernel
theorem dX4_init_9 : decode cX4_init 9 = .ok (.putfield 9, 3) := by decide +kernel
theorem dX4_init_12 : decode cX4_init 12 = .ok (.aload_n 0, 1) := by decide +kernel
theorem dX4_init_13 : decode cX4_init 13 = .ok (.aload_n 1, 1) := by decide +kernel
theorem dX4_init_14 : decode cX4_init 14 = .ok (.putfield 15, 3) := by decide +kernel
theorem dX4_init_17 : decode cX4_init 17 = .ok (.return_, 1) := by decide +kernel
theorem dX5_init_0 : decode cX5_init 0 = .ok (.aload_n 0, 1) := by decide +kernel
theorem dX5_init_1 : decode cX5_init 1 = .ok (.invokespecial 3, 3) := by decide +kernel
theorem dX5_init_4 : decode cX5_init 4 = .ok (.aload_n 0, 1) := by decide +kernel
theorem dX5_init_5 : decode cX5_init 5 = .ok (.sipush 3456, 3) := by decide +kernel
theorem dX5_init_8 : decode cX5_init 8 = .ok (.newarray .long, 2) := by decide +kernel
theorem dX5_init_10 : decode cX5_init 10 = .ok (.putfield 9, 3) := by decide +kernel
theorem dX5_init_13 : decode cX5_init 13 = .ok (.aload_n 0, 1) := by decide +kernel
theorem dX5_init_14 : decode cX5_init 14 = .ok (.sipush 144, 3) := by decide +kernel
theorem dX5_init_17 : decode cX5_init 17 = .ok (.newarray .int, 2) := by decide +kernel
theorem dX5_init_19 : decode cX5_init 19 = .ok (.putfield 15, 3) := by decide +kernel
theorem dX5_init_22 : decode cX5_init 22 = .ok (.aload_n 0, 1) := by decide +kernel
theorem dX5_init_23 : decode cX5_init 23 = .ok (.sipush 144, 3) := by decide +kernel
theorem dX5_init_26 : decode cX5_init 26 = .ok (.newarray .int, 2) := by decide +kernel
theorem dX5_init_28 : decode cX5_init 28 = .ok (.putfield 19, 3) := by decide +kernel
theorem dX5_init_31 : decode cX5_init 31 = .ok (.aload_n 0, 1) := by decide +kernel
theorem dX5_init_32 : decode cX5_init 32 = .ok (.iconst 0, 1) := by decide +kernel
theorem dX5_init_33 : decode cX5_init 33 = .ok (.putfield 22, 3) := by decide +kernel
theorem dX5_init_36 : decode cX5_init 36 = .ok (.aload_n 0, 1) := by decide +kernel
theorem dX5_init_37 : decode cX5_init 37 = .ok (.aload_n 1, 1) := by decide +kernel
theorem dX5_init_38 : decode cX5_init 38 = .ok (.putfield 26, 3) := by decide +kernel
theorem dX5_init_41 : decode cX5_init 41 = .ok (.aload_n 0, 1) := by decide +kernel
theorem dX5_init_42 : decode cX5_init 42 = .ok (.aload_n 2, 1) := by decide +kernel
theorem dX5_init_43 : decode cX5_init 43 = .ok (.putfield 30, 3) := by decide +kernel
theorem dX5_init_46 : decode cX5_init 46 = .ok (.aload_n 0, 1) := by decide +kernel
theorem dX5_init_47 : decode cX5_init 47 = .ok (.new 34, 3) := by decide +kernel
theorem dX5_init_50 : decode cX5_init 50 = .ok (.dup, 1) := by decide +kernel
theorem dX5_init_51 : decode cX5_init 51 = .ok (.aload_n 1, 1) := by decide +kernel
theorem dX5_init_52 : decode cX5_init 52 = .ok (.invokespecial 36, 3) := by decide +kernel
theorem dX5_init_55 : decode cX5_init 55 = .ok (.putfield 39, 3) := by decide +kernel
theorem dX5_init_58 : decode cX5_init 58 = .ok (.aload_n 0, 1) := by decide +kernel
theorem dX5_init_59 : decode cX5_init 59 = .ok (.new 34, 3) := by decide +kernel
theorem dX5_init_62 : decode cX5_init 62 = .ok (.dup, 1) := by decide +kernel
theorem dX5_init_63 : decode cX5_init 63 = .ok (.aload_n 1, 1) := by decide +kernel
theorem dX5_init_64 : decode cX5_init 64 = .ok (.invokespecial 36, 3) := by decide +kernel
theorem dX5_init_67 : decode cX5_init 67 = .ok (.putfield 43, 3) := by decide +kernel
theorem dX5_init_70 : decode cX5_init 70 = .ok (.return_, 1) := by decide +kernel
theorem dX1_init_0 : decode cX1_init 0 = .ok (.aload_n 0, 1) := by decide +kernel
theorem dX1_init_1 : decode cX1_init 1 = .ok (.invokespecial 3, 3) := by decide +kernel
theorem dX1_init_4 : decode cX1_init 4 = .ok (.aload_n 0, 1) := by decide +kernel
theorem dX1_init_5 : decode cX1_init 5 = .ok (.new 9, 3) := by decide +kernel
theorem dX1_init_8 : decode cX1_init 8 = .ok (.dup, 1) := by decide +kernel
theorem dX1_init_9 : decode cX1_init 9 = .ok (.invokespecial 11, 3) := by decide +kernel
theorem dX1_init_12 : decode cX1_init 12 = .ok (.putfield 12, 3) := by decide +kernel
theorem dX1_init_15 : decode cX1_init 15 = .ok (.aload_n 0, 1) := by decide +kernel
theorem dX1_init_16 : decode cX1_init 16 = .ok (.new 9, 3) := by decide +kernel
theorem dX1_init_19 : decode cX1_init 19 = .ok (.dup, 1) := by decide +kernel
theorem dX1_init_20 : decode cX1_init 20 = .ok (.invokespecial 11, 3) := by decide +kernel
theorem dX1_init_23 : decode cX1_init 23 = .ok (.putfield 18, 3) := by decide +kernel
theorem dX1_init_26 : decode cX1_init 26 = .ok (.aload_n 0, 1) := by decide +kernel
theorem dX1_init_27 : decode cX1_init 27 = .ok (.iconst 0, 1) := by decide +kernel
theorem dX1_init_28 : decode cX1_init 28 = .ok (.putfield 21, 3) := by decide +kernel
theorem dX1_init_31 : decode cX1_init 31 = .ok (.aload_n 0, 1) := by decide +kernel
theorem dX1_init_32 : decode cX1_init 32 = .ok (.iconst (-1), 1) := by decide +kernel
theorem dX1_init_33 : decode cX1_init 33 = .ok (.putfield 25, 3) := by decide +kernel
theorem dX1_init_36 : decode cX1_init 36 = .ok (.aload_n 0, 1) := by decide +kernel
theorem dX1_init_37 : decode cX1_init 37 = .ok (.iconst 0, 1) := by decide +kernel
theorem dX1_init_38 : decode cX1_init 38 = .ok (.putfield 28, 3) := by decide +kernel
theorem dX1_init_41 : decode cX1_init 41 = .ok (.return_, 1) := by decide +kernel
theorem dX8_init_0 : decode cX8_init 0 = .ok (.aload_n 0, 1) := by decide +kernel
theorem dX8_init_1 : decode cX8_init 1 = .ok (.invokespecial 3, 3) := by decide +kernel
theorem dX8_init_4 : decode cX8_init 4 = .ok (.aload_n 0, 1) := by decide +kernel
theorem dX8_init_5 : decode cX8_init 5 = .ok (.new 9, 3) := by decide +kernel
theorem dX8_init_8 : decode cX8_init 8 = .ok (.dup, 1) := by decide +kernel
theorem dX8_init_9 : decode cX8_init 9 = .ok (.invokespecial 11, 3) := by decide +kernel
theorem dX8_init_12 : decode cX8_init 12 = .ok (.putfield 12, 3) := by decide +kernel
theorem dX8_init_15 : decode cX8_init 15 = .ok (.aload_n 0, 1) := by decide +kernel
theorem dX8_init_16 : decode cX8_init 16 = .ok (.new 16, 3) := by decide +kernel
theorem dX8_init_19 : decode cX8_init 19 = .ok (.dup, 1) := by decide +kernel
theorem dX8_init_20 : decode cX8_init 20 = .ok (.invokespecial 18, 3) := by decide +kernel
theorem dX8_init_23 : decode cX8_init 23 = .ok (.putfield 19, 3) := by decide +kernel
theorem dX8_init_26 : decode cX8_init 26 = .ok (.aload_n 0, 1) := by decide +kernel
theorem dX8_init_27 : decode cX8_init 27 = .ok (.new 16, 3) := by decide +kernel
theorem dX8_init_30 : decode cX8_init 30 = .ok (.dup, 1) := by decide +kernel
theorem dX8_init_31 : decode cX8_init 31 = .ok (.invokespecial 18, 3) := by decide +kernel
theorem dX8_init_34 : decode cX8_init 34 = .ok (.putfield 23, 3) := by decide +kernel
theorem dX8_init_37 : decode cX8_init 37 = .ok (.aload_n 0, 1) := by decide +kernel
theorem dX8_init_38 : decode cX8_init 38 = .ok (.new 26, 3) := by decide +kernel
theorem dX8_init_41 : decode cX8_init 41 = .ok (.dup, 1) := by decide +kernel
theorem dX8_init_42 : decode cX8_init 42 = .ok (.aload_n 0, 1) := by decide +kernel
theorem dX8_init_43 : decode cX8_init 43 = .ok (.getfield 12, 3) := by decide +kernel
theorem dX8_init_46 : decode cX8_init 46 = .ok (.aload_n 0, 1) := by decide +kernel
theorem dX8_init_47 : decode cX8_init 47 = .ok (.getfield 23, 3) := by decide +kernel
theorem dX8_init_50 : decode cX8_init 50 = .ok (.invokespecial 28, 3) := by decide +kernel
theorem dX8_init_53 : decode cX8_init 53 = .ok (.putfield 31, 3) := by decide +kernel
theorem dX8_init_56 : decode cX8_init 56 = .ok (.aload_n 0, 1) := by decide +kernel
theorem dX8_init_57 : decode cX8_init 57 = .ok (.new 35, 3) := by decide +kernel
theorem dX8_init_60 : decode cX8_init 60 = .ok (.dup, 1) := by decide +kernel
theorem dX8_init_61 : decode cX8_init 61 = .ok (.invokespecial 37, 3) := by decide +kernel
theorem dX8_init_64 : decode cX8_init 64 = .ok (.putfield 38, 3) := by decide +kernel
theorem dX8_init_67 : decode cX8_init 67 = .ok (.aload_n 0, 1) := by decide +kernel
theorem dX8_init_68 : decode cX8_init 68 = .ok (.new 35, 3) := by decide +kernel
theorem dX8_init_71 : decode cX8_init 71 = .ok (.dup, 1) := by decide +kernel
theorem dX8_init_72 : decode cX8_init 72 = .ok (.invokespecial 37, 3) := by decide +kernel
theorem dX8_init_75 : decode cX8_init 75 = .ok (.putfield 42, 3) := by decide +kernel
theorem dX8_init_78 : decode cX8_init 78 = .ok (.aload_n 0, 1) := by decide +kernel
theorem dX8_init_79 : decode cX8_init 79 = .ok (.new 45, 3) := by decide +kernel
theorem dX8_init_82 : decode cX8_init 82 = .ok (.dup, 1) := by decide +kernel
theorem dX8_init_83 : decode cX8_init 83 = .ok (.aload_n 0, 1) := by decide +kernel
theorem dX8_init_84 : decode cX8_init 84 = .ok (.getfield 19, 3) := by decide +kernel
theorem dX8_init_87 : decode cX8_init 87 = .ok (.invokespecial 47, 3) := by decide +kernel
theorem dX8_init_90 : decode cX8_init 90 = .ok (.putfield 50, 3) := by decide +kernel
theorem dX8_init_93 : decode cX8_init 93 = .ok (.aload_n 0, 1) := by decide +kernel
theorem dX8_init_94 : decode cX8_init 94 = .ok (.new 54, 3) := by decide +kernel
theorem dX8_init_97 : decode cX8_init 97 = .ok (.dup, 1) := by decide +kernel
theorem dX8_init_98 : decode cX8_init 98 = .ok (.aload_n 0, 1) := by decide +kernel
theorem dX8_init_99 : decode cX8_init 99 = .ok (.getfield 19, 3) := by decide +kernel
theorem dX8_init_102 : decode cX8_init 102 = .ok (.aload_n 0, 1) := by decide +kernel
theorem dX8_init_103 : decode cX8_init 103 = .ok (.getfield 50, 3) := by decide +kernel
theorem dX8_init_106 : decode cX8_init 106 = .ok (.invokespecial 56, 3) := by decide +kernel
theorem dX8_init_109 : decode cX8_init 109 = .ok (.putfield 59, 3) := by decide +kernel
theorem dX8_init_112 : decode cX8_init 112 = .ok (.aload_n 0, 1) := by decide +kernel
theorem dX8_init_113 : decode cX8_init 113 = .ok (.new 63, 3) := by decide +kernel
theorem dX8_init_116 : decode cX8_init 116 = .ok (.dup, 1) := by decide +kernel
theorem dX8_init_117 : decode cX8_init 117 = .ok (.aload_n 0, 1) := by decide +kernel
theorem dX8_init_118 : decode cX8_init 118 = .ok (.getfield 19, 3) := by decide +kernel
theorem dX8_init_121 : decode cX8_init 121 = .ok (.invokespecial 65, 3) := by decide +kernel
theorem dX8_init_124 : decode cX8_init 124 = .ok (.putfield 66, 3) := by decide +kernel
theorem dX8_init_127 : decode cX8_init 127 = .ok (.aload_n 0, 1) := by decide +kernel
theorem dX8_init_128 : decode cX8_init 128 = .ok (.new 63, 3) := by decide +kernel
theorem dX8_init_131 : decode cX8_init 131 = .ok (.dup, 1) := by decide +kernel
theorem dX8_init_132 : decode cX8_init 132 = .ok (.aload_n 0, 1) := by decide +kernel
theorem dX8_init_133 : decode cX8_init 133 = .ok (.getfield 19, 3) := by decide +kernel
theorem dX8_init_136 : decode cX8_init 136 = .ok (.invokespecial 65, 3) := by decide +kernel
theorem dX8_init_139 : decode cX8_init 139 = .ok (.putfield 70, 3) := by decide +kernel
theorem dX8_init_142 : decode cX8_init 142 = .ok (.aload_n 0, 1) := by decide +kernel
theorem dX8_init_143 : decode cX8_init 143 = .ok (.new 73, 3) := by decide +kernel
theorem dX8_init_146 : decode cX8_init 146 = .ok (.dup, 1) := by decide +kernel
theorem dX8_init_147 : decode cX8_init 147 = .ok (.invokespecial 75, 3) := by decide +kernel
theorem dX8_init_150 : decode cX8_init 150 = .ok (.putfield 76, 3) := by decide +kernel
theorem dX8_init_153 : decode cX8_init 153 = .ok (.aload_n 0, 1) := by decide +kernel
theorem dX8_init_154 : decode cX8_init 154 = .ok (.new 73, 3) := by decide +kernel
theorem dX8_init_157 : decode cX8_init 157 = .ok (.dup, 1) := by decide +kernel
theorem dX8_init_158 : decode cX8_init 158 = .ok (.invokespecial 75, 3) := by decide +kernel
theorem dX8_init_161 : decode cX8_init 161 = .ok (.putfield 80, 3) := by decide +kernel
theorem dX8_init_164 : decode cX8_init 164 = .ok (.aload_n 0, 1) := by decide +kernel
theorem dX8_init_165 : decode cX8_init 165 = .ok (.iconst 0, 1) := by decide +kernel
theorem dX8_init_166 : decode cX8_init 166 = .ok (.putfield 83, 3) := by decide +kernel
theorem dX8_init_169 : decode cX8_init 169 = .ok (.aload_n 0, 1) := by decide +kernel
theorem dX8_init_170 : decode cX8_init 170 = .ok (.iconst 0, 1) := by decide +kernel
theorem dX8_init_171 : decode cX8_init 171 = .ok (.putfield 87, 3) := by decide +kernel
theorem dX8_init_174 : decode cX8_init 174 = .ok (.return_, 1) := by decide +kernel
theorem dX9_init_0 : decode cX9_init 0 = .ok (.aload_n 0, 1) := by decide +kernel
theorem dX9_init_1 : decode cX9_init 1 = .ok (.invokespecial 1, 3) := by decide +kernel
theorem dX9_init_4 : decode cX9_init 4 = .ok (.aload_n 0, 1) := by decide +kernel
theorem dX9_init_5 : decode cX9_init 5 = .ok (.bipush 24, 2) := by decide +kernel
theorem dX9_init_7 : decode cX9_init 7 = .ok (.newarray .int, 2) := by decide +kernel
theorem dX9_init_9 : decode cX9_init 9 = .ok (.putfield 9, 3) := by decide +kernel
theorem dX9_init_12 : decode cX9_init 12 = .ok (.aload_n 0, 1) := by decide +kernel
theorem dX9_init_13 : decode cX9_init 13 = .ok (.sipush 288, 3) := by decide +kernel
theorem dX9_init_16 : decode cX9_init 16 = .ok (.newarray .int, 2) := by decide +kernel
theorem dX9_init_18 : decode cX9_init 18 = .ok (.putfield 13, 3) := by decide +kernel
theorem dX9_init_21 : decode cX9_init 21 = .ok (.aload_n 0, 1) := by decide +kernel
theorem dX9_init_22 : decode cX9_init 22 = .ok (.sipush 288, 3) := by decide +kernel
theorem dX9_init_25 : decode cX9_init 25 = .ok (.newarray .int, 2) := by decide +kernel
theorem dX9_init_27 : decode cX9_init 27 = .ok (.putfield 16, 3) := by decide +kernel
theorem dX9_init_30 : decode cX9_init 30 = .ok (.aload_n 0, 1) := by decide +kernel
theorem dX9_init_31 : decode cX9_init 31 = .ok (.sipush 144, 3) := by decide +kernel
theorem dX9_init_34 : decode cX9_init 34 = .ok (.newarray .int, 2) := by decide +kernel
theorem dX9_init_36 : decode cX9_init 36 = .ok (.putfield 19, 3) := by decide +kernel
theorem dX9_init_39 : decode cX9_init 39 = .ok (.aload_n 0, 1) := by decide +kernel
theorem dX9_init_40 : decode cX9_init 40 = .ok (.sipush 144, 3) := by decide +kernel
theorem dX9_init_43 : decode cX9_init 43 = .ok (.newarray .int, 2) := by decide +kernel
theorem dX9_init_45 : decode cX9_init 45 = .ok (.putfield 22, 3) := by decide +kernel
theorem dX9_init_48 : decode cX9_init 48 = .ok (.aload_n 0, 1) := by decide +kernel
theorem dX9_init_49 : decode cX9_init 49 = .ok (.sipush 144, 3) := by decide +kernel
theorem dX9_init_52 : decode cX9_init 52 = .ok (.newarray .int, 2) := by decide +kernel
theorem dX9_init_54 : decode cX9_init 54 = .ok (.putfield 25, 3) := by decide +kernel
theorem dX9_init_57 : decode cX9_init 57 = .ok (.aload_n 0, 1) := by decide +kernel
theorem dX9_init_58 : decode cX9_init 58 = .ok (.iconst (-1), 1) := by decide +kernel
theorem dX9_init_59 : decode cX9_init 59 = .ok (.putfield 28, 3) := by decide +kernel
theorem dX9_init_62 : decode cX9_init 62 = .ok (.aload_n 0, 1) := by decide +kernel
theorem dX9_init_63 : decode cX9_init 63 = .ok (.sipush 288, 3) := by decide +kernel
theorem dX9_init_66 : decode cX9_init 66 = .ok (.newarray .int, 2) := by decide +kernel
theorem dX9_init_68 : decode cX9_init 68 = .ok (.putfield 32, 3) := by decide +kernel
theorem dX9_init_71 : decode cX9_init 71 = .ok (.aload_n 0, 1) := by decide +kernel
theorem dX9_init_72 : decode cX9_init 72 = .ok (.sipush 900, 3) := by decide +kernel
theorem dX9_init_75 : decode cX9_init 75 = .ok (.newarray .int, 2) := by decide +kernel
theorem dX9_init_77 : decode cX9_init 77 = .ok (.putfield 35, 3) := by decide +kernel
theorem dX9_init_80 : decode cX9_init 80 = .ok (.aload_n 0, 1) := by decide +kernel
theorem dX9_init_81 : decode cX9_init 81 = .ok (.sipush 901, 3) := by decide +kernel
theorem dX9_init_84 : decode cX9_init 84 = .ok (.newarray .int, 2) := by decide +kernel
theorem dX9_init_86 : decode cX9_init 86 = .ok (.putfield 38, 3) := by decide +kernel
theorem dX9_init_89 : decode cX9_init 89 = .ok (.aload_n 0, 1) := by decide +kernel
theorem dX9_init_90 : decode cX9_init 90 = .ok (.sipush 901, 3) := by decide +kernel
theorem dX9_init_93 : decode cX9_init 93 = .ok (.newarray .int, 2) := by decide +kernel
theorem dX9_init_95 : decode cX9_init 95 = .ok (.putfield 41, 3) := by decide +kernel
theorem dX9_init_98 : decode cX9_init 98 = .ok (.aload_n 0, 1) := by decide +kernel
theorem dX9_init_99 : decode cX9_init 99 = .ok (.sipush 901, 3) := by decide +kernel
theorem dX9_init_102 : decode cX9_init 102 = .ok (.newarray .int, 2) := by decide +kernel
theorem dX9_init_104 : decode cX9_init 104 = .ok (.putfield 44, 3) := by decide +kernel
theorem dX9_init_107 : decode cX9_init 107 = .ok (.aload_n 0, 1) := by decide +kernel
theorem dX9_init_108 : decode cX9_init 108 = .ok (.bipush 24, 2) := by decide +kernel
theorem dX9_init_110 : decode cX9_init 110 = .ok (.newarray .int, 2) := by decide +kernel
theorem dX9_init_112 : decode cX9_init 112 = .ok (.putfield 47, 3) := by decide +kernel
theorem dX9_init_115 : decode cX9_init 115 = .ok (.aload_n 0, 1) := by decide +kernel
theorem dX9_init_116 : decode cX9_init 116 = .ok (.sipush 288, 3) := by decide +kernel
theorem dX9_init_119 : decode cX9_init 119 = .ok (.newarray .int, 2) := by decide +kernel
theorem dX9_init_121 : decode cX9_init 121 = .ok (.putfield 50, 3) := by decide +kernel
theorem dX9_init_124 : decode cX9_init 124 = .ok (.aload_n 0, 1) := by decide +kernel
theorem dX9_init_125 : decode cX9_init 125 = .ok (.sipush 288, 3) := by decide +kernel
theorem dX9_init_128 : decode cX9_init 128 = .ok (.newarray .int, 2) := by decide +kernel
theorem dX9_init_130 : decode cX9_init 130 = .ok (.putfield 53, 3) := by decide +kernel
theorem dX9_init_133 : decode cX9_init 133 = .ok (.aload_n 0, 1) := by decide +kernel
theorem dX9_init_134 : decode cX9_init 134 = .ok (.bipush 12, 2) := by decide +kernel
theorem dX9_init_136 : decode cX9_init 136 = .ok (.newarray .int, 2) := by decide +kernel
theorem dX9_init_138 : decode cX9_init 138 = .ok (.putfield 56, 3) := by decide +kernel
theorem dX9_init_141 : decode cX9_init 141 = .ok (.aload_n 0, 1) := by decide +kernel
theorem dX9_init_142 : decode cX9_init 142 = .ok (.bipush 12, 2) := by decide +kernel
theorem dX9_init_144 : decode cX9_init 144 = .ok (.newarray .int, 2) := by decide +kernel
theorem dX9_init_146 : decode cX9_init 146 = .ok (.putfield 59, 3) := by decide +kernel
theorem dX9_init_149 : decode cX9_init 149 = .ok (.aload_n 0, 1) := by decide +kernel
theorem dX9_init_150 : decode cX9_init 150 = .ok (.sipush 144, 3) := by decide +kernel
theorem dX9_init_153 : decode cX9_init 153 = .ok (.newarray .int, 2) := by decide +kernel
theorem dX9_init_155 : decode cX9_init 155 = .ok (.putfield 62, 3) := by decide +kernel
theorem dX9_init_158 : decode cX9_init 158 = .ok (.aload_n 0, 1) := by decide +kernel
theorem dX9_init_159 : decode cX9_init 159 = .ok (.sipush 21024, 3) := by decide +kernel
theorem dX9_init_162 : decode cX9_init 162 = .ok (.newarray .int, 2) := by decide +kernel
theorem dX9_init_164 : decode cX9_init 164 = .ok (.putfield 65, 3) := by decide +kernel
theorem dX9_init_167 : decode cX9_init 167 = .ok (.aload_n 0, 1) := by decide +kernel
theorem dX9_init_168 : decode cX9_init 168 = .ok (.sipush 288, 3) := by decide +kernel
theorem dX9_init_171 : decode cX9_init 171 = .ok (.newarray .int, 2) := by decide +kernel
theorem dX9_init_173 : decode cX9_init 173 = .ok (.putfield 68, 3) := by decide +kernel
theorem dX9_init_176 : decode cX9_init 176 = .ok (.aload_n 0, 1) := by decide +kernel
theorem dX9_init_177 : decode cX9_init 177 = .ok (.sipush 144, 3) := by decide +kernel
theorem dX9_init_180 : decode cX9_init 180 = .ok (.newarray .int, 2) := by decide +kernel
theorem dX9_init_182 : decode cX9_init 182 = .ok (.putfield 71, 3) := by decide +kernel
theorem dX9_init_185 : decode cX9_init 185 = .ok (.aload_n 0, 1) := by decide +kernel
theorem dX9_init_186 : decode cX9_init 186 = .ok (.bipush 12, 2) := by decide +kernel
theorem dX9_init_188 : decode cX9_init 188 = .ok (.newarray .int, 2) := by decide +kernel
theorem dX9_init_190 : decode cX9_init 190 = .ok (.putfield 74, 3) := by decide +kernel
theorem dX9_init_193 : decode cX9_init 193 = .ok (.aload_n 0, 1) := by decide +kernel
theorem dX9_init_194 : decode cX9_init 194 = .ok (.bipush 12, 2) := by decide +kernel
theorem dX9_init_196 : decode cX9_init 196 = .ok (.newarray .int, 2) := by decide +kernel
theorem dX9_init_198 : decode cX9_init 198 = .ok (.putfield 77, 3) := by decide +kernel
theorem dX9_init_201 : decode cX9_init 201 = .ok (.return_, 1) := by decide +kernel
def post_X6_init (c : C3) (q : Nat) (f : Nat → Nat) : va_W := [(q, .inr (6, [.ref (f 0), .int 0])), ((f 0), .inl (c.2.1, 900, .inl (fun _ => 0)))]
set_option maxRecDepth 100000 in
set_option maxHeartbeats 4000000 in
theorem cc_X6_init (c : C3) (q : Nat) : Cc 1 m_X6_init c [.ref q] [(q, .inr (6, [.null, .int 0]))] 1 900 (post_X6_init c q) := by
  refine cc_of [some (.ref q)] 0 (by decide) rfl (Nat.le_of_ble_eq_true rfl) (fun ws0 => ?_)
  refine wn_aload_n (i := 0) dX6_init_0 rfl rfl ?_
  refine wn_obj dX6_init_1 (mem_t1 28 rfl rfl) (Nat.le_of_ble_eq_true rfl) (by decide) ?_
  refine wn_aload_n (i := 0) dX6_init_4 rfl rfl ?_
  refine wn_sipush (v := 900) dX6_init_5 (by decide +kernel) ?_
  refine wn_newB (N := 900) dX6_init_8 (by decide +kernel) (by decide +kernel) (by decide) (by decide) (by decide) (fun q1 => ?_)
  refine wn_put (i := 0) (l' := [(q, .inr (6, [.ref q1, .int 0])), (q1, .inl (c.2.1, 900, .inl (fun _ => 0)))]) dX6_init_10 (fc_X6_9).1 (fc_X6_9).2 rfl (Or.inr ⟨rfl, rfl⟩) rfl rfl (Nat.le_of_ble_eq_true rfl) rfl ?_
  refine wn_aload_n (i := 0) dX6_init_13 rfl rfl ?_
  refine wn_iconst (v := 0) dX6_init_14 (by decide +kernel) ?_
  refine wn_put (i := 0) (l' := [(q, .inr (6, [.ref q1, .int 0])), (q1, .inl (c.2.1, 900, .inl (fun _ => 0)))]) dX6_init_15 (fc_X6_15).1 (fc_X6_15).2 rfl (Or.inl rfl) rfl rfl (Nat.le_of_ble_eq_true rfl) rfl ?_
  exact wn_ret (fun i => [q1].getD i 0) dX6_init_18 rfl rfl
def post_X0_init (c : C3) (q : Nat) (f : Nat → Nat) : va_W := [(q, .inr (0, [.ref (f 0), .ref (f 1), .ref (f 2), .int 0, .int 0, .int 0, .int 0])), ((f 0), .inl (c.1, 24, .inl (fun _ => 0))), ((f 1), .inl (c.1, 288, .inl (fun _ => 0))), ((f 2), .inl (c.1, 288, .inl (fun _ => 0)))]
set_option maxRecDepth 100000 in
set_option maxHeartbeats 4000000 in
theorem cc_X0_init (c : C3) (q : Nat) : Cc 1 m_X0_init c [.ref q] [(q, .inr (0, [.null, .null, .null, .int 0, .int 0, .int 0, .int 0]))] 3 600 (post_X0_init c q) := by
  refine cc_of [some (.ref q)] 0 (by decide) rfl (Nat.le_of_ble_eq_true rfl) (fun ws0 => ?_)
  refine wn_aload_n (i := 0) dX0_init_0 rfl rfl ?_
  refine wn_obj dX0_init_1 (mem_t1 44 rfl rfl) (Nat.le_of_ble_eq_true rfl) (by decide) ?_
  refine wn_aload_n (i := 0) dX0_init_4 rfl rfl ?_
  refine wn_bipush (v := 24) dX0_init_5 (by decide +kernel) ?_
  refine wn_newI (N := 24) dX0_init_7 (by decide +kernel) (by decide +kernel) (by decide) (by decide) (by decide) (fun q1 => ?_)
  refine wn_put (i := 0) (l' := [(q, .inr (0, [.ref q1, .null, .null, .int 0, .int 0, .int 0, .int 0])), (q1, .inl (c.1, 24, .inl (fun _ => 0)))]) dX0_init_9 (fc_X0_9).1 (fc_X0_9).2 rfl (Or.inr ⟨rfl, rfl⟩) rfl rfl (Nat.le_of_ble_eq_true rfl) rfl ?_
  refine wn_aload_n (i := 0) dX0_init_12 rfl rfl ?_
  refine wn_sipush (v := 288) dX0_init_13 (by decide +kernel) ?_
  refine wn_newI (N := 288) dX0_init_16 (by decide +kernel) (by decide +kernel) (by decide) (by decide) (by decide) (fun q2 => ?_)
  refine wn_put (i := 0) (l' := [(q, .inr (0, [.ref q1, .ref q2, .null, .int 0, .int 0, .int 0, .int 0])), (q1, .inl (c.1, 24, .inl (fun _ => 0))), (q2, .inl (c.1, 288, .inl (fun _ => 0)))]) dX0_init_18 (fc_X0_15).1 (fc_X0_15).2 rfl (Or.inr ⟨rfl, rfl⟩) rfl rfl (Nat.le_of_ble_eq_true rfl) rfl ?_
  refine wn_aload_n (i := 0) dX0_init_21 rfl rfl ?_
  refine wn_sipush (v := 288) dX0_init_22 (by decide +kernel) ?_
  refine wn_newI (N := 288) dX0_init_25 (by decide +kernel) (by decide +kernel) (by decide) (by decide) (by decide) (fun q3 => ?_)
  refine wn_put (i := 0) (l' := [(q, .inr (0, [.ref q1, .ref q2, .ref q3, .int 0, .int 0, .int 0, .int 0])), (q1, .inl (c.1, 24, .inl (fun _ => 0))), (q2, .inl (c.1, 288, .inl (fun _ => 0))), (q3, .inl (c.1, 288, .inl (fun _ => 0)))]) dX0_init_27 (fc_X0_18).1 (fc_X0_18).2 rfl (Or.inr ⟨rfl, rfl⟩) rfl rfl (Nat.le_of_ble_eq_true rfl) rfl ?_
  refine wn_aload_n (i := 0) dX0_init_30 rfl rfl ?_
  refine wn_iconst (v := 0) dX0_init_31 (by decide +kernel) ?_
  refine wn_put (i := 0) (l' := [(q, .inr (0, [.ref q1, .ref q2, .ref q3, .int 0, .int 0, .int 0, .int 0])), (q1, .inl (c.1, 24, .inl (fun _ => 0))), (q2, .inl (c.1, 288, .inl (fun _ => 0))), (q3, .inl (c.1, 288, .inl (fun _ => 0)))]) dX0_init_32 (fc_X0_21).1 (fc_X0_21).2 rfl (Or.inl rfl) rfl rfl (Nat.le_of_ble_eq_true rfl) rfl ?_
  refine wn_aload_n (i := 0) dX0_init_35 rfl rfl ?_
  refine wn_iconst (v := 0) dX0_init_36 (by decide +kernel) ?_
  refine wn_put (i := 0) (l' := [(q, .inr (0, [.ref q1, .ref q2, .ref q3, .int 0, .int 0, .int 0, .int 0])), (q1, .inl (c.1, 24, .inl (fun _ => 0))), (q2, .inl (c.1, 288, .inl (fun _ => 0))), (q3, .inl (c.1, 288, .inl (fun _ => 0)))]) dX0_init_37 (fc_X0_25).1 (fc_X0_25).2 rfl (Or.inl rfl) rfl rfl (Nat.le_of_ble_eq_true rfl) rfl ?_
  refine wn_aload_n (i := 0) dX0_init_40 rfl rfl ?_
  refine wn_iconst (v := 0) dX0_init_41 (by decide +kernel) ?_
  refine wn_put (i := 0) (l' := [(q, .inr (0, [.ref q1, .ref q2, .ref q3, .int 0, .int 0, .int 0, .int 0])), (q1, .inl (c.1, 24, .inl (fun _ => 0))), (q2, .inl (c.1, 288, .inl (fun _ => 0))), (q3, .inl (c.1, 288, .inl (fun _ => 0)))]) dX0_init_42 (fc_X0_28).1 (fc_X0_28).2 rfl (Or.inl rfl) rfl rfl (Nat.le_of_ble_eq_true rfl) rfl ?_
  refine wn_aload_n (i := 0) dX0_init_45 rfl rfl ?_
  refine wn_iconst (v := 0) dX0_init_46 (by decide +kernel) ?_
  refine wn_put (i := 0) (l' := [(q, .inr (0, [.ref q1, .ref q2, .ref q3, .int 0, .int 0, .int 0, .int 0])), (q1, .inl (c.1, 24, .inl (fun _ => 0))), (q2, .inl (c.1, 288, .inl (fun _ => 0))), (q3, .inl (c.1, 288, .inl (fun _ => 0)))]) dX0_init_47 (fc_X0_31).1 (fc_X0_31).2 rfl (Or.inl rfl) rfl rfl (Nat.le_of_ble_eq_true rfl) rfl ?_
  exact wn_ret (fun i => [q1, q2, q3].getD i 0) dX0_init_50 rfl rfl
def post_X7_init (c : C3) (q a1 a2 : Nat) (f : Nat → Nat) : va_W := [(q, .inr (7, [.ref a1, .ref a2, .int 0, .int 0, .int 0, .int 0, .int 0, .int 0]))]
set_option maxRecDepth 100000 in
set_option maxHeartbeats 4000000 in
theorem cc_X7_init (c : C3) (q a1 a2 : Nat) : Cc 1 m_X7_init c [.ref q, .ref a1, .ref a2] [(q, .inr (7, [.null, .null, .int 0, .int 0, .int 0, .int 0, .int 0, .int 0]))] 0 0 (post_X7_init c q a1 a2) := by
  refine cc_of [some (.ref q), some (.ref a1), some (.ref a2)] 0 (by decide) rfl (Nat.le_of_ble_eq_true rfl) (fun ws0 => ?_)
  refine wn_aload_n (i := 0) dX7_init_0 rfl rfl ?_
  refine wn_obj dX7_init_1 (mem_t1 88 rfl rfl) (Nat.le_of_ble_eq_true rfl) (by decide) ?_
  refine wn_aload_n (i := 0) dX7_init_4 rfl rfl ?_
  refine wn_iconst (v := 0) dX7_init_5 (by decide +kernel) ?_
  refine wn_put (i := 0) (l' := [(q, .inr (7, [.null, .null, .int 0, .int 0, .int 0, .int 0, .int 0, .int 0]))]) dX7_init_6 (fc_X7_9).1 (fc_X7_9).2 rfl (Or.inl rfl) rfl rfl (Nat.le_of_ble_eq_true rfl) rfl ?_
  refine wn_aload_n (i := 0) dX7_init_9 rfl rfl ?_
  refine wn_iconst (v := 0) dX7_init_10 (by decide +kernel) ?_
  refine wn_put (i := 0) (l' := [(q, .inr (7, [.null, .null, .int 0, .int 0, .int 0, .int 0, .int 0, .int 0]))]) dX7_init_11 (fc_X7_15).1 (fc_X7_15).2 rfl (Or.inl rfl) rfl rfl (Nat.le_of_ble_eq_true rfl) rfl ?_
  refine wn_aload_n (i := 0) dX7_init_14 rfl rfl ?_
  refine wn_iconst (v := 0) dX7_init_15 (by decide +kernel) ?_
  refine wn_put (i := 0) (l' := [(q, .inr (7, [.null, .null, .int 0, .int 0, .int 0, .int 0, .int 0, .int 0]))]) dX7_init_16 (fc_X7_18).1 (fc_X7_18).2 rfl (Or.inl rfl) rfl rfl (Nat.le_of_ble_eq_true rfl) rfl ?_
  refine wn_aload_n (i := 0) dX7_init_19 rfl rfl ?_
  refine wn_iconst (v := 0) dX7_init_20 (by decide +kernel) ?_
  refine wn_put (i := 0) (l' := [(q, .inr (7, [.null, .null, .int 0, .int 0, .int 0, .int 0, .int 0, .int 0]))]) dX7_init_21 (fc_X7_21).1 (fc_X7_21).2 rfl (Or.inl rfl) rfl rfl (Nat.le_of_ble_eq_true rfl) rfl ?_
  refine wn_aload_n (i := 0) dX7_init_24 rfl rfl ?_
  refine wn_iconst (v := 0) dX7_init_25 (by decide +kernel) ?_
  refine wn_put (i := 0) (l' := [(q, .inr (7, [.null, .null, .int 0, .int 0, .int 0, .int 0, .int 0, .int 0]))]) dX7_init_26 (fc_X7_24).1 (fc_X7_24).2 rfl (Or.inl rfl) rfl rfl (Nat.le_of_ble_eq_true rfl) rfl ?_
  refine wn_aload_n (i := 0) dX7_init_29 rfl rfl ?_
  refine wn_iconst (v := 0) dX7_init_30 (by decide +kernel) ?_
  refine wn_put (i := 0) (l' := [(q, .inr (7, [.null, .null, .int 0, .int 0, .int 0, .int 0, .int 0, .int 0]))]) dX7_init_31 (fc_X7_27).1 (fc_X7_27).2 rfl (Or.inl rfl) rfl rfl (Nat.le_of_ble_eq_true rfl) rfl ?_
  refine wn_aload_n (i := 0) dX7_init_34 rfl rfl ?_
  refine wn_aload_n (i := 1) dX7_init_35 rfl rfl ?_
  refine wn_put (i := 0) (l' := [(q, .inr (7, [.ref a1, .null, .int 0, .int 0, .int 0, .int 0, .int 0, .int 0]))]) dX7_init_36 (fc_X7_30).1 (fc_X7_30).2 rfl (Or.inr ⟨rfl, rfl⟩) rfl rfl (Nat.le_of_ble_eq_true rfl) rfl ?_
  refine wn_aload_n (i := 0) dX7_init_39 rfl rfl ?_
  refine wn_aload_n (i := 2) dX7_init_40 rfl rfl ?_
  refine wn_put (i := 0) (l' := [(q, .inr (7, [.ref a1, .ref a2, .int 0, .int 0, .int 0, .int 0, .int 0, .int 0]))]) dX7_init_41 (fc_X7_34).1 (fc_X7_34).2 rfl (Or.inr ⟨rfl, rfl⟩) rfl rfl (Nat.le_of_ble_eq_true rfl) rfl ?_
  exact wn_ret (fun i => [].getD i 0) dX7_init_44 rfl rfl
def post_X2_init (c : C3) (q : Nat) (f : Nat → Nat) : va_W := [(q, .inr (2, [.ref (f 0), .int 0])), ((f 0), .inl (c.1, 144, .inl (fun _ => -1)))]
set_option maxRecDepth 100000 in
set_option maxHeartbeats 4000000 in
theorem cc_X2_init (c : C3) (q : Nat) : Cc 1 m_X2_init c [.ref q] [(q, .inr (2, [.null, .int 0]))] 1 144 (post_X2_init c q) := by
  refine cc_of [some (.ref q)] 0 (by decide) rfl (Nat.le_of_ble_eq_true rfl) (fun ws0 => ?_)
  refine wn_aload_n (i := 0) dX2_init_0 rfl rfl ?_
  refine wn_obj dX2_init_1 (mem_t1 121 rfl rfl) (Nat.le_of_ble_eq_true rfl) (by decide) ?_
  refine wn_aload_n (i := 0) dX2_init_4 rfl rfl ?_
  refine wn_sipush (v := 144) dX2_init_5 (by decide +kernel) ?_
  refine wn_newI (N := 144) dX2_init_8 (by decide +kernel) (by decide +kernel) (by decide) (by decide) (by decide) (fun q1 => ?_)
  refine wn_put (i := 0) (l' := [(q, .inr (2, [.ref q1, .int 0])), (q1, .inl (c.1, 144, .inl (fun _ => 0)))]) dX2_init_10 (fc_X2_9).1 (fc_X2_9).2 rfl (Or.inr ⟨rfl, rfl⟩) rfl rfl (Nat.le_of_ble_eq_true rfl) rfl ?_
  refine wn_aload_n (i := 0) dX2_init_13 rfl rfl ?_
  refine wn_iconst (v := 0) dX2_init_14 (by decide +kernel) ?_
  refine wn_put (i := 0) (l' := [(q, .inr (2, [.ref q1, .int 0])), (q1, .inl (c.1, 144, .inl (fun _ => 0)))]) dX2_init_15 (fc_X2_15).1 (fc_X2_15).2 rfl (Or.inl rfl) rfl rfl (Nat.le_of_ble_eq_true rfl) rfl ?_
  refine wn_aload_n (i := 0) dX2_init_18 rfl rfl ?_
  refine wn_get (i := 0) (v := .ref q1) dX2_init_19 (fc_X2_9).1 rfl rfl ?_
  refine wn_iconst (v := -1) dX2_init_22 (by decide +kernel) ?_
  refine wn_stat (N := m_J7_fill_53178) (As := [.ref q1, .int (-1)]) (rest := []) (l1 := [(q, .inr (2, [.ref q1, .int 0]))]) dX2_init_23 (mem_t1 122 rfl rfl) mo_J7_fill_53178 vo_J7_fill_53178 rfl rfl (cc_fill c q1 144 (-1) (fun _ => 0) (by decide)) (by decide) (Nat.le_of_ble_eq_true rfl) (by decide) (by decide) (fun _ => ?_)
  show Wn _ _ _ _ _ _ _ _ _ _ [(q, .inr (2, [.ref q1, .int 0])), (q1, .inl (c.1, 144, .inl (fun _ => -1)))] _ _
  exact wn_ret (fun i => [q1].getD i 0) dX2_init_26 rfl rfl
def post_X3_init (c : C3) (q a1 : Nat) (f : Nat → Nat) : va_W := [(q, .inr (3, [.ref a1, .ref (f 0), .ref (f 1), .ref (f 2), .ref (f 3)])), ((f 0), .inl (c.1, 13, .inl (fun _ => 0))), ((f 1), .inl (c.1, 12, .inl (fun _ => 0))), ((f 2), .inl (c.2.2, 13, .inr (.inl (fun _ => 0)))), ((f 3), .inl (c.2.2, 13, .inr (.inl (fun _ => 0))))]
set_option maxRecDepth 100000 in
set_option maxHeartbeats 4000000 in
theorem cc_X3_init (c : C3) (q a1 : Nat) : Cc 1 m_X3_init c [.ref q, .ref a1] [(q, .inr (3, [.null, .null, .null, .null, .null]))] 4 51 (post_X3_init c q a1) := by
  refine cc_of [some (.ref q), some (.ref a1)] 0 (by decide) rfl (Nat.le_of_ble_eq_true rfl) (fun ws0 => ?_)
  refine wn_aload_n (i := 0) dX3_init_0 rfl rfl ?_
  refine wn_obj dX3_init_1 (mem_t1 138 rfl rfl) (Nat.le_of_ble_eq_true rfl) (by decide) ?_
  refine wn_aload_n (i := 0) dX3_init_4 rfl rfl ?_
  refine wn_bipush (v := 13) dX3_init_5 (by decide +kernel) ?_
  refine wn_newI (N := 13) dX3_init_7 (by decide +kernel) (by decide +kernel) (by decide) (by decide) (by decide) (fun q1 => ?_)
  refine wn_put (i := 0) (l' := [(q, .inr (3, [.null, .ref q1, .null, .null, .null])), (q1, .inl (c.1, 13, .inl (fun _ => 0)))]) dX3_init_9 (fc_X3_9).1 (fc_X3_9).2 rfl (Or.inr ⟨rfl, rfl⟩) rfl rfl (Nat.le_of_ble_eq_true rfl) rfl ?_
  refine wn_aload_n (i := 0) dX3_init_12 rfl rfl ?_
  refine wn_bipush (v := 12) dX3_init_13 (by decide +kernel) ?_
  refine wn_newI (N := 12) dX3_init_15 (by decide +kernel) (by decide +kernel) (by decide) (by decide) (by decide) (fun q2 => ?_)
  refine wn_put (i := 0) (l' := [(q, .inr (3, [.null, .ref q1, .ref q2, .null, .null])), (q1, .inl (c.1, 13, .inl (fun _ => 0))), (q2, .inl (c.1, 12, .inl (fun _ => 0)))]) dX3_init_17 (fc_X3_15).1 (fc_X3_15).2 rfl (Or.inr ⟨rfl, rfl⟩) rfl rfl (Nat.le_of_ble_eq_true rfl) rfl ?_
  refine wn_aload_n (i := 0) dX3_init_20 rfl rfl ?_
  refine wn_bipush (v := 13) dX3_init_21 (by decide +kernel) ?_
  refine wn_newJ (N := 13) dX3_init_23 (by decide +kernel) (by decide +kernel) (by decide) (by decide) (by decide) (fun q3 => ?_)
  refine wn_put (i := 0) (l' := [(q, .inr (3, [.null, .ref q1, .ref q2, .ref q3, .null])), (q1, .inl (c.1, 13, .inl (fun _ => 0))), (q2, .inl (c.1, 12, .inl (fun _ => 0))), (q3, .inl (c.2.2, 13, .inr (.inl (fun _ => 0))))]) dX3_init_25 (fc_X3_18).1 (fc_X3_18).2 rfl (Or.inr ⟨rfl, rfl⟩) rfl rfl (Nat.le_of_ble_eq_true rfl) rfl ?_
  refine wn_aload_n (i := 0) dX3_init_28 rfl rfl ?_
  refine wn_bipush (v := 13) dX3_init_29 (by decide +kernel) ?_
  refine wn_newJ (N := 13) dX3_init_31 (by decide +kernel) (by decide +kernel) (by decide) (by decide) (by decide) (fun q4 => ?_)
  refine wn_put (i := 0) (l' := [(q, .inr (3, [.null, .ref q1, .ref q2, .ref q3, .ref q4])), (q1, .inl (c.1, 13, .inl (fun _ => 0))), (q2, .inl (c.1, 12, .inl (fun _ => 0))), (q3, .inl (c.2.2, 13, .inr (.inl (fun _ => 0)))), (q4, .inl (c.2.2, 13, .inr (.inl (fun _ => 0))))]) dX3_init_33 (fc_X3_22).1 (fc_X3_22).2 rfl (Or.inr ⟨rfl, rfl⟩) rfl rfl (Nat.le_of_ble_eq_true rfl) rfl ?_
  refine wn_aload_n (i := 0) dX3_init_36 rfl rfl ?_
  refine wn_aload_n (i := 1) dX3_init_37 rfl rfl ?_
  refine wn_put (i := 0) (l' := [(q, .inr (3, [.ref a1, .ref q1, .ref q2, .ref q3, .ref q4])), (q1, .inl (c.1, 13, .inl (fun _ => 0))), (q2, .inl (c.1, 12, .inl (fun _ => 0))), (q3, .inl (c.2.2, 13, .inr (.inl (fun _ => 0)))), (q4, .inl (c.2.2, 13, .inr (.inl (fun _ => 0))))]) dX3_init_38 (fc_X3_25).1 (fc_X3_25).2 rfl (Or.inr ⟨rfl, rfl⟩) rfl rfl (Nat.le_of_ble_eq_true rfl) rfl ?_
  exact wn_ret (fun i => [q1, q2, q3, q4].getD i 0) dX3_init_41 rfl rfl
def post_X4_init (c : C3) (q a1 : Nat) (f : Nat → Nat) : va_W := [(q, .inr (4, [.ref a1, .ref (f 0)])), ((f 0), .inl (c.2.2, 24, .inr (.inl (fun _ => 0))))]
set_option maxRecDepth 100000 in
set_option maxHeartbeats 4000000 in
theorem cc_X4_init (c : C3) (q a1 : Nat) : Cc 1 m_X4_init c [.ref q, .ref a1] [(q, .inr (4, [.null, .null]))] 1 24 (post_X4_init c q a1) := by
  refine cc_of [some (.ref q), some (.ref a1)] 0 (by decide) rfl (Nat.le_of_ble_eq_true rfl) (fun ws0 => ?_)
  refine wn_aload_n (i := 0) dX4_init_0 rfl rfl ?_
  refine wn_obj dX4_init_1 (mem_t1 167 rfl rfl) (Nat.le_of_ble_eq_true rfl) (by decide) ?_
  refine wn_aload_n (i := 0) dX4_init_4 rfl rfl ?_
  refine wn_bipush (v := 24) dX4_init_5 (by decide +kernel) ?_
  refine wn_newJ (N := 24) dX4_init_7 (by decide +kernel) (by decide +kernel) (by decide) (by decide) (by decide) (fun q1 => ?_)
  refine wn_put (i := 0) (l' := [(q, .inr (4, [.null, .ref q1])), (q1, .inl (c.2.2, 24, .inr (.inl (fun _ => 0))))]) dX4_init_9 (fc_X4_9).1 (fc_X4_9).2 rfl (Or.inr ⟨rfl, rfl⟩) rfl rfl (Nat.le_of_ble_eq_true rfl) rfl ?_
  refine wn_aload_n (i := 0) dX4_init_12 rfl rfl ?_
  refine wn_aload_n (i := 1) dX4_init_13 rfl rfl ?_
  refine wn_put (i := 0) (l' := [(q, .inr (4, [.ref a1, .ref q1])), (q1, .inl (c.2.2, 24, .inr (.inl (fun _ => 0))))]) dX4_init_14 (fc_X4_15).1 (fc_X4_15).2 rfl (Or.inr ⟨rfl, rfl⟩) rfl rfl (Nat.le_of_ble_eq_true rfl) rfl ?_
  exact wn_ret (fun i => [q1].getD i 0) dX4_init_17 rfl rfl
def post_X5_init (c : C3) (q a1 a2 : Nat) (f : Nat → Nat) : va_W := [(q, .inr (5, [.ref a1, .ref a2, .ref (f 3), .ref (f 5), .ref (f 0), .ref (f 1), .ref (f 2), .int 0])), ((f 0), .inl (c.2.2, 3456, .inr (.inl (fun _ => 0)))), ((f 1), .inl (c.1, 144, .inl (fun _ => 0))), ((f 2), .inl (c.1, 144, .inl (fun _ => 0))), ((f 3), .inr (4, [.ref a1, .ref (f 4)])), ((f 4), .inl (c.2.2, 24, .inr (.inl (fun _ => 0)))), ((f 5), .inr (4, [.ref a1, .ref (f 6)])), ((f 6), .inl (c.2.2, 24, .inr (.inl (fun _ => 0))))]
set_option maxRecDepth 100000 in
set_option maxHeartbeats 4000000 in
theorem cc_X5_init (c : C3) (q a1 a2 : Nat) : Cc 2 m_X5_init c [.ref q, .ref a1, .ref a2] [(q, .inr (5, [.null, .null, .null, .null, .null, .null, .null, .int 0]))] 7 3796 (post_X5_init c q a1 a2) := by
  refine cc_of [some (.ref q), some (.ref a1), some (.ref a2)] 0 (by decide) rfl (Nat.le_of_ble_eq_true rfl) (fun ws0 => ?_)
  refine wn_aload_n (i := 0) dX5_init_0 rfl rfl ?_
  refine wn_obj dX5_init_1 (mem_t1 161 rfl rfl) (Nat.le_of_ble_eq_true rfl) (by decide) ?_
  refine wn_aload_n (i := 0) dX5_init_4 rfl rfl ?_
  refine wn_sipush (v := 3456) dX5_init_5 (by decide +kernel) ?_
  refine wn_newJ (N := 3456) dX5_init_8 (by decide +kernel) (by decide +kernel) (by decide) (by decide) (by decide) (fun q1 => ?_)
  refine wn_put (i := 0) (l' := [(q, .inr (5, [.null, .null, .null, .null, .ref q1, .null, .null, .int 0])), (q1, .inl (c.2.2, 3456, .inr (.inl (fun _ => 0))))]) dX5_init_10 (fc_X5_9).1 (fc_X5_9).2 rfl (Or.inr ⟨rfl, rfl⟩) rfl rfl (Nat.le_of_ble_eq_true rfl) rfl ?_
  refine wn_aload_n (i := 0) dX5_init_13 rfl rfl ?_
  refine wn_sipush (v := 144) dX5_init_14 (by decide +kernel) ?_
  refine wn_newI (N := 144) dX5_init_17 (by decide +kernel) (by decide +kernel) (by decide) (by decide) (by decide) (fun q2 => ?_)
  refine wn_put (i := 0) (l' := [(q, .inr (5, [.null, .null, .null, .null, .ref q1, .ref q2, .null, .int 0])), (q1, .inl (c.2.2, 3456, .inr (.inl (fun _ => 0)))), (q2, .inl (c.1, 144, .inl (fun _ => 0)))]) dX5_init_19 (fc_X5_15).1 (fc_X5_15).2 rfl (Or.inr ⟨rfl, rfl⟩) rfl rfl (Nat.le_of_ble_eq_true rfl) rfl ?_
  refine wn_aload_n (i := 0) dX5_init_22 rfl rfl ?_
  refine wn_sipush (v := 144) dX5_init_23 (by decide +kernel) ?_
  refine wn_newI (N := 144) dX5_init_26 (by decide +kernel) (by decide +kernel) (by decide) (by decide) (by decide) (fun q3 => ?_)
  refine wn_put (i := 0) (l' := [(q, .inr (5, [.null, .null, .null, .null, .ref q1, .ref q2, .ref q3, .int 0])), (q1, .inl (c.2.2, 3456, .inr (.inl (fun _ => 0)))), (q2, .inl (c.1, 144, .inl (fun _ => 0))), (q3, .inl (c.1, 144, .inl (fun _ => 0)))]) dX5_init_28 (fc_X5_19).1 (fc_X5_19).2 rfl (Or.inr ⟨rfl, rfl⟩) rfl rfl (Nat.le_of_ble_eq_true rfl) rfl ?_
  refine wn_aload_n (i := 0) dX5_init_31 rfl rfl ?_
  refine wn_iconst (v := 0) dX5_init_32 (by decide +kernel) ?_
  refine wn_put (i := 0) (l' := [(q, .inr (5, [.null, .null, .null, .null, .ref q1, .ref q2, .ref q3, .int 0])), (q1, .inl (c.2.2, 3456, .inr (.inl (fun _ => 0)))), (q2, .inl (c.1, 144, .inl (fun _ => 0))), (q3, .inl (c.1, 144, .inl (fun _ => 0)))]) dX5_init_33 (fc_X5_22).1 (fc_X5_22).2 rfl (Or.inl rfl) rfl rfl (Nat.le_of_ble_eq_true rfl) rfl ?_
  refine wn_aload_n (i := 0) dX5_init_36 rfl rfl ?_
  refine wn_aload_n (i := 1) dX5_init_37 rfl rfl ?_
  refine wn_put (i := 0) (l' := [(q, .inr (5, [.ref a1, .null, .null, .null, .ref q1, .ref q2, .ref q3, .int 0])), (q1, .inl (c.2.2, 3456, .inr (.inl (fun _ => 0)))), (q2, .inl (c.1, 144, .inl (fun _ => 0))), (q3, .inl (c.1, 144, .inl (fun _ => 0)))]) dX5_init_38 (fc_X5_26).1 (fc_X5_26).2 rfl (Or.inr ⟨rfl, rfl⟩) rfl rfl (Nat.le_of_ble_eq_true rfl) rfl ?_
  refine wn_aload_n (i := 0) dX5_init_41 rfl rfl ?_
  refine wn_aload_n (i := 2) dX5_init_42 rfl rfl ?_
  refine wn_put (i := 0) (l' := [(q, .inr (5, [.ref a1, .ref a2, .null, .null, .ref q1, .ref q2, .ref q3, .int 0])), (q1, .inl (c.2.2, 3456, .inr (.inl (fun _ => 0)))), (q2, .inl (c.1, 144, .inl (fun _ => 0))), (q3, .inl (c.1, 144, .inl (fun _ => 0)))]) dX5_init_43 (fc_X5_30).1 (fc_X5_30).2 rfl (Or.inr ⟨rfl, rfl⟩) rfl rfl (Nat.le_of_ble_eq_true rfl) rfl ?_
  refine wn_aload_n (i := 0) dX5_init_46 rfl rfl ?_
  refine wn_new (ci := 4) (fs := [.null, .null]) (N := 2) dX5_init_47 (by decide) rfl ⟨mem_t1 162 rfl rfl, mem_t1 163 rfl rfl, mem_t1 9 rfl rfl⟩ (by decide +kernel) (by decide) (by decide) (fun q4 => ?_)
  refine wn_dup dX5_init_50 ?_
  refine wn_aload_n (i := 1) dX5_init_51 rfl rfl ?_
  refine wn_ctor (N := m_X4_init) (As := [.ref a1]) (rest := [.ref q4, .ref q]) (l1 := [(q, .inr (5, [.ref a1, .ref a2, .null, .null, .ref q1, .ref q2, .ref q3, .int 0])), (q1, .inl (c.2.2, 3456, .inr (.inl (fun _ => 0)))), (q2, .inl (c.1, 144, .inl (fun _ => 0))), (q3, .inl (c.1, 144, .inl (fun _ => 0)))]) dX5_init_52 mc_X5_36 mo_X4_init ⟨ic_X4_init, rfl⟩ rfl rfl rfl (cc_X4_init c q4 a1) (by decide) (Nat.le_of_ble_eq_true rfl) (by decide) (by decide) (fun f5 => ?_)
  show Wn _ _ _ _ _ _ _ _ _ _ [(q, .inr (5, [.ref a1, .ref a2, .null, .null, .ref q1, .ref q2, .ref q3, .int 0])), (q1, .inl (c.2.2, 3456, .inr (.inl (fun _ => 0)))), (q2, .inl (c.1, 144, .inl (fun _ => 0))), (q3, .inl (c.1, 144, .inl (fun _ => 0))), (q4, .inr (4, [.ref a1, .ref (f5 0)])), ((f5 0), .inl (c.2.2, 24, .inr (.inl (fun _ => 0))))] _ _
  refine wn_put (i := 0) (l' := [(q, .inr (5, [.ref a1, .ref a2, .ref q4, .null, .ref q1, .ref q2, .ref q3, .int 0])), (q1, .inl (c.2.2, 3456, .inr (.inl (fun _ => 0)))), (q2, .inl (c.1, 144, .inl (fun _ => 0))), (q3, .inl (c.1, 144, .inl (fun _ => 0))), (q4, .inr (4, [.ref a1, .ref (f5 0)])), ((f5 0), .inl (c.2.2, 24, .inr (.inl (fun _ => 0))))]) dX5_init_55 (fc_X5_39).1 (fc_X5_39).2 rfl (Or.inr ⟨rfl, rfl⟩) rfl rfl (Nat.le_of_ble_eq_true rfl) rfl ?_
  refine wn_aload_n (i := 0) dX5_init_58 rfl rfl ?_
  refine wn_new (ci := 4) (fs := [.null, .null]) (N := 2) dX5_init_59 (by decide) rfl ⟨mem_t1 162 rfl rfl, mem_t1 163 rfl rfl, mem_t1 9 rfl rfl⟩ (by decide +kernel) (by decide) (by decide) (fun q6 => ?_)
  refine wn_dup dX5_init_62 ?_
  refine wn_aload_n (i := 1) dX5_init_63 rfl rfl ?_
  refine wn_ctor (N := m_X4_init) (As := [.ref a1]) (rest := [.ref q6, .ref q]) (l1 := [(q, .inr (5, [.ref a1, .ref a2, .ref q4, .null, .ref q1, .ref q2, .ref q3, .int 0])), (q1, .inl (c.2.2, 3456, .inr (.inl (fun _ => 0)))), (q2, .inl (c.1, 144, .inl (fun _ => 0))), (q3, .inl (c.1, 144, .inl (fun _ => 0))), (q4, .inr (4, [.ref a1, .ref (f5 0)])), ((f5 0), .inl (c.2.2, 24, .inr (.inl (fun _ => 0))))]) dX5_init_64 mc_X5_36 mo_X4_init ⟨ic_X4_init, rfl⟩ rfl rfl rfl (cc_X4_init c q6 a1) (by decide) (Nat.le_of_ble_eq_true rfl) (by decide) (by decide) (fun f7 => ?_)
  show Wn _ _ _ _ _ _ _ _ _ _ [(q, .inr (5, [.ref a1, .ref a2, .ref q4, .null, .ref q1, .ref q2, .ref q3, .int 0])), (q1, .inl (c.2.2, 3456, .inr (.inl (fun _ => 0)))), (q2, .inl (c.1, 144, .inl (fun _ => 0))), (q3, .inl (c.1, 144, .inl (fun _ => 0))), (q4, .inr (4, [.ref a1, .ref (f5 0)])), ((f5 0), .inl (c.2.2, 24, .inr (.inl (fun _ => 0)))), (q6, .inr (4, [.ref a1, .ref (f7 0)])), ((f7 0), .inl (c.2.2, 24, .inr (.inl (fun _ => 0))))] _ _
  refine wn_put (i := 0) (l' := [(q, .inr (5, [.ref a1, .ref a2, .ref q4, .ref q6, .ref q1, .ref q2, .ref q3, .int 0])), (q1, .inl (c.2.2, 3456, .inr (.inl (fun _ => 0)))), (q2, .inl (c.1, 144, .inl (fun _ => 0))), (q3, .inl (c.1, 144, .inl (fun _ => 0))), (q4, .inr (4, [.ref a1, .ref (f5 0)])), ((f5 0), .inl (c.2.2, 24, .inr (.inl (fun _ => 0)))), (q6, .inr (4, [.ref a1, .ref (f7 0)])), ((f7 0), .inl (c.2.2, 24, .inr (.inl (fun _ => 0))))]) dX5_init_67 (fc_X5_43).1 (fc_X5_43).2 rfl (Or.inr ⟨rfl, rfl⟩) rfl rfl (Nat.le_of_ble_eq_true rfl) rfl ?_
  exact wn_ret (fun i => [q1, q2, q3, q4, (f5 0), q6, (f7 0)].getD i 0) dX5_init_70 rfl rfl
def post_X1_init (c : C3) (q : Nat) (f : Nat → Nat) : va_W := [(q, .inr (1, [.ref (f 0), .ref (f 2), .int 0, .int (-1), .int 0])), ((f 0), .inr (2, [.ref (f 1), .int 0])), ((f 1), .inl (c.1, 144, .inl (fun _ => -1))), ((f 2), .inr (2, [.ref (f 3), .int 0])), ((f 3), .inl (c.1, 144, .inl (fun _ => -1)))]
set_option maxRecDepth 100000 in
set_option maxHeartbeats 4000000 in
theorem cc_X1_init (c : C3) (q : Nat) : Cc 2 m_X1_init c [.ref q] [(q, .inr (1, [.null, .null, .int 0, .int 0, .int 0]))] 4 292 (post_X1_init c q) := by
  refine cc_of [some (.ref q)] 0 (by decide) rfl (Nat.le_of_ble_eq_true rfl) (fun ws0 => ?_)
  refine wn_aload_n (i := 0) dX1_init_0 rfl rfl ?_
  refine wn_obj dX1_init_1 (mem_t1 210 rfl rfl) (Nat.le_of_ble_eq_true rfl) (by decide) ?_
  refine wn_aload_n (i := 0) dX1_init_4 rfl rfl ?_
  refine wn_new (ci := 2) (fs := [.null, .int 0]) (N := 2) dX1_init_5 (by decide) rfl ⟨mem_t1 211 rfl rfl, mem_t1 117 rfl rfl, mem_t1 5 rfl rfl⟩ (by decide +kernel) (by decide) (by decide) (fun q1 => ?_)
  refine wn_dup dX1_init_8 ?_
  refine wn_ctor (N := m_X2_init) (As := []) (rest := [.ref q1, .ref q]) (l1 := [(q, .inr (1, [.null, .null, .int 0, .int 0, .int 0]))]) dX1_init_9 mc_X1_11 mo_X2_init ⟨ic_X2_init, rfl⟩ rfl rfl rfl (cc_X2_init c q1) (by decide) (Nat.le_of_ble_eq_true rfl) (by decide) (by decide) (fun f2 => ?_)
  show Wn _ _ _ _ _ _ _ _ _ _ [(q, .inr (1, [.null, .null, .int 0, .int 0, .int 0])), (q1, .inr (2, [.ref (f2 0), .int 0])), ((f2 0), .inl (c.1, 144, .inl (fun _ => -1)))] _ _
  refine wn_put (i := 0) (l' := [(q, .inr (1, [.ref q1, .null, .int 0, .int 0, .int 0])), (q1, .inr (2, [.ref (f2 0), .int 0])), ((f2 0), .inl (c.1, 144, .inl (fun _ => -1)))]) dX1_init_12 (fc_X1_12).1 (fc_X1_12).2 rfl (Or.inr ⟨rfl, rfl⟩) rfl rfl (Nat.le_of_ble_eq_true rfl) rfl ?_
  refine wn_aload_n (i := 0) dX1_init_15 rfl rfl ?_
  refine wn_new (ci := 2) (fs := [.null, .int 0]) (N := 2) dX1_init_16 (by decide) rfl ⟨mem_t1 211 rfl rfl, mem_t1 117 rfl rfl, mem_t1 5 rfl rfl⟩ (by decide +kernel) (by decide) (by decide) (fun q3 => ?_)
  refine wn_dup dX1_init_19 ?_
  refine wn_ctor (N := m_X2_init) (As := []) (rest := [.ref q3, .ref q]) (l1 := [(q, .inr (1, [.ref q1, .null, .int 0, .int 0, .int 0])), (q1, .inr (2, [.ref (f2 0), .int 0])), ((f2 0), .inl (c.1, 144, .inl (fun _ => -1)))]) dX1_init_20 mc_X1_11 mo_X2_init ⟨ic_X2_init, rfl⟩ rfl rfl rfl (cc_X2_init c q3) (by decide) (Nat.le_of_ble_eq_true rfl) (by decide) (by decide) (fun f4 => ?_)
  show Wn _ _ _ _ _ _ _ _ _ _ [(q, .inr (1, [.ref q1, .null, .int 0, .int 0, .int 0])), (q1, .inr (2, [.ref (f2 0), .int 0])), ((f2 0), .inl (c.1, 144, .inl (fun _ => -1))), (q3, .inr (2, [.ref (f4 0), .int 0])), ((f4 0), .inl (c.1, 144, .inl (fun _ => -1)))] _ _
  refine wn_put (i := 0) (l' := [(q, .inr (1, [.ref q1, .ref q3, .int 0, .int 0, .int 0])), (q1, .inr (2, [.ref (f2 0), .int 0])), ((f2 0), .inl (c.1, 144, .inl (fun _ => -1))), (q3, .inr (2, [.ref (f4 0), .int 0])), ((f4 0), .inl (c.1, 144, .inl (fun _ => -1)))]) dX1_init_23 (fc_X1_18).1 (fc_X1_18).2 rfl (Or.inr ⟨rfl, rfl⟩) rfl rfl (Nat.le_of_ble_eq_true rfl) rfl ?_
  refine wn_aload_n (i := 0) dX1_init_26 rfl rfl ?_
  refine wn_iconst (v := 0) dX1_init_27 (by decide +kernel) ?_
  refine wn_put (i := 0) (l' := [(q, .inr (1, [.ref q1, .ref q3, .int 0, .int 0, .int 0])), (q1, .inr (2, [.ref (f2 0), .int 0])), ((f2 0), .inl (c.1, 144, .inl (fun _ => -1))), (q3, .inr (2, [.ref (f4 0), .int 0])), ((f4 0), .inl (c.1, 144, .inl (fun _ => -1)))]) dX1_init_28 (fc_X1_21).1 (fc_X1_21).2 rfl (Or.inl rfl) rfl rfl (Nat.le_of_ble_eq_true rfl) rfl ?_
  refine wn_aload_n (i := 0) dX1_init_31 rfl rfl ?_
  refine wn_iconst (v := -1) dX1_init_32 (by decide +kernel) ?_
  refine wn_put (i := 0) (l' := [(q, .inr (1, [.ref q1, .ref q3, .int 0, .int (-1), .int 0])), (q1, .inr (2, [.ref (f2 0), .int 0])), ((f2 0), .inl (c.1, 144, .inl (fun _ => -1))), (q3, .inr (2, [.ref (f4 0), .int 0])), ((f4 0), .inl (c.1, 144, .inl (fun _ => -1)))]) dX1_init_33 (fc_X1_25).1 (fc_X1_25).2 rfl (Or.inl rfl) rfl rfl (Nat.le_of_ble_eq_true rfl) rfl ?_
  refine wn_aload_n (i := 0) dX1_init_36 rfl rfl ?_
  refine wn_iconst (v := 0) dX1_init_37 (by decide +kernel) ?_
  refine wn_put (i := 0) (l' := [(q, .inr (1, [.ref q1, .ref q3, .int 0, .int (-1), .int 0])), (q1, .inr (2, [.ref (f2 0), .int 0])), ((f2 0), .inl (c.1, 144, .inl (fun _ => -1))), (q3, .inr (2, [.ref (f4 0), .int 0])), ((f4 0), .inl (c.1, 144, .inl (fun _ => -1)))]) dX1_init_38 (fc_X1_28).1 (fc_X1_28).2 rfl (Or.inl rfl) rfl rfl (Nat.le_of_ble_eq_true rfl) rfl ?_
  exact wn_ret (fun i => [q1, (f2 0), q3, (f4 0)].getD i 0) dX1_init_41 rfl rfl
def post_X8_init (c : C3) (q : Nat) (f : Nat → Nat) : va_W := [(q, .inr (8, [.ref (f 0), .ref (f 2), .ref (f 6), .ref (f 10), .ref (f 11), .ref (f 13), .ref (f 15), .ref (f 20), .ref (f 28), .ref (f 30), .ref (f 32), .ref (f 37), .int 0, .int 0])), ((f 0), .inr (6, [.ref (f 1), .int 0])), ((f 1), .inl (c.2.1, 900, .inl (fun _ => 0))), ((f 2), .inr (0, [.ref (f 3), .ref (f 4), .ref (f 5), .int 0, .int 0, .int 0, .int 0])), ((f 3), .inl (c.1, 24, .inl (fun _ => 0))), ((f 4), .inl (c.1, 288, .inl (fun _ => 0))), ((f 5), .inl (c.1, 288, .inl (fun _ => 0))), ((f 6), .inr (0, [.ref (f 7), .ref (f 8), .ref (f 9), .int 0, .int 0, .int 0, .int 0])), ((f 7), .inl (c.1, 24, .inl (fun _ => 0))), ((f 8), .inl (c.1, 288, .inl (fun _ => 0))), ((f 9), .inl (c.1, 288, .inl (fun _ => 0))), ((f 10), .inr (7, [.ref (f 0), .ref (f 6), .int 0, .int 0, .int 0, .int 0, .int 0, .int 0])), ((f 11), .inr (2, [.ref (f 12), .int 0])), ((f 12), .inl (c.1, 144, .inl (fun _ => -1))), ((f 13), .inr (2, [.ref (f 14), .int 0])), ((f 14), .inl (c.1, 144, .inl (fun _ => -1))), ((f 15), .inr (3, [.ref (f 2), .ref (f 16), .ref (f 17), .ref (f 18), .ref (f 19)])), ((f 16), .inl (c.1, 13, .inl (fun _ => 0))), ((f 17), .inl (c.1, 12, .inl (fun _ => 0))), ((f 18), .inl (c.2.2, 13, .inr (.inl (fun _ => 0)))), ((f 19), .inl (c.2.2, 13, .inr (.inl (fun _ => 0)))), ((f 20), .inr (5, [.ref (f 2), .ref (f 15), .ref (f 24), .ref (f 26), .ref (f 21), .ref (f 22), .ref (f 23), .int 0])), ((f 21), .inl (c.2.2, 3456, .inr (.inl (fun _ => 0)))), ((f 22), .inl (c.1, 144, .inl (fun _ => 0))), ((f 23), .inl (c.1, 144, .inl (fun _ => 0))), ((f 24), .inr (4, [.ref (f 2), .ref (f 25)])), ((f 25), .inl (c.2.2, 24, .inr (.inl (fun _ => 0)))), ((f 26), .inr (4, [.ref (f 2), .ref (f 27)])), ((f 27), .inl (c.2.2, 24, .inr (.inl (fun _ => 0)))), ((f 28), .inr (4, [.ref (f 2), .ref (f 29)])), ((f 29), .inl (c.2.2, 24, .inr (.inl (fun _ => 0)))), ((f 30), .inr (4, [.ref (f 2), .ref (f 31)])), ((f 31), .inl (c.2.2, 24, .inr (.inl (fun _ => 0)))), ((f 32), .inr (1, [.ref (f 33), .ref (f 35), .int 0, .int (-1), .int 0])), ((f 33), .inr (2, [.ref (f 34), .int 0])), ((f 34), .inl (c.1, 144, .inl (fun _ => -1))), ((f 35), .inr (2, [.ref (f 36), .int 0])), ((f 36), .inl (c.1, 144, .inl (fun _ => -1))), ((f 37), .inr (1, [.ref (f 38), .ref (f 40), .int 0, .int (-1), .int 0])), ((f 38), .inr (2, [.ref (f 39), .int 0])), ((f 39), .inl (c.1, 144, .inl (fun _ => -1))), ((f 40), .inr (2, [.ref (f 41), .int 0])), ((f 41), .inl (c.1, 144, .inl (fun _ => -1)))]
set_option maxRecDepth 100000 in
set_option maxHeartbeats 4000000 in
theorem cc_X8_init (c : C3) (q : Nat) : Cc 3 m_X8_init c [.ref q] [(q, .inr (8, [.null, .null, .null, .null, .null, .null, .null, .null, .null, .null, .null, .null, .int 0, .int 0]))] 42 6922 (post_X8_init c q) := by
  refine cc_of [some (.ref q)] 0 (by decide) rfl (Nat.le_of_ble_eq_true rfl) (fun ws0 => ?_)
  refine wn_aload_n (i := 0) dX8_init_0 rfl rfl ?_
  refine wn_obj dX8_init_1 (mem_t1 20 rfl rfl) (Nat.le_of_ble_eq_true rfl) (by decide) ?_
  refine wn_aload_n (i := 0) dX8_init_4 rfl rfl ?_
  refine wn_new (ci := 6) (fs := [.null, .int 0]) (N := 2) dX8_init_5 (by decide) rfl ⟨mem_t1 23 rfl rfl, mem_t1 24 rfl rfl, mem_t1 2 rfl rfl⟩ (by decide +kernel) (by decide) (by decide) (fun q1 => ?_)
  refine wn_dup dX8_init_8 ?_
  refine wn_ctor (N := m_X6_init) (As := []) (rest := [.ref q1, .ref q]) (l1 := [(q, .inr (8, [.null, .null, .null, .null, .null, .null, .null, .null, .null, .null, .null, .null, .int 0, .int 0]))]) dX8_init_9 mc_X8_11 mo_X6_init ⟨ic_X6_init, rfl⟩ rfl rfl rfl (cc_X6_init c q1) (by decide) (Nat.le_of_ble_eq_true rfl) (by decide) (by decide) (fun f2 => ?_)
  show Wn _ _ _ _ _ _ _ _ _ _ [(q, .inr (8, [.null, .null, .null, .null, .null, .null, .null, .null, .null, .null, .null, .null, .int 0, .int 0])), (q1, .inr (6, [.ref (f2 0), .int 0])), ((f2 0), .inl (c.2.1, 900, .inl (fun _ => 0)))] _ _
  refine wn_put (i := 0) (l' := [(q, .inr (8, [.ref q1, .null, .null, .null, .null, .null, .null, .null, .null, .null, .null, .null, .int 0, .int 0])), (q1, .inr (6, [.ref (f2 0), .int 0])), ((f2 0), .inl (c.2.1, 900, .inl (fun _ => 0)))]) dX8_init_12 (fc_X8_12).1 (fc_X8_12).2 rfl (Or.inr ⟨rfl, rfl⟩) rfl rfl (Nat.le_of_ble_eq_true rfl) rfl ?_
  refine wn_aload_n (i := 0) dX8_init_15 rfl rfl ?_
  refine wn_new (ci := 0) (fs := [.null, .null, .null, .int 0, .int 0, .int 0, .int 0]) (N := 7) dX8_init_16 (by decide) rfl ⟨mem_t1 39 rfl rfl, mem_t1 40 rfl rfl, mem_t1 3 rfl rfl⟩ (by decide +kernel) (by decide) (by decide) (fun q3 => ?_)
  refine wn_dup dX8_init_19 ?_
  refine wn_ctor (N := m_X0_init) (As := []) (rest := [.ref q3, .ref q]) (l1 := [(q, .inr (8, [.ref q1, .null, .null, .null, .null, .null, .null, .null, .null, .null, .null, .null, .int 0, .int 0])), (q1, .inr (6, [.ref (f2 0), .int 0])), ((f2 0), .inl (c.2.1, 900, .inl (fun _ => 0)))]) dX8_init_20 mc_X8_18 mo_X0_init ⟨ic_X0_init, rfl⟩ rfl rfl rfl (cc_X0_init c q3) (by decide) (Nat.le_of_ble_eq_true rfl) (by decide) (by decide) (fun f4 => ?_)
  show Wn _ _ _ _ _ _ _ _ _ _ [(q, .inr (8, [.ref q1, .null, .null, .null, .null, .null, .null, .null, .null, .null, .null, .null, .int 0, .int 0])), (q1, .inr (6, [.ref (f2 0), .int 0])), ((f2 0), .inl (c.2.1, 900, .inl (fun _ => 0))), (q3, .inr (0, [.ref (f4 0), .ref (f4 1), .ref (f4 2), .int 0, .int 0, .int 0, .int 0])), ((f4 0), .inl (c.1, 24, .inl (fun _ => 0))), ((f4 1), .inl (c.1, 288, .inl (fun _ => 0))), ((f4 2), .inl (c.1, 288, .inl (fun _ => 0)))] _ _
  refine wn_put (i := 0) (l' := [(q, .inr (8, [.ref q1, .ref q3, .null, .null, .null, .null, .null, .null, .null, .null, .null, .null, .int 0, .int 0])), (q1, .inr (6, [.ref (f2 0), .int 0])), ((f2 0), .inl (c.2.1, 900, .inl (fun _ => 0))), (q3, .inr (0, [.ref (f4 0), .ref (f4 1), .ref (f4 2), .int 0, .int 0, .int 0, .int 0])), ((f4 0), .inl (c.1, 24, .inl (fun _ => 0))), ((f4 1), .inl (c.1, 288, .inl (fun _ => 0))), ((f4 2), .inl (c.1, 288, .inl (fun _ => 0)))]) dX8_init_23 (fc_X8_19).1 (fc_X8_19).2 rfl (Or.inr ⟨rfl, rfl⟩) rfl rfl (Nat.le_of_ble_eq_true rfl) rfl ?_
  refine wn_aload_n (i := 0) dX8_init_26 rfl rfl ?_
  refine wn_new (ci := 0) (fs := [.null, .null, .null, .int 0, .int 0, .int 0, .int 0]) (N := 7) dX8_init_27 (by decide) rfl ⟨mem_t1 39 rfl rfl, mem_t1 40 rfl rfl, mem_t1 3 rfl rfl⟩ (by decide +kernel) (by decide) (by decide) (fun q5 => ?_)
  refine wn_dup dX8_init_30 ?_
  refine wn_ctor (N := m_X0_init) (As := []) (rest := [.ref q5, .ref q]) (l1 := [(q, .inr (8, [.ref q1, .ref q3, .null, .null, .null, .null, .null, .null, .null, .null, .null, .null, .int 0, .int 0])), (q1, .inr (6, [.ref (f2 0), .int 0])), ((f2 0), .inl (c.2.1, 900, .inl (fun _ => 0))), (q3, .inr (0, [.ref (f4 0), .ref (f4 1), .ref (f4 2), .int 0, .int 0, .int 0, .int 0])), ((f4 0), .inl (c.1, 24, .inl (fun _ => 0))), ((f4 1), .inl (c.1, 288, .inl (fun _ => 0))), ((f4 2), .inl (c.1, 288, .inl (fun _ => 0)))]) dX8_init_31 mc_X8_18 mo_X0_init ⟨ic_X0_init, rfl⟩ rfl rfl rfl (cc_X0_init c q5) (by decide) (Nat.le_of_ble_eq_true rfl) (by decide) (by decide) (fun f6 => ?_)
  show Wn _ _ _ _ _ _ _ _ _ _ [(q, .inr (8, [.ref q1, .ref q3, .null, .null, .null, .null, .null, .null, .null, .null, .null, .null, .int 0, .int 0])), (q1, .inr (6, [.ref (f2 0), .int 0])), ((f2 0), .inl (c.2.1, 900, .inl (fun _ => 0))), (q3, .inr (0, [.ref (f4 0), .ref (f4 1), .ref (f4 2), .int 0, .int 0, .int 0, .int 0])), ((f4 0), .inl (c.1, 24, .inl (fun _ => 0))), ((f4 1), .inl (c.1, 288, .inl (fun _ => 0))), ((f4 2), .inl (c.1, 288, .inl (fun _ => 0))), (q5, .inr (0, [.ref (f6 0), .ref (f6 1), .ref (f6 2), .int 0, .int 0, .int 0, .int 0])), ((f6 0), .inl (c.1, 24, .inl (fun _ => 0))), ((f6 1), .inl (c.1, 288, .inl (fun _ => 0))), ((f6 2), .inl (c.1, 288, .inl (fun _ => 0)))] _ _
  refine wn_put (i := 0) (l' := [(q, .inr (8, [.ref q1, .ref q3, .ref q5, .null, .null, .null, .null, .null, .null, .null, .null, .null, .int 0, .int 0])), (q1, .inr (6, [.ref (f2 0), .int 0])), ((f2 0), .inl (c.2.1, 900, .inl (fun _ => 0))), (q3, .inr (0, [.ref (f4 0), .ref (f4 1), .ref (f4 2), .int 0, .int 0, .int 0, .int 0])), ((f4 0), .inl (c.1, 24, .inl (fun _ => 0))), ((f4 1), .inl (c.1, 288, .inl (fun _ => 0))), ((f4 2), .inl (c.1, 288, .inl (fun _ => 0))), (q5, .inr (0, [.ref (f6 0), .ref (f6 1), .ref (f6 2), .int 0, .int 0, .int 0, .int 0])), ((f6 0), .inl (c.1, 24, .inl (fun _ => 0))), ((f6 1), .inl (c.1, 288, .inl (fun _ => 0))), ((f6 2), .inl (c.1, 288, .inl (fun _ => 0)))]) dX8_init_34 (fc_X8_23).1 (fc_X8_23).2 rfl (Or.inr ⟨rfl, rfl⟩) rfl rfl (Nat.le_of_ble_eq_true rfl) rfl ?_
  refine wn_aload_n (i := 0) dX8_init_37 rfl rfl ?_
  refine wn_new (ci := 7) (fs := [.null, .null, .int 0, .int 0, .int 0, .int 0, .int 0, .int 0]) (N := 8) dX8_init_38 (by decide) rfl ⟨mem_t1 83 rfl rfl, mem_t1 84 rfl rfl, mem_t1 4 rfl rfl⟩ (by decide +kernel) (by decide) (by decide) (fun q7 => ?_)
  refine wn_dup dX8_init_41 ?_
  refine wn_aload_n (i := 0) dX8_init_42 rfl rfl ?_
  refine wn_get (i := 0) (v := .ref q1) dX8_init_43 (fc_X8_12).1 rfl rfl ?_
  refine wn_aload_n (i := 0) dX8_init_46 rfl rfl ?_
  refine wn_get (i := 0) (v := .ref q5) dX8_init_47 (fc_X8_23).1 rfl rfl ?_
  refine wn_ctor (N := m_X7_init) (As := [.ref q1, .ref q5]) (rest := [.ref q7, .ref q]) (l1 := [(q, .inr (8, [.ref q1, .ref q3, .ref q5, .null, .null, .null, .null, .null, .null, .null, .null, .null, .int 0, .int 0])), (q1, .inr (6, [.ref (f2 0), .int 0])), ((f2 0), .inl (c.2.1, 900, .inl (fun _ => 0))), (q3, .inr (0, [.ref (f4 0), .ref (f4 1), .ref (f4 2), .int 0, .int 0, .int 0, .int 0])), ((f4 0), .inl (c.1, 24, .inl (fun _ => 0))), ((f4 1), .inl (c.1, 288, .inl (fun _ => 0))), ((f4 2), .inl (c.1, 288, .inl (fun _ => 0))), (q5, .inr (0, [.ref (f6 0), .ref (f6 1), .ref (f6 2), .int 0, .int 0, .int 0, .int 0])), ((f6 0), .inl (c.1, 24, .inl (fun _ => 0))), ((f6 1), .inl (c.1, 288, .inl (fun _ => 0))), ((f6 2), .inl (c.1, 288, .inl (fun _ => 0)))]) dX8_init_50 mc_X8_28 mo_X7_init ⟨ic_X7_init, rfl⟩ rfl rfl rfl (cc_X7_init c q7 q1 q5) (by decide) (Nat.le_of_ble_eq_true rfl) (by decide) (by decide) (fun f8 => ?_)
  show Wn _ _ _ _ _ _ _ _ _ _ [(q, .inr (8, [.ref q1, .ref q3, .ref q5, .null, .null, .null, .null, .null, .null, .null, .null, .null, .int 0, .int 0])), (q1, .inr (6, [.ref (f2 0), .int 0])), ((f2 0), .inl (c.2.1, 900, .inl (fun _ => 0))), (q3, .inr (0, [.ref (f4 0), .ref (f4 1), .ref (f4 2), .int 0, .int 0, .int 0, .int 0])), ((f4 0), .inl (c.1, 24, .inl (fun _ => 0))), ((f4 1), .inl (c.1, 288, .inl (fun _ => 0))), ((f4 2), .inl (c.1, 288, .inl (fun _ => 0))), (q5, .inr (0, [.ref (f6 0), .ref (f6 1), .ref (f6 2), .int 0, .int 0, .int 0, .int 0])), ((f6 0), .inl (c.1, 24, .inl (fun _ => 0))), ((f6 1), .inl (c.1, 288, .inl (fun _ => 0))), ((f6 2), .inl (c.1, 288, .inl (fun _ => 0))), (q7, .inr (7, [.ref q1, .ref q5, .int 0, .int 0, .int 0, .int 0, .int 0, .int 0]))] _ _
  refine wn_put (i := 0) (l' := [(q, .inr (8, [.ref q1, .ref q3, .ref q5, .ref q7, .null, .null, .null, .null, .null, .null, .null, .null, .int 0, .int 0])), (q1, .inr (6, [.ref (f2 0), .int 0])), ((f2 0), .inl (c.2.1, 900, .inl (fun _ => 0))), (q3, .inr (0, [.ref (f4 0), .ref (f4 1), .ref (f4 2), .int 0, .int 0, .int 0, .int 0])), ((f4 0), .inl (c.1, 24, .inl (fun _ => 0))), ((f4 1), .inl (c.1, 288, .inl (fun _ => 0))), ((f4 2), .inl (c.1, 288, .inl (fun _ => 0))), (q5, .inr (0, [.ref (f6 0), .ref (f6 1), .ref (f6 2), .int 0, .int 0, .int 0, .int 0])), ((f6 0), .inl (c.1, 24, .inl (fun _ => 0))), ((f6 1), .inl (c.1, 288, .inl (fun _ => 0))), ((f6 2), .inl (c.1, 288, .inl (fun _ => 0))), (q7, .inr (7, [.ref q1, .ref q5, .int 0, .int 0, .int 0, .int 0, .int 0, .int 0]))]) dX8_init_53 (fc_X8_31).1 (fc_X8_31).2 rfl (Or.inr ⟨rfl, rfl⟩) rfl rfl (Nat.le_of_ble_eq_true rfl) rfl ?_
  refine wn_aload_n (i := 0) dX8_init_56 rfl rfl ?_
  refine wn_new (ci := 2) (fs := [.null, .int 0]) (N := 2) dX8_init_57 (by decide) rfl ⟨mem_t1 116 rfl rfl, mem_t1 117 rfl rfl, mem_t1 5 rfl rfl⟩ (by decide +kernel) (by decide) (by decide) (fun q9 => ?_)
  refine wn_dup dX8_init_60 ?_
  refine wn_ctor (N := m_X2_init) (As := []) (rest := [.ref q9, .ref q]) (l1 := [(q, .inr (8, [.ref q1, .ref q3, .ref q5, .ref q7, .null, .null, .null, .null, .null, .null, .null, .null, .int 0, .int 0])), (q1, .inr (6, [.ref (f2 0), .int 0])), ((f2 0), .inl (c.2.1, 900, .inl (fun _ => 0))), (q3, .inr (0, [.ref (f4 0), .ref (f4 1), .ref (f4 2), .int 0, .int 0, .int 0, .int 0])), ((f4 0), .inl (c.1, 24, .inl (fun _ => 0))), ((f4 1), .inl (c.1, 288, .inl (fun _ => 0))), ((f4 2), .inl (c.1, 288, .inl (fun _ => 0))), (q5, .inr (0, [.ref (f6 0), .ref (f6 1), .ref (f6 2), .int 0, .int 0, .int 0, .int 0])), ((f6 0), .inl (c.1, 24, .inl (fun _ => 0))), ((f6 1), .inl (c.1, 288, .inl (fun _ => 0))), ((f6 2), .inl (c.1, 288, .inl (fun _ => 0))), (q7, .inr (7, [.ref q1, .ref q5, .int 0, .int 0, .int 0, .int 0, .int 0, .int 0]))]) dX8_init_61 mc_X8_37 mo_X2_init ⟨ic_X2_init, rfl⟩ rfl rfl rfl (cc_X2_init c q9) (by decide) (Nat.le_of_ble_eq_true rfl) (by decide) (by decide) (fun f10 => ?_)
  show Wn _ _ _ _ _ _ _ _ _ _ [(q, .inr (8, [.ref q1, .ref q3, .ref q5, .ref q7, .null, .null, .null, .null, .null, .null, .null, .null, .int 0, .int 0])), (q1, .inr (6, [.ref (f2 0), .int 0])), ((f2 0), .inl (c.2.1, 900, .inl (fun _ => 0))), (q3, .inr (0, [.ref (f4 0), .ref (f4 1), .ref (f4 2), .int 0, .int 0, .int 0, .int 0])), ((f4 0), .inl (c.1, 24, .inl (fun _ => 0))), ((f4 1), .inl (c.1, 288, .inl (fun _ => 0))), ((f4 2), .inl (c.1, 288, .inl (fun _ => 0))), (q5, .inr (0, [.ref (f6 0), .ref (f6 1), .ref (f6 2), .int 0, .int 0, .int 0, .int 0])), ((f6 0), .inl (c.1, 24, .inl (fun _ => 0))), ((f6 1), .inl (c.1, 288, .inl (fun _ => 0))), ((f6 2), .inl (c.1, 288, .inl (fun _ => 0))), (q7, .inr (7, [.ref q1, .ref q5, .int 0, .int 0, .int 0, .int 0, .int 0, .int 0])), (q9, .inr (2, [.ref (f10 0), .int 0])), ((f10 0), .inl (c.1, 144, .inl (fun _ => -1)))] _ _
  refine wn_put (i := 0) (l' := [(q, .inr (8, [.ref q1, .ref q3, .ref q5, .ref q7, .ref q9, .null, .null, .null, .null, .null, .null, .null, .int 0, .int 0])), (q1, .inr (6, [.ref (f2 0), .int 0])), ((f2 0), .inl (c.2.1, 900, .inl (fun _ => 0))), (q3, .inr (0, [.ref (f4 0), .ref (f4 1), .ref (f4 2), .int 0, .int 0, .int 0, .int 0])), ((f4 0), .inl (c.1, 24, .inl (fun _ => 0))), ((f4 1), .inl (c.1, 288, .inl (fun _ => 0))), ((f4 2), .inl (c.1, 288, .inl (fun _ => 0))), (q5, .inr (0, [.ref (f6 0), .ref (f6 1), .ref (f6 2), .int 0, .int 0, .int 0, .int 0])), ((f6 0), .inl (c.1, 24, .inl (fun _ => 0))), ((f6 1), .inl (c.1, 288, .inl (fun _ => 0))), ((f6 2), .inl (c.1, 288, .inl (fun _ => 0))), (q7, .inr (7, [.ref q1, .ref q5, .int 0, .int 0, .int 0, .int 0, .int 0, .int 0])), (q9, .inr (2, [.ref (f10 0), .int 0])), ((f10 0), .inl (c.1, 144, .inl (fun _ => -1)))]) dX8_init_64 (fc_X8_38).1 (fc_X8_38).2 rfl (Or.inr ⟨rfl, rfl⟩) rfl rfl (Nat.le_of_ble_eq_true rfl) rfl ?_
  refine wn_aload_n (i := 0) dX8_init_67 rfl rfl ?_
  refine wn_new (ci := 2) (fs := [.null, .int 0]) (N := 2) dX8_init_68 (by decide) rfl ⟨mem_t1 116 rfl rfl, mem_t1 117 rfl rfl, mem_t1 5 rfl rfl⟩ (by decide +kernel) (by decide) (by decide) (fun q11 => ?_)
  refine wn_dup dX8_init_71 ?_
  refine wn_ctor (N := m_X2_init) (As := []) (rest := [.ref q11, .ref q]) (l1 := [(q, .inr (8, [.ref q1, .ref q3, .ref q5, .ref q7, .ref q9, .null, .null, .null, .null, .null, .null, .null, .int 0, .int 0])), (q1, .inr (6, [.ref (f2 0), .int 0])), ((f2 0), .inl (c.2.1, 900, .inl (fun _ => 0))), (q3, .inr (0, [.ref (f4 0), .ref (f4 1), .ref (f4 2), .int 0, .int 0, .int 0, .int 0])), ((f4 0), .inl (c.1, 24, .inl (fun _ => 0))), ((f4 1), .inl (c.1, 288, .inl (fun _ => 0))), ((f4 2), .inl (c.1, 288, .inl (fun _ => 0))), (q5, .inr (0, [.ref (f6 0), .ref (f6 1), .ref (f6 2), .int 0, .int 0, .int 0, .int 0])), ((f6 0), .inl (c.1, 24, .inl (fun _ => 0))), ((f6 1), .inl (c.1, 288, .inl (fun _ => 0))), ((f6 2), .inl (c.1, 288, .inl (fun _ => 0))), (q7, .inr (7, [.ref q1, .ref q5, .int 0, .int 0, .int 0, .int 0, .int 0, .int 0])), (q9, .inr (2, [.ref (f10 0), .int 0])), ((f10 0), .inl (c.1, 144, .inl (fun _ => -1)))]) dX8_init_72 mc_X8_37 mo_X2_init ⟨ic_X2_init, rfl⟩ rfl rfl rfl (cc_X2_init c q11) (by decide) (Nat.le_of_ble_eq_true rfl) (by decide) (by decide) (fun f12 => ?_)
  show Wn _ _ _ _ _ _ _ _ _ _ [(q, .inr (8, [.ref q1, .ref q3, .ref q5, .ref q7, .ref q9, .null, .null, .null, .null, .null, .null, .null, .int 0, .int 0])), (q1, .inr (6, [.ref (f2 0), .int 0])), ((f2 0), .inl (c.2.1, 900, .inl (fun _ => 0))), (q3, .inr (0, [.ref (f4 0), .ref (f4 1), .ref (f4 2), .int 0, .int 0, .int 0, .int 0])), ((f4 0), .inl (c.1, 24, .inl (fun _ => 0))), ((f4 1), .inl (c.1, 288, .inl (fun _ => 0))), ((f4 2), .inl (c.1, 288, .inl (fun _ => 0))), (q5, .inr (0, [.ref (f6 0), .ref (f6 1), .ref (f6 2), .int 0, .int 0, .int 0, .int 0])), ((f6 0), .inl (c.1, 24, .inl (fun _ => 0))), ((f6 1), .inl (c.1, 288, .inl (fun _ => 0))), ((f6 2), .inl (c.1, 288, .inl (fun _ => 0))), (q7, .inr (7, [.ref q1, .ref q5, .int 0, .int 0, .int 0, .int 0, .int 0, .int 0])), (q9, .inr (2, [.ref (f10 0), .int 0])), ((f10 0), .inl (c.1, 144, .inl (fun _ => -1))), (q11, .inr (2, [.ref (f12 0), .int 0])), ((f12 0), .inl (c.1, 144, .inl (fun _ => -1)))] _ _
  refine wn_put (i := 0) (l' := [(q, .inr (8, [.ref q1, .ref q3, .ref q5, .ref q7, .ref q9, .ref q11, .null, .null, .null, .null, .null, .null, .int 0, .int 0])), (q1, .inr (6, [.ref (f2 0), .int 0])), ((f2 0), .inl (c.2.1, 900, .inl (fun _ => 0))), (q3, .inr (0, [.ref (f4 0), .ref (f4 1), .ref (f4 2), .int 0, .int 0, .int 0, .int 0])), ((f4 0), .inl (c.1, 24, .inl (fun _ => 0))), ((f4 1), .inl (c.1, 288, .inl (fun _ => 0))), ((f4 2), .inl (c.1, 288, .inl (fun _ => 0))), (q5, .inr (0, [.ref (f6 0), .ref (f6 1), .ref (f6 2), .int 0, .int 0, .int 0, .int 0])), ((f6 0), .inl (c.1, 24, .inl (fun _ => 0))), ((f6 1), .inl (c.1, 288, .inl (fun _ => 0))), ((f6 2), .inl (c.1, 288, .inl (fun _ => 0))), (q7, .inr (7, [.ref q1, .ref q5, .int 0, .int 0, .int 0, .int 0, .int 0, .int 0])), (q9, .inr (2, [.ref (f10 0), .int 0])), ((f10 0), .inl (c.1, 144, .inl (fun _ => -1))), (q11, .inr (2, [.ref (f12 0), .int 0])), ((f12 0), .inl (c.1, 144, .inl (fun _ => -1)))]) dX8_init_75 (fc_X8_42).1 (fc_X8_42).2 rfl (Or.inr ⟨rfl, rfl⟩) rfl rfl (Nat.le_of_ble_eq_true rfl) rfl ?_
  refine wn_aload_n (i := 0) dX8_init_78 rfl rfl ?_
  refine wn_new (ci := 3) (fs := [.null, .null, .null, .null, .null]) (N := 5) dX8_init_79 (by decide) rfl ⟨mem_t1 133 rfl rfl, mem_t1 134 rfl rfl, mem_t1 7 rfl rfl⟩ (by decide +kernel) (by decide) (by decide) (fun q13 => ?_)
  refine wn_dup dX8_init_82 ?_
  refine wn_aload_n (i := 0) dX8_init_83 rfl rfl ?_
  refine wn_get (i := 0) (v := .ref q3) dX8_init_84 (fc_X8_19).1 rfl rfl ?_
  refine wn_ctor (N := m_X3_init) (As := [.ref q3]) (rest := [.ref q13, .ref q]) (l1 := [(q, .inr (8, [.ref q1, .ref q3, .ref q5, .ref q7, .ref q9, .ref q11, .null, .null, .null, .null, .null, .null, .int 0, .int 0])), (q1, .inr (6, [.ref (f2 0), .int 0])), ((f2 0), .inl (c.2.1, 900, .inl (fun _ => 0))), (q3, .inr (0, [.ref (f4 0), .ref (f4 1), .ref (f4 2), .int 0, .int 0, .int 0, .int 0])), ((f4 0), .inl (c.1, 24, .inl (fun _ => 0))), ((f4 1), .inl (c.1, 288, .inl (fun _ => 0))), ((f4 2), .inl (c.1, 288, .inl (fun _ => 0))), (q5, .inr (0, [.ref (f6 0), .ref (f6 1), .ref (f6 2), .int 0, .int 0, .int 0, .int 0])), ((f6 0), .inl (c.1, 24, .inl (fun _ => 0))), ((f6 1), .inl (c.1, 288, .inl (fun _ => 0))), ((f6 2), .inl (c.1, 288, .inl (fun _ => 0))), (q7, .inr (7, [.ref q1, .ref q5, .int 0, .int 0, .int 0, .int 0, .int 0, .int 0])), (q9, .inr (2, [.ref (f10 0), .int 0])), ((f10 0), .inl (c.1, 144, .inl (fun _ => -1))), (q11, .inr (2, [.ref (f12 0), .int 0])), ((f12 0), .inl (c.1, 144, .inl (fun _ => -1)))]) dX8_init_87 mc_X8_47 mo_X3_init ⟨ic_X3_init, rfl⟩ rfl rfl rfl (cc_X3_init c q13 q3) (by decide) (Nat.le_of_ble_eq_true rfl) (by decide) (by decide) (fun f14 => ?_)
  show Wn _ _ _ _ _ _ _ _ _ _ [(q, .inr (8, [.ref q1, .ref q3, .ref q5, .ref q7, .ref q9, .ref q11, .null, .null, .null, .null, .null, .null, .int 0, .int 0])), (q1, .inr (6, [.ref (f2 0), .int 0])), ((f2 0), .inl (c.2.1, 900, .inl (fun _ => 0))), (q3, .inr (0, [.ref (f4 0), .ref (f4 1), .ref (f4 2), .int 0, .int 0, .int 0, .int 0])), ((f4 0), .inl (c.1, 24, .inl (fun _ => 0))), ((f4 1), .inl (c.1, 288, .inl (fun _ => 0))), ((f4 2), .inl (c.1, 288, .inl (fun _ => 0))), (q5, .inr (0, [.ref (f6 0), .ref (f6 1), .ref (f6 2), .int 0, .int 0, .int 0, .int 0])), ((f6 0), .inl (c.1, 24, .inl (fun _ => 0))), ((f6 1), .inl (c.1, 288, .inl (fun _ => 0))), ((f6 2), .inl (c.1, 288, .inl (fun _ => 0))), (q7, .inr (7, [.ref q1, .ref q5, .int 0, .int 0, .int 0, .int 0, .int 0, .int 0])), (q9, .inr (2, [.ref (f10 0), .int 0])), ((f10 0), .inl (c.1, 144, .inl (fun _ => -1))), (q11, .inr (2, [.ref (f12 0), .int 0])), ((f12 0), .inl (c.1, 144, .inl (fun _ => -1))), (q13, .inr (3, [.ref q3, .ref (f14 0), .ref (f14 1), .ref (f14 2), .ref (f14 3)])), ((f14 0), .inl (c.1, 13, .inl (fun _ => 0))), ((f14 1), .inl (c.1, 12, .inl (fun _ => 0))), ((f14 2), .inl (c.2.2, 13, .inr (.inl (fun _ => 0)))), ((f14 3), .inl (c.2.2, 13, .inr (.inl (fun _ => 0))))] _ _
  refine wn_put (i := 0) (l' := [(q, .inr (8, [.ref q1, .ref q3, .ref q5, .ref q7, .ref q9, .ref q11, .ref q13, .null, .null, .null, .null, .null, .int 0, .int 0])), (q1, .inr (6, [.ref (f2 0), .int 0])), ((f2 0), .inl (c.2.1, 900, .inl (fun _ => 0))), (q3, .inr (0, [.ref (f4 0), .ref (f4 1), .ref (f4 2), .int 0, .int 0, .int 0, .int 0])), ((f4 0), .inl (c.1, 24, .inl (fun _ => 0))), ((f4 1), .inl (c.1, 288, .inl (fun _ => 0))), ((f4 2), .inl (c.1, 288, .inl (fun _ => 0))), (q5, .inr (0, [.ref (f6 0), .ref (f6 1), .ref (f6 2), .int 0, .int 0, .int 0, .int 0])), ((f6 0), .inl (c.1, 24, .inl (fun _ => 0))), ((f6 1), .inl (c.1, 288, .inl (fun _ => 0))), ((f6 2), .inl (c.1, 288, .inl (fun _ => 0))), (q7, .inr (7, [.ref q1, .ref q5, .int 0, .int 0, .int 0, .int 0, .int 0, .int 0])), (q9, .inr (2, [.ref (f10 0), .int 0])), ((f10 0), .inl (c.1, 144, .inl (fun _ => -1))), (q11, .inr (2, [.ref (f12 0), .int 0])), ((f12 0), .inl (c.1, 144, .inl (fun _ => -1))), (q13, .inr (3, [.ref q3, .ref (f14 0), .ref (f14 1), .ref (f14 2), .ref (f14 3)])), ((f14 0), .inl (c.1, 13, .inl (fun _ => 0))), ((f14 1), .inl (c.1, 12, .inl (fun _ => 0))), ((f14 2), .inl (c.2.2, 13, .inr (.inl (fun _ => 0)))), ((f14 3), .inl (c.2.2, 13, .inr (.inl (fun _ => 0))))]) dX8_init_90 (fc_X8_50).1 (fc_X8_50).2 rfl (Or.inr ⟨rfl, rfl⟩) rfl rfl (Nat.le_of_ble_eq_true rfl) rfl ?_
  refine wn_aload_n (i := 0) dX8_init_93 rfl rfl ?_
  refine wn_new (ci := 5) (fs := [.null, .null, .null, .null, .null, .null, .null, .int 0]) (N := 8) dX8_init_94 (by decide) rfl ⟨mem_t1 156 rfl rfl, mem_t1 157 rfl rfl, mem_t1 8 rfl rfl⟩ (by decide +kernel) (by decide) (by decide) (fun q15 => ?_)
  refine wn_dup dX8_init_97 ?_
  refine wn_aload_n (i := 0) dX8_init_98 rfl rfl ?_
  refine wn_get (i := 0) (v := .ref q3) dX8_init_99 (fc_X8_19).1 rfl rfl ?_
  refine wn_aload_n (i := 0) dX8_init_102 rfl rfl ?_
  refine wn_get (i := 0) (v := .ref q13) dX8_init_103 (fc_X8_50).1 rfl rfl ?_
  refine wn_ctor (N := m_X5_init) (As := [.ref q3, .ref q13]) (rest := [.ref q15, .ref q]) (l1 := [(q, .inr (8, [.ref q1, .ref q3, .ref q5, .ref q7, .ref q9, .ref q11, .ref q13, .null, .null, .null, .null, .null, .int 0, .int 0])), (q1, .inr (6, [.ref (f2 0), .int 0])), ((f2 0), .inl (c.2.1, 900, .inl (fun _ => 0))), (q3, .inr (0, [.ref (f4 0), .ref (f4 1), .ref (f4 2), .int 0, .int 0, .int 0, .int 0])), ((f4 0), .inl (c.1, 24, .inl (fun _ => 0))), ((f4 1), .inl (c.1, 288, .inl (fun _ => 0))), ((f4 2), .inl (c.1, 288, .inl (fun _ => 0))), (q5, .inr (0, [.ref (f6 0), .ref (f6 1), .ref (f6 2), .int 0, .int 0, .int 0, .int 0])), ((f6 0), .inl (c.1, 24, .inl (fun _ => 0))), ((f6 1), .inl (c.1, 288, .inl (fun _ => 0))), ((f6 2), .inl (c.1, 288, .inl (fun _ => 0))), (q7, .inr (7, [.ref q1, .ref q5, .int 0, .int 0, .int 0, .int 0, .int 0, .int 0])), (q9, .inr (2, [.ref (f10 0), .int 0])), ((f10 0), .inl (c.1, 144, .inl (fun _ => -1))), (q11, .inr (2, [.ref (f12 0), .int 0])), ((f12 0), .inl (c.1, 144, .inl (fun _ => -1))), (q13, .inr (3, [.ref q3, .ref (f14 0), .ref (f14 1), .ref (f14 2), .ref (f14 3)])), ((f14 0), .inl (c.1, 13, .inl (fun _ => 0))), ((f14 1), .inl (c.1, 12, .inl (fun _ => 0))), ((f14 2), .inl (c.2.2, 13, .inr (.inl (fun _ => 0)))), ((f14 3), .inl (c.2.2, 13, .inr (.inl (fun _ => 0))))]) dX8_init_106 mc_X8_56 mo_X5_init ⟨ic_X5_init, rfl⟩ rfl rfl rfl (cc_X5_init c q15 q3 q13) (by decide) (Nat.le_of_ble_eq_true rfl) (by decide) (by decide) (fun f16 => ?_)
  show Wn _ _ _ _ _ _ _ _ _ _ [(q, .inr (8, [.ref q1, .ref q3, .ref q5, .ref q7, .ref q9, .ref q11, .ref q13, .null, .null, .null, .null, .null, .int 0, .int 0])), (q1, .inr (6, [.ref (f2 0), .int 0])), ((f2 0), .inl (c.2.1, 900, .inl (fun _ => 0))), (q3, .inr (0, [.ref (f4 0), .ref (f4 1), .ref (f4 2), .int 0, .int 0, .int 0, .int 0])), ((f4 0), .inl (c.1, 24, .inl (fun _ => 0))), ((f4 1), .inl (c.1, 288, .inl (fun _ => 0))), ((f4 2), .inl (c.1, 288, .inl (fun _ => 0))), (q5, .inr (0, [.ref (f6 0), .ref (f6 1), .ref (f6 2), .int 0, .int 0, .int 0, .int 0])), ((f6 0), .inl (c.1, 24, .inl (fun _ => 0))), ((f6 1), .inl (c.1, 288, .inl (fun _ => 0))), ((f6 2), .inl (c.1, 288, .inl (fun _ => 0))), (q7, .inr (7, [.ref q1, .ref q5, .int 0, .int 0, .int 0, .int 0, .int 0, .int 0])), (q9, .inr (2, [.ref (f10 0), .int 0])), ((f10 0), .inl (c.1, 144, .inl (fun _ => -1))), (q11, .inr (2, [.ref (f12 0), .int 0])), ((f12 0), .inl (c.1, 144, .inl (fun _ => -1))), (q13, .inr (3, [.ref q3, .ref (f14 0), .ref (f14 1), .ref (f14 2), .ref (f14 3)])), ((f14 0), .inl (c.1, 13, .inl (fun _ => 0))), ((f14 1), .inl (c.1, 12, .inl (fun _ => 0))), ((f14 2), .inl (c.2.2, 13, .inr (.inl (fun _ => 0)))), ((f14 3), .inl (c.2.2, 13, .inr (.inl (fun _ => 0)))), (q15, .inr (5, [.ref q3, .ref q13, .ref (f16 3), .ref (f16 5), .ref (f16 0), .ref (f16 1), .ref (f16 2), .int 0])), ((f16 0), .inl (c.2.2, 3456, .inr (.inl (fun _ => 0)))), ((f16 1), .inl (c.1, 144, .inl (fun _ => 0))), ((f16 2), .inl (c.1, 144, .inl (fun _ => 0))), ((f16 3), .inr (4, [.ref q3, .ref (f16 4)])), ((f16 4), .inl (c.2.2, 24, .inr (.inl (fun _ => 0)))), ((f16 5), .inr (4, [.ref q3, .ref (f16 6)])), ((f16 6), .inl (c.2.2, 24, .inr (.inl (fun _ => 0))))] _ _
  refine wn_put (i := 0) (l' := [(q, .inr (8, [.ref q1, .ref q3, .ref q5, .ref q7, .ref q9, .ref q11, .ref q13, .ref q15, .null, .null, .null, .null, .int 0, .int 0])), (q1, .inr (6, [.ref (f2 0), .int 0])), ((f2 0), .inl (c.2.1, 900, .inl (fun _ => 0))), (q3, .inr (0, [.ref (f4 0), .ref (f4 1), .ref (f4 2), .int 0, .int 0, .int 0, .int 0])), ((f4 0), .inl (c.1, 24, .inl (fun _ => 0))), ((f4 1), .inl (c.1, 288, .inl (fun _ => 0))), ((f4 2), .inl (c.1, 288, .inl (fun _ => 0))), (q5, .inr (0, [.ref (f6 0), .ref (f6 1), .ref (f6 2), .int 0, .int 0, .int 0, .int 0])), ((f6 0), .inl (c.1, 24, .inl (fun _ => 0))), ((f6 1), .inl (c.1, 288, .inl (fun _ => 0))), ((f6 2), .inl (c.1, 288, .inl (fun _ => 0))), (q7, .inr (7, [.ref q1, .ref q5, .int 0, .int 0, .int 0, .int 0, .int 0, .int 0])), (q9, .inr (2, [.ref (f10 0), .int 0])), ((f10 0), .inl (c.1, 144, .inl (fun _ => -1))), (q11, .inr (2, [.ref (f12 0), .int 0])), ((f12 0), .inl (c.1, 144, .inl (fun _ => -1))), (q13, .inr (3, [.ref q3, .ref (f14 0), .ref (f14 1), .ref (f14 2), .ref (f14 3)])), ((f14 0), .inl (c.1, 13, .inl (fun _ => 0))), ((f14 1), .inl (c.1, 12, .inl (fun _ => 0))), ((f14 2), .inl (c.2.2, 13, .inr (.inl (fun _ => 0)))), ((f14 3), .inl (c.2.2, 13, .inr (.inl (fun _ => 0)))), (q15, .inr (5, [.ref q3, .ref q13, .ref (f16 3), .ref (f16 5), .ref (f16 0), .ref (f16 1), .ref (f16 2), .int 0])), ((f16 0), .inl (c.2.2, 3456, .inr (.inl (fun _ => 0)))), ((f16 1), .inl (c.1, 144, .inl (fun _ => 0))), ((f16 2), .inl (c.1, 144, .inl (fun _ => 0))), ((f16 3), .inr (4, [.ref q3, .ref (f16 4)])), ((f16 4), .inl (c.2.2, 24, .inr (.inl (fun _ => 0)))), ((f16 5), .inr (4, [.ref q3, .ref (f16 6)])), ((f16 6), .inl (c.2.2, 24, .inr (.inl (fun _ => 0))))]) dX8_init_109 (fc_X8_59).1 (fc_X8_59).2 rfl (Or.inr ⟨rfl, rfl⟩) rfl rfl (Nat.le_of_ble_eq_true rfl) rfl ?_
  refine wn_aload_n (i := 0) dX8_init_112 rfl rfl ?_
  refine wn_new (ci := 4) (fs := [.null, .null]) (N := 2) dX8_init_113 (by decide) rfl ⟨mem_t1 203 rfl rfl, mem_t1 163 rfl rfl, mem_t1 9 rfl rfl⟩ (by decide +kernel) (by decide) (by decide) (fun q17 => ?_)
  refine wn_dup dX8_init_116 ?_
  refine wn_aload_n (i := 0) dX8_init_117 rfl rfl ?_
  refine wn_get (i := 0) (v := .ref q3) dX8_init_118 (fc_X8_19).1 rfl rfl ?_
  refine wn_ctor (N := m_X4_init) (As := [.ref q3]) (rest := [.ref q17, .ref q]) (l1 := [(q, .inr (8, [.ref q1, .ref q3, .ref q5, .ref q7, .ref q9, .ref q11, .ref q13, .ref q15, .null, .null, .null, .null, .int 0, .int 0])), (q1, .inr (6, [.ref (f2 0), .int 0])), ((f2 0), .inl (c.2.1, 900, .inl (fun _ => 0))), (q3, .inr (0, [.ref (f4 0), .ref (f4 1), .ref (f4 2), .int 0, .int 0, .int 0, .int 0])), ((f4 0), .inl (c.1, 24, .inl (fun _ => 0))), ((f4 1), .inl (c.1, 288, .inl (fun _ => 0))), ((f4 2), .inl (c.1, 288, .inl (fun _ => 0))), (q5, .inr (0, [.ref (f6 0), .ref (f6 1), .ref (f6 2), .int 0, .int 0, .int 0, .int 0])), ((f6 0), .inl (c.1, 24, .inl (fun _ => 0))), ((f6 1), .inl (c.1, 288, .inl (fun _ => 0))), ((f6 2), .inl (c.1, 288, .inl (fun _ => 0))), (q7, .inr (7, [.ref q1, .ref q5, .int 0, .int 0, .int 0, .int 0, .int 0, .int 0])), (q9, .inr (2, [.ref (f10 0), .int 0])), ((f10 0), .inl (c.1, 144, .inl (fun _ => -1))), (q11, .inr (2, [.ref (f12 0), .int 0])), ((f12 0), .inl (c.1, 144, .inl (fun _ => -1))), (q13, .inr (3, [.ref q3, .ref (f14 0), .ref (f14 1), .ref (f14 2), .ref (f14 3)])), ((f14 0), .inl (c.1, 13, .inl (fun _ => 0))), ((f14 1), .inl (c.1, 12, .inl (fun _ => 0))), ((f14 2), .inl (c.2.2, 13, .inr (.inl (fun _ => 0)))), ((f14 3), .inl (c.2.2, 13, .inr (.inl (fun _ => 0)))), (q15, .inr (5, [.ref q3, .ref q13, .ref (f16 3), .ref (f16 5), .ref (f16 0), .ref (f16 1), .ref (f16 2), .int 0])), ((f16 0), .inl (c.2.2, 3456, .inr (.inl (fun _ => 0)))), ((f16 1), .inl (c.1, 144, .inl (fun _ => 0))), ((f16 2), .inl (c.1, 144, .inl (fun _ => 0))), ((f16 3), .inr (4, [.ref q3, .ref (f16 4)])), ((f16 4), .inl (c.2.2, 24, .inr (.inl (fun _ => 0)))), ((f16 5), .inr (4, [.ref q3, .ref (f16 6)])), ((f16 6), .inl (c.2.2, 24, .inr (.inl (fun _ => 0))))]) dX8_init_121 mc_X8_65 mo_X4_init ⟨ic_X4_init, rfl⟩ rfl rfl rfl (cc_X4_init c q17 q3) (by decide) (Nat.le_of_ble_eq_true rfl) (by decide) (by decide) (fun f18 => ?_)
  show Wn _ _ _ _ _ _ _ _ _ _ [(q, .inr (8, [.ref q1, .ref q3, .ref q5, .ref q7, .ref q9, .ref q11, .ref q13, .ref q15, .null, .null, .null, .null, .int 0, .int 0])), (q1, .inr (6, [.ref (f2 0), .int 0])), ((f2 0), .inl (c.2.1, 900, .inl (fun _ => 0))), (q3, .inr (0, [.ref (f4 0), .ref (f4 1), .ref (f4 2), .int 0, .int 0, .int 0, .int 0])), ((f4 0), .inl (c.1, 24, .inl (fun _ => 0))), ((f4 1), .inl (c.1, 288, .inl (fun _ => 0))), ((f4 2), .inl (c.1, 288, .inl (fun _ => 0))), (q5, .inr (0, [.ref (f6 0), .ref (f6 1), .ref (f6 2), .int 0, .int 0, .int 0, .int 0])), ((f6 0), .inl (c.1, 24, .inl (fun _ => 0))), ((f6 1), .inl (c.1, 288, .inl (fun _ => 0))), ((f6 2), .inl (c.1, 288, .inl (fun _ => 0))), (q7, .inr (7, [.ref q1, .ref q5, .int 0, .int 0, .int 0, .int 0, .int 0, .int 0])), (q9, .inr (2, [.ref (f10 0), .int 0])), ((f10 0), .inl (c.1, 144, .inl (fun _ => -1))), (q11, .inr (2, [.ref (f12 0), .int 0])), ((f12 0), .inl (c.1, 144, .inl (fun _ => -1))), (q13, .inr (3, [.ref q3, .ref (f14 0), .ref (f14 1), .ref (f14 2), .ref (f14 3)])), ((f14 0), .inl (c.1, 13, .inl (fun _ => 0))), ((f14 1), .inl (c.1, 12, .inl (fun _ => 0))), ((f14 2), .inl (c.2.2, 13, .inr (.inl (fun _ => 0)))), ((f14 3), .inl (c.2.2, 13, .inr (.inl (fun _ => 0)))), (q15, .inr (5, [.ref q3, .ref q13, .ref (f16 3), .ref (f16 5), .ref (f16 0), .ref (f16 1), .ref (f16 2), .int 0])), ((f16 0), .inl (c.2.2, 3456, .inr (.inl (fun _ => 0)))), ((f16 1), .inl (c.1, 144, .inl (fun _ => 0))), ((f16 2), .inl (c.1, 144, .inl (fun _ => 0))), ((f16 3), .inr (4, [.ref q3, .ref (f16 4)])), ((f16 4), .inl (c.2.2, 24, .inr (.inl (fun _ => 0)))), ((f16 5), .inr (4, [.ref q3, .ref (f16 6)])), ((f16 6), .inl (c.2.2, 24, .inr (.inl (fun _ => 0)))), (q17, .inr (4, [.ref q3, .ref (f18 0)])), ((f18 0), .inl (c.2.2, 24, .inr (.inl (fun _ => 0))))] _ _
  refine wn_put (i := 0) (l' := [(q, .inr (8, [.ref q1, .ref q3, .ref q5, .ref q7, .ref q9, .ref q11, .ref q13, .ref q15, .ref q17, .null, .null, .null, .int 0, .int 0])), (q1, .inr (6, [.ref (f2 0), .int 0])), ((f2 0), .inl (c.2.1, 900, .inl (fun _ => 0))), (q3, .inr (0, [.ref (f4 0), .ref (f4 1), .ref (f4 2), .int 0, .int 0, .int 0, .int 0])), ((f4 0), .inl (c.1, 24, .inl (fun _ => 0))), ((f4 1), .inl (c.1, 288, .inl (fun _ => 0))), ((f4 2), .inl (c.1, 288, .inl (fun _ => 0))), (q5, .inr (0, [.ref (f6 0), .ref (f6 1), .ref (f6 2), .int 0, .int 0, .int 0, .int 0])), ((f6 0), .inl (c.1, 24, .inl (fun _ => 0))), ((f6 1), .inl (c.1, 288, .inl (fun _ => 0))), ((f6 2), .inl (c.1, 288, .inl (fun _ => 0))), (q7, .inr (7, [.ref q1, .ref q5, .int 0, .int 0, .int 0, .int 0, .int 0, .int 0])), (q9, .inr (2, [.ref (f10 0), .int 0])), ((f10 0), .inl (c.1, 144, .inl (fun _ => -1))), (q11, .inr (2, [.ref (f12 0), .int 0])), ((f12 0), .inl (c.1, 144, .inl (fun _ => -1))), (q13, .inr (3, [.ref q3, .ref (f14 0), .ref (f14 1), .ref (f14 2), .ref (f14 3)])), ((f14 0), .inl (c.1, 13, .inl (fun _ => 0))), ((f14 1), .inl (c.1, 12, .inl (fun _ => 0))), ((f14 2), .inl (c.2.2, 13, .inr (.inl (fun _ => 0)))), ((f14 3), .inl (c.2.2, 13, .inr (.inl (fun _ => 0)))), (q15, .inr (5, [.ref q3, .ref q13, .ref (f16 3), .ref (f16 5), .ref (f16 0), .ref (f16 1), .ref (f16 2), .int 0])), ((f16 0), .inl (c.2.2, 3456, .inr (.inl (fun _ => 0)))), ((f16 1), .inl (c.1, 144, .inl (fun _ => 0))), ((f16 2), .inl (c.1, 144, .inl (fun _ => 0))), ((f16 3), .inr (4, [.ref q3, .ref (f16 4)])), ((f16 4), .inl (c.2.2, 24, .inr (.inl (fun _ => 0)))), ((f16 5), .inr (4, [.ref q3, .ref (f16 6)])), ((f16 6), .inl (c.2.2, 24, .inr (.inl (fun _ => 0)))), (q17, .inr (4, [.ref q3, .ref (f18 0)])), ((f18 0), .inl (c.2.2, 24, .inr (.inl (fun _ => 0))))]) dX8_init_124 (fc_X8_66).1 (fc_X8_66).2 rfl (Or.inr ⟨rfl, rfl⟩) rfl rfl (Nat.le_of_ble_eq_true rfl) rfl ?_
  refine wn_aload_n (i := 0) dX8_init_127 rfl rfl ?_
  refine wn_new (ci := 4) (fs := [.null, .null]) (N := 2) dX8_init_128 (by decide) rfl ⟨mem_t1 203 rfl rfl, mem_t1 163 rfl rfl, mem_t1 9 rfl rfl⟩ (by decide +kernel) (by decide) (by decide) (fun q19 => ?_)
  refine wn_dup dX8_init_131 ?_
  refine wn_aload_n (i := 0) dX8_init_132 rfl rfl ?_
  refine wn_get (i := 0) (v := .ref q3) dX8_init_133 (fc_X8_19).1 rfl rfl ?_
  refine wn_ctor (N := m_X4_init) (As := [.ref q3]) (rest := [.ref q19, .ref q]) (l1 := [(q, .inr (8, [.ref q1, .ref q3, .ref q5, .ref q7, .ref q9, .ref q11, .ref q13, .ref q15, .ref q17, .null, .null, .null, .int 0, .int 0])), (q1, .inr (6, [.ref (f2 0), .int 0])), ((f2 0), .inl (c.2.1, 900, .inl (fun _ => 0))), (q3, .inr (0, [.ref (f4 0), .ref (f4 1), .ref (f4 2), .int 0, .int 0, .int 0, .int 0])), ((f4 0), .inl (c.1, 24, .inl (fun _ => 0))), ((f4 1), .inl (c.1, 288, .inl (fun _ => 0))), ((f4 2), .inl (c.1, 288, .inl (fun _ => 0))), (q5, .inr (0, [.ref (f6 0), .ref (f6 1), .ref (f6 2), .int 0, .int 0, .int 0, .int 0])), ((f6 0), .inl (c.1, 24, .inl (fun _ => 0))), ((f6 1), .inl (c.1, 288, .inl (fun _ => 0))), ((f6 2), .inl (c.1, 288, .inl (fun _ => 0))), (q7, .inr (7, [.ref q1, .ref q5, .int 0, .int 0, .int 0, .int 0, .int 0, .int 0])), (q9, .inr (2, [.ref (f10 0), .int 0])), ((f10 0), .inl (c.1, 144, .inl (fun _ => -1))), (q11, .inr (2, [.ref (f12 0), .int 0])), ((f12 0), .inl (c.1, 144, .inl (fun _ => -1))), (q13, .inr (3, [.ref q3, .ref (f14 0), .ref (f14 1), .ref (f14 2), .ref (f14 3)])), ((f14 0), .inl (c.1, 13, .inl (fun _ => 0))), ((f14 1), .inl (c.1, 12, .inl (fun _ => 0))), ((f14 2), .inl (c.2.2, 13, .inr (.inl (fun _ => 0)))), ((f14 3), .inl (c.2.2, 13, .inr (.inl (fun _ => 0)))), (q15, .inr (5, [.ref q3, .ref q13, .ref (f16 3), .ref (f16 5), .ref (f16 0), .ref (f16 1), .ref (f16 2), .int 0])), ((f16 0), .inl (c.2.2, 3456, .inr (.inl (fun _ => 0)))), ((f16 1), .inl (c.1, 144, .inl (fun _ => 0))), ((f16 2), .inl (c.1, 144, .inl (fun _ => 0))), ((f16 3), .inr (4, [.ref q3, .ref (f16 4)])), ((f16 4), .inl (c.2.2, 24, .inr (.inl (fun _ => 0)))), ((f16 5), .inr (4, [.ref q3, .ref (f16 6)])), ((f16 6), .inl (c.2.2, 24, .inr (.inl (fun _ => 0)))), (q17, .inr (4, [.ref q3, .ref (f18 0)])), ((f18 0), .inl (c.2.2, 24, .inr (.inl (fun _ => 0))))]) dX8_init_136 mc_X8_65 mo_X4_init ⟨ic_X4_init, rfl⟩ rfl rfl rfl (cc_X4_init c q19 q3) (by decide) (Nat.le_of_ble_eq_true rfl) (by decide) (by decide) (fun f20 => ?_)
  show Wn _ _ _ _ _ _ _ _ _ _ [(q, .inr (8, [.ref q1, .ref q3, .ref q5, .ref q7, .ref q9, .ref q11, .ref q13, .ref q15, .ref q17, .null, .null, .null, .int 0, .int 0])), (q1, .inr (6, [.ref (f2 0), .int 0])), ((f2 0), .inl (c.2.1, 900, .inl (fun _ => 0))), (q3, .inr (0, [.ref (f4 0), .ref (f4 1), .ref (f4 2), .int 0, .int 0, .int 0, .int 0])), ((f4 0), .inl (c.1, 24, .inl (fun _ => 0))), ((f4 1), .inl (c.1, 288, .inl (fun _ => 0))), ((f4 2), .inl (c.1, 288, .inl (fun _ => 0))), (q5, .inr (0, [.ref (f6 0), .ref (f6 1), .ref (f6 2), .int 0, .int 0, .int 0, .int 0])), ((f6 0), .inl (c.1, 24, .inl (fun _ => 0))), ((f6 1), .inl (c.1, 288, .inl (fun _ => 0))), ((f6 2), .inl (c.1, 288, .inl (fun _ => 0))), (q7, .inr (7, [.ref q1, .ref q5, .int 0, .int 0, .int 0, .int 0, .int 0, .int 0])), (q9, .inr (2, [.ref (f10 0), .int 0])), ((f10 0), .inl (c.1, 144, .inl (fun _ => -1))), (q11, .inr (2, [.ref (f12 0), .int 0])), ((f12 0), .inl (c.1, 144, .inl (fun _ => -1))), (q13, .inr (3, [.ref q3, .ref (f14 0), .ref (f14 1), .ref (f14 2), .ref (f14 3)])), ((f14 0), .inl (c.1, 13, .inl (fun _ => 0))), ((f14 1), .inl (c.1, 12, .inl (fun _ => 0))), ((f14 2), .inl (c.2.2, 13, .inr (.inl (fun _ => 0)))), ((f14 3), .inl (c.2.2, 13, .inr (.inl (fun _ => 0)))), (q15, .inr (5, [.ref q3, .ref q13, .ref (f16 3), .ref (f16 5), .ref (f16 0), .ref (f16 1), .ref (f16 2), .int 0])), ((f16 0), .inl (c.2.2, 3456, .inr (.inl (fun _ => 0)))), ((f16 1), .inl (c.1, 144, .inl (fun _ => 0))), ((f16 2), .inl (c.1, 144, .inl (fun _ => 0))), ((f16 3), .inr (4, [.ref q3, .ref (f16 4)])), ((f16 4), .inl (c.2.2, 24, .inr (.inl (fun _ => 0)))), ((f16 5), .inr (4, [.ref q3, .ref (f16 6)])), ((f16 6), .inl (c.2.2, 24, .inr (.inl (fun _ => 0)))), (q17, .inr (4, [.ref q3, .ref (f18 0)])), ((f18 0), .inl (c.2.2, 24, .inr (.inl (fun _ => 0)))), (q19, .inr (4, [.ref q3, .ref (f20 0)])), ((f20 0), .inl (c.2.2, 24, .inr (.inl (fun _ => 0))))] _ _
  refine wn_put (i := 0) (l' := [(q, .inr (8, [.ref q1, .ref q3, .ref q5, .ref q7, .ref q9, .ref q11, .ref q13, .ref q15, .ref q17, .ref q19, .null, .null, .int 0, .int 0])), (q1, .inr (6, [.ref (f2 0), .int 0])), ((f2 0), .inl (c.2.1, 900, .inl (fun _ => 0))), (q3, .inr (0, [.ref (f4 0), .ref (f4 1), .ref (f4 2), .int 0, .int 0, .int 0, .int 0])), ((f4 0), .inl (c.1, 24, .inl (fun _ => 0))), ((f4 1), .inl (c.1, 288, .inl (fun _ => 0))), ((f4 2), .inl (c.1, 288, .inl (fun _ => 0))), (q5, .inr (0, [.ref (f6 0), .ref (f6 1), .ref (f6 2), .int 0, .int 0, .int 0, .int 0])), ((f6 0), .inl (c.1, 24, .inl (fun _ => 0))), ((f6 1), .inl (c.1, 288, .inl (fun _ => 0))), ((f6 2), .inl (c.1, 288, .inl (fun _ => 0))), (q7, .inr (7, [.ref q1, .ref q5, .int 0, .int 0, .int 0, .int 0, .int 0, .int 0])), (q9, .inr (2, [.ref (f10 0), .int 0])), ((f10 0), .inl (c.1, 144, .inl (fun _ => -1))), (q11, .inr (2, [.ref (f12 0), .int 0])), ((f12 0), .inl (c.1, 144, .inl (fun _ => -1))), (q13, .inr (3, [.ref q3, .ref (f14 0), .ref (f14 1), .ref (f14 2), .ref (f14 3)])), ((f14 0), .inl (c.1, 13, .inl (fun _ => 0))), ((f14 1), .inl (c.1, 12, .inl (fun _ => 0))), ((f14 2), .inl (c.2.2, 13, .inr (.inl (fun _ => 0)))), ((f14 3), .inl (c.2.2, 13, .inr (.inl (fun _ => 0)))), (q15, .inr (5, [.ref q3, .ref q13, .ref (f16 3), .ref (f16 5), .ref (f16 0), .ref (f16 1), .ref (f16 2), .int 0])), ((f16 0), .inl (c.2.2, 3456, .inr (.inl (fun _ => 0)))), ((f16 1), .inl (c.1, 144, .inl (fun _ => 0))), ((f16 2), .inl (c.1, 144, .inl (fun _ => 0))), ((f16 3), .inr (4, [.ref q3, .ref (f16 4)])), ((f16 4), .inl (c.2.2, 24, .inr (.inl (fun _ => 0)))), ((f16 5), .inr (4, [.ref q3, .ref (f16 6)])), ((f16 6), .inl (c.2.2, 24, .inr (.inl (fun _ => 0)))), (q17, .inr (4, [.ref q3, .ref (f18 0)])), ((f18 0), .inl (c.2.2, 24, .inr (.inl (fun _ => 0)))), (q19, .inr (4, [.ref q3, .ref (f20 0)])), ((f20 0), .inl (c.2.2, 24, .inr (.inl (fun _ => 0))))]) dX8_init_139 (fc_X8_70).1 (fc_X8_70).2 rfl (Or.inr ⟨rfl, rfl⟩) rfl rfl (Nat.le_of_ble_eq_true rfl) rfl ?_
  refine wn_aload_n (i := 0) dX8_init_142 rfl rfl ?_
  refine wn_new (ci := 1) (fs := [.null, .null, .int 0, .int 0, .int 0]) (N := 5) dX8_init_143 (by decide) rfl ⟨mem_t1 205 rfl rfl, mem_t1 206 rfl rfl, mem_t1 10 rfl rfl⟩ (by decide +kernel) (by decide) (by decide) (fun q21 => ?_)
  refine wn_dup dX8_init_146 ?_
  refine wn_ctor (N := m_X1_init) (As := []) (rest := [.ref q21, .ref q]) (l1 := [(q, .inr (8, [.ref q1, .ref q3, .ref q5, .ref q7, .ref q9, .ref q11, .ref q13, .ref q15, .ref q17, .ref q19, .null, .null, .int 0, .int 0])), (q1, .inr (6, [.ref (f2 0), .int 0])), ((f2 0), .inl (c.2.1, 900, .inl (fun _ => 0))), (q3, .inr (0, [.ref (f4 0), .ref (f4 1), .ref (f4 2), .int 0, .int 0, .int 0, .int 0])), ((f4 0), .inl (c.1, 24, .inl (fun _ => 0))), ((f4 1), .inl (c.1, 288, .inl (fun _ => 0))), ((f4 2), .inl (c.1, 288, .inl (fun _ => 0))), (q5, .inr (0, [.ref (f6 0), .ref (f6 1), .ref (f6 2), .int 0, .int 0, .int 0, .int 0])), ((f6 0), .inl (c.1, 24, .inl (fun _ => 0))), ((f6 1), .inl (c.1, 288, .inl (fun _ => 0))), ((f6 2), .inl (c.1, 288, .inl (fun _ => 0))), (q7, .inr (7, [.ref q1, .ref q5, .int 0, .int 0, .int 0, .int 0, .int 0, .int 0])), (q9, .inr (2, [.ref (f10 0), .int 0])), ((f10 0), .inl (c.1, 144, .inl (fun _ => -1))), (q11, .inr (2, [.ref (f12 0), .int 0])), ((f12 0), .inl (c.1, 144, .inl (fun _ => -1))), (q13, .inr (3, [.ref q3, .ref (f14 0), .ref (f14 1), .ref (f14 2), .ref (f14 3)])), ((f14 0), .inl (c.1, 13, .inl (fun _ => 0))), ((f14 1), .inl (c.1, 12, .inl (fun _ => 0))), ((f14 2), .inl (c.2.2, 13, .inr (.inl (fun _ => 0)))), ((f14 3), .inl (c.2.2, 13, .inr (.inl (fun _ => 0)))), (q15, .inr (5, [.ref q3, .ref q13, .ref (f16 3), .ref (f16 5), .ref (f16 0), .ref (f16 1), .ref (f16 2), .int 0])), ((f16 0), .inl (c.2.2, 3456, .inr (.inl (fun _ => 0)))), ((f16 1), .inl (c.1, 144, .inl (fun _ => 0))), ((f16 2), .inl (c.1, 144, .inl (fun _ => 0))), ((f16 3), .inr (4, [.ref q3, .ref (f16 4)])), ((f16 4), .inl (c.2.2, 24, .inr (.inl (fun _ => 0)))), ((f16 5), .inr (4, [.ref q3, .ref (f16 6)])), ((f16 6), .inl (c.2.2, 24, .inr (.inl (fun _ => 0)))), (q17, .inr (4, [.ref q3, .ref (f18 0)])), ((f18 0), .inl (c.2.2, 24, .inr (.inl (fun _ => 0)))), (q19, .inr (4, [.ref q3, .ref (f20 0)])), ((f20 0), .inl (c.2.2, 24, .inr (.inl (fun _ => 0))))]) dX8_init_147 mc_X8_75 mo_X1_init ⟨ic_X1_init, rfl⟩ rfl rfl rfl (cc_X1_init c q21) (by decide) (Nat.le_of_ble_eq_true rfl) (by decide) (by decide) (fun f22 => ?_)
  show Wn _ _ _ _ _ _ _ _ _ _ [(q, .inr (8, [.ref q1, .ref q3, .ref q5, .ref q7, .ref q9, .ref q11, .ref q13, .ref q15, .ref q17, .ref q19, .null, .null, .int 0, .int 0])), (q1, .inr (6, [.ref (f2 0), .int 0])), ((f2 0), .inl (c.2.1, 900, .inl (fun _ => 0))), (q3, .inr (0, [.ref (f4 0), .ref (f4 1), .ref (f4 2), .int 0, .int 0, .int 0, .int 0])), ((f4 0), .inl (c.1, 24, .inl (fun _ => 0))), ((f4 1), .inl (c.1, 288, .inl (fun _ => 0))), ((f4 2), .inl (c.1, 288, .inl (fun _ => 0))), (q5, .inr (0, [.ref (f6 0), .ref (f6 1), .ref (f6 2), .int 0, .int 0, .int 0, .int 0])), ((f6 0), .inl (c.1, 24, .inl (fun _ => 0))), ((f6 1), .inl (c.1, 288, .inl (fun _ => 0))), ((f6 2), .inl (c.1, 288, .inl (fun _ => 0))), (q7, .inr (7, [.ref q1, .ref q5, .int 0, .int 0, .int 0, .int 0, .int 0, .int 0])), (q9, .inr (2, [.ref (f10 0), .int 0])), ((f10 0), .inl (c.1, 144, .inl (fun _ => -1))), (q11, .inr (2, [.ref (f12 0), .int 0])), ((f12 0), .inl (c.1, 144, .inl (fun _ => -1))), (q13, .inr (3, [.ref q3, .ref (f14 0), .ref (f14 1), .ref (f14 2), .ref (f14 3)])), ((f14 0), .inl (c.1, 13, .inl (fun _ => 0))), ((f14 1), .inl (c.1, 12, .inl (fun _ => 0))), ((f14 2), .inl (c.2.2, 13, .inr (.inl (fun _ => 0)))), ((f14 3), .inl (c.2.2, 13, .inr (.inl (fun _ => 0)))), (q15, .inr (5, [.ref q3, .ref q13, .ref (f16 3), .ref (f16 5), .ref (f16 0), .ref (f16 1), .ref (f16 2), .int 0])), ((f16 0), .inl (c.2.2, 3456, .inr (.inl (fun _ => 0)))), ((f16 1), .inl (c.1, 144, .inl (fun _ => 0))), ((f16 2), .inl (c.1, 144, .inl (fun _ => 0))), ((f16 3), .inr (4, [.ref q3, .ref (f16 4)])), ((f16 4), .inl (c.2.2, 24, .inr (.inl (fun _ => 0)))), ((f16 5), .inr (4, [.ref q3, .ref (f16 6)])), ((f16 6), .inl (c.2.2, 24, .inr (.inl (fun _ => 0)))), (q17, .inr (4, [.ref q3, .ref (f18 0)])), ((f18 0), .inl (c.2.2, 24, .inr (.inl (fun _ => 0)))), (q19, .inr (4, [.ref q3, .ref (f20 0)])), ((f20 0), .inl (c.2.2, 24, .inr (.inl (fun _ => 0)))), (q21, .inr (1, [.ref (f22 0), .ref (f22 2), .int 0, .int (-1), .int 0])), ((f22 0), .inr (2, [.ref (f22 1), .int 0])), ((f22 1), .inl (c.1, 144, .inl (fun _ => -1))), ((f22 2), .inr (2, [.ref (f22 3), .int 0])), ((f22 3), .inl (c.1, 144, .inl (fun _ => -1)))] _ _
  refine wn_put (i := 0) (l' := [(q, .inr (8, [.ref q1, .ref q3, .ref q5, .ref q7, .ref q9, .ref q11, .ref q13, .ref q15, .ref q17, .ref q19, .ref q21, .null, .int 0, .int 0])), (q1, .inr (6, [.ref (f2 0), .int 0])), ((f2 0), .inl (c.2.1, 900, .inl (fun _ => 0))), (q3, .inr (0, [.ref (f4 0), .ref (f4 1), .ref (f4 2), .int 0, .int 0, .int 0, .int 0])), ((f4 0), .inl (c.1, 24, .inl (fun _ => 0))), ((f4 1), .inl (c.1, 288, .inl (fun _ => 0))), ((f4 2), .inl (c.1, 288, .inl (fun _ => 0))), (q5, .inr (0, [.ref (f6 0), .ref (f6 1), .ref (f6 2), .int 0, .int 0, .int 0, .int 0])), ((f6 0), .inl (c.1, 24, .inl (fun _ => 0))), ((f6 1), .inl (c.1, 288, .inl (fun _ => 0))), ((f6 2), .inl (c.1, 288, .inl (fun _ => 0))), (q7, .inr (7, [.ref q1, .ref q5, .int 0, .int 0, .int 0, .int 0, .int 0, .int 0])), (q9, .inr (2, [.ref (f10 0), .int 0])), ((f10 0), .inl (c.1, 144, .inl (fun _ => -1))), (q11, .inr (2, [.ref (f12 0), .int 0])), ((f12 0), .inl (c.1, 144, .inl (fun _ => -1))), (q13, .inr (3, [.ref q3, .ref (f14 0), .ref (f14 1), .ref (f14 2), .ref (f14 3)])), ((f14 0), .inl (c.1, 13, .inl (fun _ => 0))), ((f14 1), .inl (c.1, 12, .inl (fun _ => 0))), ((f14 2), .inl (c.2.2, 13, .inr (.inl (fun _ => 0)))), ((f14 3), .inl (c.2.2, 13, .inr (.inl (fun _ => 0)))), (q15, .inr (5, [.ref q3, .ref q13, .ref (f16 3), .ref (f16 5), .ref (f16 0), .ref (f16 1), .ref (f16 2), .int 0])), ((f16 0), .inl (c.2.2, 3456, .inr (.inl (fun _ => 0)))), ((f16 1), .inl (c.1, 144, .inl (fun _ => 0))), ((f16 2), .inl (c.1, 144, .inl (fun _ => 0))), ((f16 3), .inr (4, [.ref q3, .ref (f16 4)])), ((f16 4), .inl (c.2.2, 24, .inr (.inl (fun _ => 0)))), ((f16 5), .inr (4, [.ref q3, .ref (f16 6)])), ((f16 6), .inl (c.2.2, 24, .inr (.inl (fun _ => 0)))), (q17, .inr (4, [.ref q3, .ref (f18 0)])), ((f18 0), .inl (c.2.2, 24, .inr (.inl (fun _ => 0)))), (q19, .inr (4, [.ref q3, .ref (f20 0)])), ((f20 0), .inl (c.2.2, 24, .inr (.inl (fun _ => 0)))), (q21, .inr (1, [.ref (f22 0), .ref (f22 2), .int 0, .int (-1), .int 0])), ((f22 0), .inr (2, [.ref (f22 1), .int 0])), ((f22 1), .inl (c.1, 144, .inl (fun _ => -1))), ((f22 2), .inr (2, [.ref (f22 3), .int 0])), ((f22 3), .inl (c.1, 144, .inl (fun _ => -1)))]) dX8_init_150 (fc_X8_76).1 (fc_X8_76).2 rfl (Or.inr ⟨rfl, rfl⟩) rfl rfl (Nat.le_of_ble_eq_true rfl) rfl ?_
  refine wn_aload_n (i := 0) dX8_init_153 rfl rfl ?_
  refine wn_new (ci := 1) (fs := [.null, .null, .int 0, .int 0, .int 0]) (N := 5) dX8_init_154 (by decide) rfl ⟨mem_t1 205 rfl rfl, mem_t1 206 rfl rfl, mem_t1 10 rfl rfl⟩ (by decide +kernel) (by decide) (by decide) (fun q23 => ?_)
  refine wn_dup dX8_init_157 ?_
  refine wn_ctor (N := m_X1_init) (As := []) (rest := [.ref q23, .ref q]) (l1 := [(q, .inr (8, [.ref q1, .ref q3, .ref q5, .ref q7, .ref q9, .ref q11, .ref q13, .ref q15, .ref q17, .ref q19, .ref q21, .null, .int 0, .int 0])), (q1, .inr (6, [.ref (f2 0), .int 0])), ((f2 0), .inl (c.2.1, 900, .inl (fun _ => 0))), (q3, .inr (0, [.ref (f4 0), .ref (f4 1), .ref (f4 2), .int 0, .int 0, .int 0, .int 0])), ((f4 0), .inl (c.1, 24, .inl (fun _ => 0))), ((f4 1), .inl (c.1, 288, .inl (fun _ => 0))), ((f4 2), .inl (c.1, 288, .inl (fun _ => 0))), (q5, .inr (0, [.ref (f6 0), .ref (f6 1), .ref (f6 2), .int 0, .int 0, .int 0, .int 0])), ((f6 0), .inl (c.1, 24, .inl (fun _ => 0))), ((f6 1), .inl (c.1, 288, .inl (fun _ => 0))), ((f6 2), .inl (c.1, 288, .inl (fun _ => 0))), (q7, .inr (7, [.ref q1, .ref q5, .int 0, .int 0, .int 0, .int 0, .int 0, .int 0])), (q9, .inr (2, [.ref (f10 0), .int 0])), ((f10 0), .inl (c.1, 144, .inl (fun _ => -1))), (q11, .inr (2, [.ref (f12 0), .int 0])), ((f12 0), .inl (c.1, 144, .inl (fun _ => -1))), (q13, .inr (3, [.ref q3, .ref (f14 0), .ref (f14 1), .ref (f14 2), .ref (f14 3)])), ((f14 0), .inl (c.1, 13, .inl (fun _ => 0))), ((f14 1), .inl (c.1, 12, .inl (fun _ => 0))), ((f14 2), .inl (c.2.2, 13, .inr (.inl (fun _ => 0)))), ((f14 3), .inl (c.2.2, 13, .inr (.inl (fun _ => 0)))), (q15, .inr (5, [.ref q3, .ref q13, .ref (f16 3), .ref (f16 5), .ref (f16 0), .ref (f16 1), .ref (f16 2), .int 0])), ((f16 0), .inl (c.2.2, 3456, .inr (.inl (fun _ => 0)))), ((f16 1), .inl (c.1, 144, .inl (fun _ => 0))), ((f16 2), .inl (c.1, 144, .inl (fun _ => 0))), ((f16 3), .inr (4, [.ref q3, .ref (f16 4)])), ((f16 4), .inl (c.2.2, 24, .inr (.inl (fun _ => 0)))), ((f16 5), .inr (4, [.ref q3, .ref (f16 6)])), ((f16 6), .inl (c.2.2, 24, .inr (.inl (fun _ => 0)))), (q17, .inr (4, [.ref q3, .ref (f18 0)])), ((f18 0), .inl (c.2.2, 24, .inr (.inl (fun _ => 0)))), (q19, .inr (4, [.ref q3, .ref (f20 0)])), ((f20 0), .inl (c.2.2, 24, .inr (.inl (fun _ => 0)))), (q21, .inr (1, [.ref (f22 0), .ref (f22 2), .int 0, .int (-1), .int 0])), ((f22 0), .inr (2, [.ref (f22 1), .int 0])), ((f22 1), .inl (c.1, 144, .inl (fun _ => -1))), ((f22 2), .inr (2, [.ref (f22 3), .int 0])), ((f22 3), .inl (c.1, 144, .inl (fun _ => -1)))]) dX8_init_158 mc_X8_75 mo_X1_init ⟨ic_X1_init, rfl⟩ rfl rfl rfl (cc_X1_init c q23) (by decide) (Nat.le_of_ble_eq_true rfl) (by decide) (by decide) (fun f24 => ?_)
  show Wn _ _ _ _ _ _ _ _ _ _ [(q, .inr (8, [.ref q1, .ref q3, .ref q5, .ref q7, .ref q9, .ref q11, .ref q13, .ref q15, .ref q17, .ref q19, .ref q21, .null, .int 0, .int 0])), (q1, .inr (6, [.ref (f2 0), .int 0])), ((f2 0), .inl (c.2.1, 900, .inl (fun _ => 0))), (q3, .inr (0, [.ref (f4 0), .ref (f4 1), .ref (f4 2), .int 0, .int 0, .int 0, .int 0])), ((f4 0), .inl (c.1, 24, .inl (fun _ => 0))), ((f4 1), .inl (c.1, 288, .inl (fun _ => 0))), ((f4 2), .inl (c.1, 288, .inl (fun _ => 0))), (q5, .inr (0, [.ref (f6 0), .ref (f6 1), .ref (f6 2), .int 0, .int 0, .int 0, .int 0])), ((f6 0), .inl (c.1, 24, .inl (fun _ => 0))), ((f6 1), .inl (c.1, 288, .inl (fun _ => 0))), ((f6 2), .inl (c.1, 288, .inl (fun _ => 0))), (q7, .inr (7, [.ref q1, .ref q5, .int 0, .int 0, .int 0, .int 0, .int 0, .int 0])), (q9, .inr (2, [.ref (f10 0), .int 0])), ((f10 0), .inl (c.1, 144, .inl (fun _ => -1))), (q11, .inr (2, [.ref (f12 0), .int 0])), ((f12 0), .inl (c.1, 144, .inl (fun _ => -1))), (q13, .inr (3, [.ref q3, .ref (f14 0), .ref (f14 1), .ref (f14 2), .ref (f14 3)])), ((f14 0), .inl (c.1, 13, .inl (fun _ => 0))), ((f14 1), .inl (c.1, 12, .inl (fun _ => 0))), ((f14 2), .inl (c.2.2, 13, .inr (.inl (fun _ => 0)))), ((f14 3), .inl (c.2.2, 13, .inr (.inl (fun _ => 0)))), (q15, .inr (5, [.ref q3, .ref q13, .ref (f16 3), .ref (f16 5), .ref (f16 0), .ref (f16 1), .ref (f16 2), .int 0])), ((f16 0), .inl (c.2.2, 3456, .inr (.inl (fun _ => 0)))), ((f16 1), .inl (c.1, 144, .inl (fun _ => 0))), ((f16 2), .inl (c.1, 144, .inl (fun _ => 0))), ((f16 3), .inr (4, [.ref q3, .ref (f16 4)])), ((f16 4), .inl (c.2.2, 24, .inr (.inl (fun _ => 0)))), ((f16 5), .inr (4, [.ref q3, .ref (f16 6)])), ((f16 6), .inl (c.2.2, 24, .inr (.inl (fun _ => 0)))), (q17, .inr (4, [.ref q3, .ref (f18 0)])), ((f18 0), .inl (c.2.2, 24, .inr (.inl (fun _ => 0)))), (q19, .inr (4, [.ref q3, .ref (f20 0)])), ((f20 0), .inl (c.2.2, 24, .inr (.inl (fun _ => 0)))), (q21, .inr (1, [.ref (f22 0), .ref (f22 2), .int 0, .int (-1), .int 0])), ((f22 0), .inr (2, [.ref (f22 1), .int 0])), ((f22 1), .inl (c.1, 144, .inl (fun _ => -1))), ((f22 2), .inr (2, [.ref (f22 3), .int 0])), ((f22 3), .inl (c.1, 144, .inl (fun _ => -1))), (q23, .inr (1, [.ref (f24 0), .ref (f24 2), .int 0, .int (-1), .int 0])), ((f24 0), .inr (2, [.ref (f24 1), .int 0])), ((f24 1), .inl (c.1, 144, .inl (fun _ => -1))), ((f24 2), .inr (2, [.ref (f24 3), .int 0])), ((f24 3), .inl (c.1, 144, .inl (fun _ => -1)))] _ _
  refine wn_put (i := 0) (l' := [(q, .inr (8, [.ref q1, .ref q3, .ref q5, .ref q7, .ref q9, .ref q11, .ref q13, .ref q15, .ref q17, .ref q19, .ref q21, .ref q23, .int 0, .int 0])), (q1, .inr (6, [.ref (f2 0), .int 0])), ((f2 0), .inl (c.2.1, 900, .inl (fun _ => 0))), (q3, .inr (0, [.ref (f4 0), .ref (f4 1), .ref (f4 2), .int 0, .int 0, .int 0, .int 0])), ((f4 0), .inl (c.1, 24, .inl (fun _ => 0))), ((f4 1), .inl (c.1, 288, .inl (fun _ => 0))), ((f4 2), .inl (c.1, 288, .inl (fun _ => 0))), (q5, .inr (0, [.ref (f6 0), .ref (f6 1), .ref (f6 2), .int 0, .int 0, .int 0, .int 0])), ((f6 0), .inl (c.1, 24, .inl (fun _ => 0))), ((f6 1), .inl (c.1, 288, .inl (fun _ => 0))), ((f6 2), .inl (c.1, 288, .inl (fun _ => 0))), (q7, .inr (7, [.ref q1, .ref q5, .int 0, .int 0, .int 0, .int 0, .int 0, .int 0])), (q9, .inr (2, [.ref (f10 0), .int 0])), ((f10 0), .inl (c.1, 144, .inl (fun _ => -1))), (q11, .inr (2, [.ref (f12 0), .int 0])), ((f12 0), .inl (c.1, 144, .inl (fun _ => -1))), (q13, .inr (3, [.ref q3, .ref (f14 0), .ref (f14 1), .ref (f14 2), .ref (f14 3)])), ((f14 0), .inl (c.1, 13, .inl (fun _ => 0))), ((f14 1), .inl (c.1, 12, .inl (fun _ => 0))), ((f14 2), .inl (c.2.2, 13, .inr (.inl (fun _ => 0)))), ((f14 3), .inl (c.2.2, 13, .inr (.inl (fun _ => 0)))), (q15, .inr (5, [.ref q3, .ref q13, .ref (f16 3), .ref (f16 5), .ref (f16 0), .ref (f16 1), .ref (f16 2), .int 0])), ((f16 0), .inl (c.2.2, 3456, .inr (.inl (fun _ => 0)))), ((f16 1), .inl (c.1, 144, .inl (fun _ => 0))), ((f16 2), .inl (c.1, 144, .inl (fun _ => 0))), ((f16 3), .inr (4, [.ref q3, .ref (f16 4)])), ((f16 4), .inl (c.2.2, 24, .inr (.inl (fun _ => 0)))), ((f16 5), .inr (4, [.ref q3, .ref (f16 6)])), ((f16 6), .inl (c.2.2, 24, .inr (.inl (fun _ => 0)))), (q17, .inr (4, [.ref q3, .ref (f18 0)])), ((f18 0), .inl (c.2.2, 24, .inr (.inl (fun _ => 0)))), (q19, .inr (4, [.ref q3, .ref (f20 0)])), ((f20 0), .inl (c.2.2, 24, .inr (.inl (fun _ => 0)))), (q21, .inr (1, [.ref (f22 0), .ref (f22 2), .int 0, .int (-1), .int 0])), ((f22 0), .inr (2, [.ref (f22 1), .int 0])), ((f22 1), .inl (c.1, 144, .inl (fun _ => -1))), ((f22 2), .inr (2, [.ref (f22 3), .int 0])), ((f22 3), .inl (c.1, 144, .inl (fun _ => -1))), (q23, .inr (1, [.ref (f24 0), .ref (f24 2), .int 0, .int (-1), .int 0])), ((f24 0), .inr (2, [.ref (f24 1), .int 0])), ((f24 1), .inl (c.1, 144, .inl (fun _ => -1))), ((f24 2), .inr (2, [.ref (f24 3), .int 0])), ((f24 3), .inl (c.1, 144, .inl (fun _ => -1)))]) dX8_init_161 (fc_X8_80).1 (fc_X8_80).2 rfl (Or.inr ⟨rfl, rfl⟩) rfl rfl (Nat.le_of_ble_eq_true rfl) rfl ?_
  refine wn_aload_n (i := 0) dX8_init_164 rfl rfl ?_
  refine wn_iconst (v := 0) dX8_init_165 (by decide +kernel) ?_
  refine wn_put (i := 0) (l' := [(q, .inr (8, [.ref q1, .ref q3, .ref q5, .ref q7, .ref q9, .ref q11, .ref q13, .ref q15, .ref q17, .ref q19, .ref q21, .ref q23, .int 0, .int 0])), (q1, .inr (6, [.ref (f2 0), .int 0])), ((f2 0), .inl (c.2.1, 900, .inl (fun _ => 0))), (q3, .inr (0, [.ref (f4 0), .ref (f4 1), .ref (f4 2), .int 0, .int 0, .int 0, .int 0])), ((f4 0), .inl (c.1, 24, .inl (fun _ => 0))), ((f4 1), .inl (c.1, 288, .inl (fun _ => 0))), ((f4 2), .inl (c.1, 288, .inl (fun _ => 0))), (q5, .inr (0, [.ref (f6 0), .ref (f6 1), .ref (f6 2), .int 0, .int 0, .int 0, .int 0])), ((f6 0), .inl (c.1, 24, .inl (fun _ => 0))), ((f6 1), .inl (c.1, 288, .inl (fun _ => 0))), ((f6 2), .inl (c.1, 288, .inl (fun _ => 0))), (q7, .inr (7, [.ref q1, .ref q5, .int 0, .int 0, .int 0, .int 0, .int 0, .int 0])), (q9, .inr (2, [.ref (f10 0), .int 0])), ((f10 0), .inl (c.1, 144, .inl (fun _ => -1))), (q11, .inr (2, [.ref (f12 0), .int 0])), ((f12 0), .inl (c.1, 144, .inl (fun _ => -1))), (q13, .inr (3, [.ref q3, .ref (f14 0), .ref (f14 1), .ref (f14 2), .ref (f14 3)])), ((f14 0), .inl (c.1, 13, .inl (fun _ => 0))), ((f14 1), .inl (c.1, 12, .inl (fun _ => 0))), ((f14 2), .inl (c.2.2, 13, .inr (.inl (fun _ => 0)))), ((f14 3), .inl (c.2.2, 13, .inr (.inl (fun _ => 0)))), (q15, .inr (5, [.ref q3, .ref q13, .ref (f16 3), .ref (f16 5), .ref (f16 0), .ref (f16 1), .ref (f16 2), .int 0])), ((f16 0), .inl (c.2.2, 3456, .inr (.inl (fun _ => 0)))), ((f16 1), .inl (c.1, 144, .inl (fun _ => 0))), ((f16 2), .inl (c.1, 144, .inl (fun _ => 0))), ((f16 3), .inr (4, [.ref q3, .ref (f16 4)])), ((f16 4), .inl (c.2.2, 24, .inr (.inl (fun _ => 0)))), ((f16 5), .inr (4, [.ref q3, .ref (f16 6)])), ((f16 6), .inl (c.2.2, 24, .inr (.inl (fun _ => 0)))), (q17, .inr (4, [.ref q3, .ref (f18 0)])), ((f18 0), .inl (c.2.2, 24, .inr (.inl (fun _ => 0)))), (q19, .inr (4, [.ref q3, .ref (f20 0)])), ((f20 0), .inl (c.2.2, 24, .inr (.inl (fun _ => 0)))), (q21, .inr (1, [.ref (f22 0), .ref (f22 2), .int 0, .int (-1), .int 0])), ((f22 0), .inr (2, [.ref (f22 1), .int 0])), ((f22 1), .inl (c.1, 144, .inl (fun _ => -1))), ((f22 2), .inr (2, [.ref (f22 3), .int 0])), ((f22 3), .inl (c.1, 144, .inl (fun _ => -1))), (q23, .inr (1, [.ref (f24 0), .ref (f24 2), .int 0, .int (-1), .int 0])), ((f24 0), .inr (2, [.ref (f24 1), .int 0])), ((f24 1), .inl (c.1, 144, .inl (fun _ => -1))), ((f24 2), .inr (2, [.ref (f24 3), .int 0])), ((f24 3), .inl (c.1, 144, .inl (fun _ => -1)))]) dX8_init_166 (fc_X8_83).1 (fc_X8_83).2 rfl (Or.inl rfl) rfl rfl (Nat.le_of_ble_eq_true rfl) rfl ?_
  refine wn_aload_n (i := 0) dX8_init_169 rfl rfl ?_
  refine wn_iconst (v := 0) dX8_init_170 (by decide +kernel) ?_
  refine wn_put (i := 0) (l' := [(q, .inr (8, [.ref q1, .ref q3, .ref q5, .ref q7, .ref q9, .ref q11, .ref q13, .ref q15, .ref q17, .ref q19, .ref q21, .ref q23, .int 0, .int 0])), (q1, .inr (6, [.ref (f2 0), .int 0])), ((f2 0), .inl (c.2.1, 900, .inl (fun _ => 0))), (q3, .inr (0, [.ref (f4 0), .ref (f4 1), .ref (f4 2), .int 0, .int 0, .int 0, .int 0])), ((f4 0), .inl (c.1, 24, .inl (fun _ => 0))), ((f4 1), .inl (c.1, 288, .inl (fun _ => 0))), ((f4 2), .inl (c.1, 288, .inl (fun _ => 0))), (q5, .inr (0, [.ref (f6 0), .ref (f6 1), .ref (f6 2), .int 0, .int 0, .int 0, .int 0])), ((f6 0), .inl (c.1, 24, .inl (fun _ => 0))), ((f6 1), .inl (c.1, 288, .inl (fun _ => 0))), ((f6 2), .inl (c.1, 288, .inl (fun _ => 0))), (q7, .inr (7, [.ref q1, .ref q5, .int 0, .int 0, .int 0, .int 0, .int 0, .int 0])), (q9, .inr (2, [.ref (f10 0), .int 0])), ((f10 0), .inl (c.1, 144, .inl (fun _ => -1))), (q11, .inr (2, [.ref (f12 0), .int 0])), ((f12 0), .inl (c.1, 144, .inl (fun _ => -1))), (q13, .inr (3, [.ref q3, .ref (f14 0), .ref (f14 1), .ref (f14 2), .ref (f14 3)])), ((f14 0), .inl (c.1, 13, .inl (fun _ => 0))), ((f14 1), .inl (c.1, 12, .inl (fun _ => 0))), ((f14 2), .inl (c.2.2, 13, .inr (.inl (fun _ => 0)))), ((f14 3), .inl (c.2.2, 13, .inr (.inl (fun _ => 0)))), (q15, .inr (5, [.ref q3, .ref q13, .ref (f16 3), .ref (f16 5), .ref (f16 0), .ref (f16 1), .ref (f16 2), .int 0])), ((f16 0), .inl (c.2.2, 3456, .inr (.inl (fun _ => 0)))), ((f16 1), .inl (c.1, 144, .inl (fun _ => 0))), ((f16 2), .inl (c.1, 144, .inl (fun _ => 0))), ((f16 3), .inr (4, [.ref q3, .ref (f16 4)])), ((f16 4), .inl (c.2.2, 24, .inr (.inl (fun _ => 0)))), ((f16 5), .inr (4, [.ref q3, .ref (f16 6)])), ((f16 6), .inl (c.2.2, 24, .inr (.inl (fun _ => 0)))), (q17, .inr (4, [.ref q3, .ref (f18 0)])), ((f18 0), .inl (c.2.2, 24, .inr (.inl (fun _ => 0)))), (q19, .inr (4, [.ref q3, .ref (f20 0)])), ((f20 0), .inl (c.2.2, 24, .inr (.inl (fun _ => 0)))), (q21, .inr (1, [.ref (f22 0), .ref (f22 2), .int 0, .int (-1), .int 0])), ((f22 0), .inr (2, [.ref (f22 1), .int 0])), ((f22 1), .inl (c.1, 144, .inl (fun _ => -1))), ((f22 2), .inr (2, [.ref (f22 3), .int 0])), ((f22 3), .inl (c.1, 144, .inl (fun _ => -1))), (q23, .inr (1, [.ref (f24 0), .ref (f24 2), .int 0, .int (-1), .int 0])), ((f24 0), .inr (2, [.ref (f24 1), .int 0])), ((f24 1), .inl (c.1, 144, .inl (fun _ => -1))), ((f24 2), .inr (2, [.ref (f24 3), .int 0])), ((f24 3), .inl (c.1, 144, .inl (fun _ => -1)))]) dX8_init_171 (fc_X8_87).1 (fc_X8_87).2 rfl (Or.inl rfl) rfl rfl (Nat.le_of_ble_eq_true rfl) rfl ?_
  exact wn_ret (fun i => [q1, (f2 0), q3, (f4 0), (f4 1), (f4 2), q5, (f6 0), (f6 1), (f6 2), q7, q9, (f10 0), q11, (f12 0), q13, (f14 0), (f14 1), (f14 2), (f14 3), q15, (f16 0), (f16 1), (f16 2), (f16 3), (f16 4), (f16 5), (f16 6), q17, (f18 0), q19, (f20 0), q21, (f22 0), (f22 1), (f22 2), (f22 3), q23, (f24 0), (f24 1), (f24 2), (f24 3)].getD i 0) dX8_init_174 rfl rfl
def post_X9_init (c : C3) (q : Nat) (f : Nat → Nat) : va_W := [(q, .inr (9, [.int 0, .int 0, .int 0, .int 0, .ref (f 0), .ref (f 1), .ref (f 2), .ref (f 3), .ref (f 4), .ref (f 5), .int 0, .int 0, .int (-1), .int 0, .ref (f 6), .ref (f 7), .int 0, .int 0, .int 0, .int 0, .ref (f 8), .ref (f 9), .ref (f 10), .int 0, .int 0, .int 0, .int 0, .int 0, .ref (f 11), .ref (f 12), .ref (f 13), .null, .int 0, .int 0, .ref (f 14), .ref (f 15), .long 0, .int 0, .ref (f 16), .int 0, .ref (f 17), .int 0, .int 0, .int 0, .int 0, .int 0, .ref (f 18), .ref (f 19), .ref (f 20), .ref (f 21)])), ((f 0), .inl (c.1, 24, .inl (fun _ => 0))), ((f 1), .inl (c.1, 288, .inl (fun _ => 0))), ((f 2), .inl (c.1, 288, .inl (fun _ => 0))), ((f 3), .inl (c.1, 144, .inl (fun _ => 0))), ((f 4), .inl (c.1, 144, .inl (fun _ => 0))), ((f 5), .inl (c.1, 144, .inl (fun _ => 0))), ((f 6), .inl (c.1, 288, .inl (fun _ => 0))), ((f 7), .inl (c.1, 900, .inl (fun _ => 0))), ((f 8), .inl (c.1, 901, .inl (fun _ => 0))), ((f 9), .inl (c.1, 901, .inl (fun _ => 0))), ((f 10), .inl (c.1, 901, .inl (fun _ => 0))), ((f 11), .inl (c.1, 24, .inl (fun _ => 0))), ((f 12), .inl (c.1, 288, .inl (fun _ => 0))), ((f 13), .inl (c.1, 288, .inl (fun _ => 0))), ((f 14), .inl (c.1, 12, .inl (fun _ => 0))), ((f 15), .inl (c.1, 12, .inl (fun _ => 0))), ((f 16), .inl (c.1, 144, .inl (fun _ => 0))), ((f 17), .inl (c.1, 21024, .inl (fun _ => 0))), ((f 18), .inl (c.1, 288, .inl (fun _ => 0))), ((f 19), .inl (c.1, 144, .inl (fun _ => 0))), ((f 20), .inl (c.1, 12, .inl (fun _ => 0))), ((f 21), .inl (c.1, 12, .inl (fun _ => 0)))]
set_option maxRecDepth 100000 in
set_option maxHeartbeats 4000000 in
theorem cc_X9_init (c : C3) (q : Nat) : Cc 1 m_X9_init c [.ref q] [(q, .inr (9, [.int 0, .int 0, .int 0, .int 0, .null, .null, .null, .null, .null, .null, .int 0, .int 0, .int 0, .int 0, .null, .null, .int 0, .int 0, .int 0, .int 0, .null, .null, .null, .int 0, .int 0, .int 0, .int 0, .int 0, .null, .null, .null, .null, .int 0, .int 0, .null, .null, .long 0, .int 0, .null, .int 0, .null, .int 0, .int 0, .int 0, .int 0, .int 0, .null, .null, .null, .null]))] 22 27171 (post_X9_init c q) := by
  refine cc_of [some (.ref q)] 0 (by decide) rfl (Nat.le_of_ble_eq_true rfl) (fun ws0 => ?_)
  refine wn_aload_n (i := 0) dX9_init_0 rfl rfl ?_
  refine wn_obj dX9_init_1 (mem_t4 52 rfl rfl) (Nat.le_of_ble_eq_true rfl) (by decide) ?_
  refine wn_aload_n (i := 0) dX9_init_4 rfl rfl ?_
  refine wn_bipush (v := 24) dX9_init_5 (by decide +kernel) ?_
  refine wn_newI (N := 24) dX9_init_7 (by decide +kernel) (by decide +kernel) (by decide) (by decide) (by decide) (fun q1 => ?_)
  refine wn_put (i := 0) (l' := [(q, .inr (9, [.int 0, .int 0, .int 0, .int 0, .ref q1, .null, .null, .null, .null, .null, .int 0, .int 0, .int 0, .int 0, .null, .null, .int 0, .int 0, .int 0, .int 0, .null, .null, .null, .int 0, .int 0, .int 0, .int 0, .int 0, .null, .null, .null, .null, .int 0, .int 0, .null, .null, .long 0, .int 0, .null, .int 0, .null, .int 0, .int 0, .int 0, .int 0, .int 0, .null, .null, .null, .null])), (q1, .inl (c.1, 24, .inl (fun _ => 0)))]) dX9_init_9 (fc_X9_9).1 (fc_X9_9).2 rfl (Or.inr ⟨rfl, rfl⟩) rfl rfl (Nat.le_of_ble_eq_true rfl) rfl ?_
  refine wn_aload_n (i := 0) dX9_init_12 rfl rfl ?_
  refine wn_sipush (v := 288) dX9_init_13 (by decide +kernel) ?_
  refine wn_newI (N := 288) dX9_init_16 (by decide +kernel) (by decide +kernel) (by decide) (by decide) (by decide) (fun q2 => ?_)
  refine wn_put (i := 0) (l' := [(q, .inr (9, [.int 0, .int 0, .int 0, .int 0, .ref q1, .ref q2, .null, .null, .null, .null, .int 0, .int 0, .int 0, .int 0, .null, .null, .int 0, .int 0, .int 0, .int 0, .null, .null, .null, .int 0, .int 0, .int 0, .int 0, .int 0, .null, .null, .null, .null, .int 0, .int 0, .null, .null, .long 0, .int 0, .null, .int 0, .null, .int 0, .int 0, .int 0, .int 0, .int 0, .null, .null, .null, .null])), (q1, .inl (c.1, 24, .inl (fun _ => 0))), (q2, .inl (c.1, 288, .inl (fun _ => 0)))]) dX9_init_18 (fc_X9_13).1 (fc_X9_13).2 rfl (Or.inr ⟨rfl, rfl⟩) rfl rfl (Nat.le_of_ble_eq_true rfl) rfl ?_
  refine wn_aload_n (i := 0) dX9_init_21 rfl rfl ?_
  refine wn_sipush (v := 288) dX9_init_22 (by decide +kernel) ?_
  refine wn_newI (N := 288) dX9_init_25 (by decide +kernel) (by decide +kernel) (by decide) (by decide) (by decide) (fun q3 => ?_)
  refine wn_put (i := 0) (l' := [(q, .inr (9, [.int 0, .int 0, .int 0, .int 0, .ref q1, .ref q2, .ref q3, .null, .null, .null, .int 0, .int 0, .int 0, .int 0, .null, .null, .int 0, .int 0, .int 0, .int 0, .null, .null, .null, .int 0, .int 0, .int 0, .int 0, .int 0, .null, .null, .null, .null, .int 0, .int 0, .null, .null, .long 0, .int 0, .null, .int 0, .null, .int 0, .int 0, .int 0, .int 0, .int 0, .null, .null, .null, .null])), (q1, .inl (c.1, 24, .inl (fun _ => 0))), (q2, .inl (c.1, 288, .inl (fun _ => 0))), (q3, .inl (c.1, 288, .inl (fun _ => 0)))]) dX9_init_27 (fc_X9_16).1 (fc_X9_16).2 rfl (Or.inr ⟨rfl, rfl⟩) rfl rfl (Nat.le_of_ble_eq_true rfl) rfl ?_
  refine wn_aload_n (i := 0) dX9_init_30 rfl rfl ?_
  refine wn_sipush (v := 144) dX9_init_31 (by decide +kernel) ?_
  refine wn_newI (N := 144) dX9_init_34 (by decide +kernel) (by decide +kernel) (by decide) (by decide) (by decide) (fun q4 => ?_)
  refine wn_put (i := 0) (l' := [(q, .inr (9, [.int 0, .int 0, .int 0, .int 0, .ref q1, .ref q2, .ref q3, .ref q4, .null, .null, .int 0, .int 0, .int 0, .int 0, .null, .null, .int 0, .int 0, .int 0, .int 0, .null, .null, .null, .int 0, .int 0, .int 0, .int 0, .int 0, .null, .null, .null, .null, .int 0, .int 0, .null, .null, .long 0, .int 0, .null, .int 0, .null, .int 0, .int 0, .int 0, .int 0, .int 0, .null, .null, .null, .null])), (q1, .inl (c.1, 24, .inl (fun _ => 0))), (q2, .inl (c.1, 288, .inl (fun _ => 0))), (q3, .inl (c.1, 288, .inl (fun _ => 0))), (q4, .inl (c.1, 144, .inl (fun _ => 0)))]) dX9_init_36 (fc_X9_19).1 (fc_X9_19).2 rfl (Or.inr ⟨rfl, rfl⟩) rfl rfl (Nat.le_of_ble_eq_true rfl) rfl ?_
  refine wn_aload_n (i := 0) dX9_init_39 rfl rfl ?_
  refine wn_sipush (v := 144) dX9_init_40 (by decide +kernel) ?_
  refine wn_newI (N := 144) dX9_init_43 (by decide +kernel) (by decide +kernel) (by decide) (by decide) (by decide) (fun q5 => ?_)
  refine wn_put (i := 0) (l' := [(q, .inr (9, [.int 0, .int 0, .int 0, .int 0, .ref q1, .ref q2, .ref q3, .ref q4, .ref q5, .null, .int 0, .int 0, .int 0, .int 0, .null, .null, .int 0, .int 0, .int 0, .int 0, .null, .null, .null, .int 0, .int 0, .int 0, .int 0, .int 0, .null, .null, .null, .null, .int 0, .int 0, .null, .null, .long 0, .int 0, .null, .int 0, .null, .int 0, .int 0, .int 0, .int 0, .int 0, .null, .null, .null, .null])), (q1, .inl (c.1, 24, .inl (fun _ => 0))), (q2, .inl (c.1, 288, .inl (fun _ => 0))), (q3, .inl (c.1, 288, .inl (fun _ => 0))), (q4, .inl (c.1, 144, .inl (fun _ => 0))), (q5, .inl (c.1, 144, .inl (fun _ => 0)))]) dX9_init_45 (fc_X9_22).1 (fc_X9_22).2 rfl (Or.inr ⟨rfl, rfl⟩) rfl rfl (Nat.le_of_ble_eq_true rfl) rfl ?_
  refine wn_aload_n (i := 0) dX9_init_48 rfl rfl ?_
  refine wn_sipush (v := 144) dX9_init_49 (by decide +kernel) ?_
  refine wn_newI (N := 144) dX9_init_52 (by decide +kernel) (by decide +kernel) (by decide) (by decide) (by decide) (fun q6 => ?_)
  refine wn_put (i := 0) (l' := [(q, .inr (9, [.int 0, .int 0, .int 0, .int 0, .ref q1, .ref q2, .ref q3, .ref q4, .ref q5, .ref q6, .int 0, .int 0, .int 0, .int 0, .null, .null, .int 0, .int 0, .int 0, .int 0, .null, .null, .null, .int 0, .int 0, .int 0, .int 0, .int 0, .null, .null, .null, .null, .int 0, .int 0, .null, .null, .long 0, .int 0, .null, .int 0, .null, .int 0, .int 0, .int 0, .int 0, .int 0, .null, .null, .null, .null])), (q1, .inl (c.1, 24, .inl (fun _ => 0))), (q2, .inl (c.1, 288, .inl (fun _ => 0))), (q3, .inl (c.1, 288, .inl (fun _ => 0))), (q4, .inl (c.1, 144, .inl (fun _ => 0))), (q5, .inl (c.1, 144, .inl (fun _ => 0))), (q6, .inl (c.1, 144, .inl (fun _ => 0)))]) dX9_init_54 (fc_X9_25).1 (fc_X9_25).2 rfl (Or.inr ⟨rfl, rfl⟩) rfl rfl (Nat.le_of_ble_eq_true rfl) rfl ?_
  refine wn_aload_n (i := 0) dX9_init_57 rfl rfl ?_
  refine wn_iconst (v := -1) dX9_init_58 (by decide +kernel) ?_
  refine wn_put (i := 0) (l' := [(q, .inr (9, [.int 0, .int 0, .int 0, .int 0, .ref q1, .ref q2, .ref q3, .ref q4, .ref q5, .ref q6, .int 0, .int 0, .int (-1), .int 0, .null, .null, .int 0, .int 0, .int 0, .int 0, .null, .null, .null, .int 0, .int 0, .int 0, .int 0, .int 0, .null, .null, .null, .null, .int 0, .int 0, .null, .null, .long 0, .int 0, .null, .int 0, .null, .int 0, .int 0, .int 0, .int 0, .int 0, .null, .null, .null, .null])), (q1, .inl (c.1, 24, .inl (fun _ => 0))), (q2, .inl (c.1, 288, .inl (fun _ => 0))), (q3, .inl (c.1, 288, .inl (fun _ => 0))), (q4, .inl (c.1, 144, .inl (fun _ => 0))), (q5, .inl (c.1, 144, .inl (fun _ => 0))), (q6, .inl (c.1, 144, .inl (fun _ => 0)))]) dX9_init_59 (fc_X9_28).1 (fc_X9_28).2 rfl (Or.inl rfl) rfl rfl (Nat.le_of_ble_eq_true rfl) rfl ?_
  refine wn_aload_n (i := 0) dX9_init_62 rfl rfl ?_
  refine wn_sipush (v := 288) dX9_init_63 (by decide +kernel) ?_
  refine wn_newI (N := 288) dX9_init_66 (by decide +kernel) (by decide +kernel) (by decide) (by decide) (by decide) (fun q7 => ?_)
  refine wn_put (i := 0) (l' := [(q, .inr (9, [.int 0, .int 0, .int 0, .int 0, .ref q1, .ref q2, .ref q3, .ref q4, .ref q5, .ref q6, .int 0, .int 0, .int (-1), .int 0, .ref q7, .null, .int 0, .int 0, .int 0, .int 0, .null, .null, .null, .int 0, .int 0, .int 0, .int 0, .int 0, .null, .null, .null, .null, .int 0, .int 0, .null, .null, .long 0, .int 0, .null, .int 0, .null, .int 0, .int 0, .int 0, .int 0, .int 0, .null, .null, .null, .null])), (q1, .inl (c.1, 24, .inl (fun _ => 0))), (q2, .inl (c.1, 288, .inl (fun _ => 0))), (q3, .inl (c.1, 288, .inl (fun _ => 0))), (q4, .inl (c.1, 144, .inl (fun _ => 0))), (q5, .inl (c.1, 144, .inl (fun _ => 0))), (q6, .inl (c.1, 144, .inl (fun _ => 0))), (q7, .inl (c.1, 288, .inl (fun _ => 0)))]) dX9_init_68 (fc_X9_32).1 (fc_X9_32).2 rfl (Or.inr ⟨rfl, rfl⟩) rfl rfl (Nat.le_of_ble_eq_true rfl) rfl ?_
  refine wn_aload_n (i := 0) dX9_init_71 rfl rfl ?_
  refine wn_sipush (v := 900) dX9_init_72 (by decide +kernel) ?_
  refine wn_newI (N := 900) dX9_init_75 (by decide +kernel) (by decide +kernel) (by decide) (by decide) (by decide) (fun q8 => ?_)
  refine wn_put (i := 0) (l' := [(q, .inr (9, [.int 0, .int 0, .int 0, .int 0, .ref q1, .ref q2, .ref q3, .ref q4, .ref q5, .ref q6, .int 0, .int 0, .int (-1), .int 0, .ref q7, .ref q8, .int 0, .int 0, .int 0, .int 0, .null, .null, .null, .int 0, .int 0, .int 0, .int 0, .int 0, .null, .null, .null, .null, .int 0, .int 0, .null, .null, .long 0, .int 0, .null, .int 0, .null, .int 0, .int 0, .int 0, .int 0, .int 0, .null, .null, .null, .null])), (q1, .inl (c.1, 24, .inl (fun _ => 0))), (q2, .inl (c.1, 288, .inl (fun _ => 0))), (q3, .inl (c.1, 288, .inl (fun _ => 0))), (q4, .inl (c.1, 144, .inl (fun _ => 0))), (q5, .inl (c.1, 144, .inl (fun _ => 0))), (q6, .inl (c.1, 144, .inl (fun _ => 0))), (q7, .inl (c.1, 288, .inl (fun _ => 0))), (q8, .inl (c.1, 900, .inl (fun _ => 0)))]) dX9_init_77 (fc_X9_35).1 (fc_X9_35).2 rfl (Or.inr ⟨rfl, rfl⟩) rfl rfl (Nat.le_of_ble_eq_true rfl) rfl ?_
  refine wn_aload_n (i := 0) dX9_init_80 rfl rfl ?_
  refine wn_sipush (v := 901) dX9_init_81 (by decide +kernel) ?_
  refine wn_newI (N := 901) dX9_init_84 (by decide +kernel) (by decide +kernel) (by decide) (by decide) (by decide) (fun q9 => ?_)
  refine wn_put (i := 0) (l' := [(q, .inr (9, [.int 0, .int 0, .int 0, .int 0, .ref q1, .ref q2, .ref q3, .ref q4, .ref q5, .ref q6, .int 0, .int 0, .int (-1), .int 0, .ref q7, .ref q8, .int 0, .int 0, .int 0, .int 0, .ref q9, .null, .null, .int 0, .int 0, .int 0, .int 0, .int 0, .null, .null, .null, .null, .int 0, .int 0, .null, .null, .long 0, .int 0, .null, .int 0, .null, .int 0, .int 0, .int 0, .int 0, .int 0, .null, .null, .null, .null])), (q1, .inl (c.1, 24, .inl (fun _ => 0))), (q2, .inl (c.1, 288, .inl (fun _ => 0))), (q3, .inl (c.1, 288, .inl (fun _ => 0))), (q4, .inl (c.1, 144, .inl (fun _ => 0))), (q5, .inl (c.1, 144, .inl (fun _ => 0))), (q6, .inl (c.1, 144, .inl (fun _ => 0))), (q7, .inl (c.1, 288, .inl (fun _ => 0))), (q8, .inl (c.1, 900, .inl (fun _ => 0))), (q9, .inl (c.1, 901, .inl (fun _ => 0)))]) dX9_init_86 (fc_X9_38).1 (fc_X9_38).2 rfl (Or.inr ⟨rfl, rfl⟩) rfl rfl (Nat.le_of_ble_eq_true rfl) rfl ?_
  refine wn_aload_n (i := 0) dX9_init_89 rfl rfl ?_
  refine wn_sipush (v := 901) dX9_init_90 (by decide +kernel) ?_
  refine wn_newI (N := 901) dX9_init_93 (by decide +kernel) (by decide +kernel) (by decide) (by decide) (by decide) (fun q10 => ?_)
  refine wn_put (i := 0) (l' := [(q, .inr (9, [.int 0, .int 0, .int 0, .int 0, .ref q1, .ref q2, .ref q3, .ref q4, .ref q5, .ref q6, .int 0, .int 0, .int (-1), .int 0, .ref q7, .ref q8, .int 0, .int 0, .int 0, .int 0, .ref q9, .ref q10, .null, .int 0, .int 0, .int 0, .int 0, .int 0, .null, .null, .null, .null, .int 0, .int 0, .null, .null, .long 0, .int 0, .null, .int 0, .null, .int 0, .int 0, .int 0, .int 0, .int 0, .null, .null, .null, .null])), (q1, .inl (c.1, 24, .inl (fun _ => 0))), (q2, .inl (c.1, 288, .inl (fun _ => 0))), (q3, .inl (c.1, 288, .inl (fun _ => 0))), (q4, .inl (c.1, 144, .inl (fun _ => 0))), (q5, .inl (c.1, 144, .inl (fun _ => 0))), (q6, .inl (c.1, 144, .inl (fun _ => 0))), (q7, .inl (c.1, 288, .inl (fun _ => 0))), (q8, .inl (c.1, 900, .inl (fun _ => 0))), (q9, .inl (c.1, 901, .inl (fun _ => 0))), (q10, .inl (c.1, 901, .inl (fun _ => 0)))]) dX9_init_95 (fc_X9_41).1 (fc_X9_41).2 rfl (Or.inr ⟨rfl, rfl⟩) rfl rfl (Nat.le_of_ble_eq_true rfl) rfl ?_
  refine wn_aload_n (i := 0) dX9_init_98 rfl rfl ?_
  refine wn_sipush (v := 901) dX9_init_99 (by decide +kernel) ?_
  refine wn_newI (N := 901) dX9_init_102 (by decide +kernel) (by decide +kernel) (by decide) (by decide) (by decide) (fun q11 => ?_)
  refine wn_put (i := 0) (l' := [(q, .inr (9, [.int 0, .int 0, .int 0, .int 0, .ref q1, .ref q2, .ref q3, .ref q4, .ref q5, .ref q6, .int 0, .int 0, .int (-1), .int 0, .ref q7, .ref q8, .int 0, .int 0, .int 0, .int 0, .ref q9, .ref q10, .ref q11, .int 0, .int 0, .int 0, .int 0, .int 0, .null, .null, .null, .null, .int 0, .int 0, .null, .null, .long 0, .int 0, .null, .int 0, .null, .int 0, .int 0, .int 0, .int 0, .int 0, .null, .null, .null, .null])), (q1, .inl (c.1, 24, .inl (fun _ => 0))), (q2, .inl (c.1, 288, .inl (fun _ => 0))), (q3, .inl (c.1, 288, .inl (fun _ => 0))), (q4, .inl (c.1, 144, .inl (fun _ => 0))), (q5, .inl (c.1, 144, .inl (fun _ => 0))), (q6, .inl (c.1, 144, .inl (fun _ => 0))), (q7, .inl (c.1, 288, .inl (fun _ => 0))), (q8, .inl (c.1, 900, .inl (fun _ => 0))), (q9, .inl (c.1, 901, .inl (fun _ => 0))), (q10, .inl (c.1, 901, .inl (fun _ => 0))), (q11, .inl (c.1, 901, .inl (fun _ => 0)))]) dX9_init_104 (fc_X9_44).1 (fc_X9_44).2 rfl (Or.inr ⟨rfl, rfl⟩) rfl rfl (Nat.le_of_ble_eq_true rfl) rfl ?_
  refine wn_aload_n (i := 0) dX9_init_107 rfl rfl ?_
  refine wn_bipush (v := 24) dX9_init_108 (by decide +kernel) ?_
  refine wn_newI (N := 24) dX9_init_110 (by decide +kernel) (by decide +kernel) (by decide) (by decide) (by decide) (fun q12 => ?_)
  refine wn_put (i := 0) (l' := [(q, .inr (9, [.int 0, .int 0, .int 0, .int 0, .ref q1, .ref q2, .ref q3, .ref q4, .ref q5, .ref q6, .int 0, .int 0, .int (-1), .int 0, .ref q7, .ref q8, .int 0, .int 0, .int 0, .int 0, .ref q9, .ref q10, .ref q11, .int 0, .int 0, .int 0, .int 0, .int 0, .ref q12, .null, .null, .null, .int 0, .int 0, .null, .null, .long 0, .int 0, .null, .int 0, .null, .int 0, .int 0, .int 0, .int 0, .int 0, .null, .null, .null, .null])), (q1, .inl (c.1, 24, .inl (fun _ => 0))), (q2, .inl (c.1, 288, .inl (fun _ => 0))), (q3, .inl (c.1, 288, .inl (fun _ => 0))), (q4, .inl (c.1, 144, .inl (fun _ => 0))), (q5, .inl (c.1, 144, .inl (fun _ => 0))), (q6, .inl (c.1, 144, .inl (fun _ => 0))), (q7, .inl (c.1, 288, .inl (fun _ => 0))), (q8, .inl (c.1, 900, .inl (fun _ => 0))), (q9, .inl (c.1, 901, .inl (fun _ => 0))), (q10, .inl (c.1, 901, .inl (fun _ => 0))), (q11, .inl (c.1, 901, .inl (fun _ => 0))), (q12, .inl (c.1, 24, .inl (fun _ => 0)))]) dX9_init_112 (fc_X9_47).1 (fc_X9_47).2 rfl (Or.inr ⟨rfl, rfl⟩) rfl rfl (Nat.le_of_ble_eq_true rfl) rfl ?_
  refine wn_aload_n (i := 0) dX9_init_115 rfl rfl ?_
  refine wn_sipush (v := 288) dX9_init_116 (by decide +kernel) ?_
  refine wn_newI (N := 288) dX9_init_119 (by decide +kernel) (by decide +kernel) (by decide) (by decide) (by decide) (fun q13 => ?_)
  refine wn_put (i := 0) (l' := [(q, .inr (9, [.int 0, .int 0, .int 0, .int 0, .ref q1, .ref q2, .ref q3, .ref q4, .ref q5, .ref q6, .int 0, .int 0, .int (-1), .int 0, .ref q7, .ref q8, .int 0, .int 0, .int 0, .int 0, .ref q9, .ref q10, .ref q11, .int 0, .int 0, .int 0, .int 0, .int 0, .ref q12, .ref q13, .null, .null, .int 0, .int 0, .null, .null, .long 0, .int 0, .null, .int 0, .null, .int 0, .int 0, .int 0, .int 0, .int 0, .null, .null, .null, .null])), (q1, .inl (c.1, 24, .inl (fun _ => 0))), (q2, .inl (c.1, 288, .inl (fun _ => 0))), (q3, .inl (c.1, 288, .inl (fun _ => 0))), (q4, .inl (c.1, 144, .inl (fun _ => 0))), (q5, .inl (c.1, 144, .inl (fun _ => 0))), (q6, .inl (c.1, 144, .inl (fun _ => 0))), (q7, .inl (c.1, 288, .inl (fun _ => 0))), (q8, .inl (c.1, 900, .inl (fun _ => 0))), (q9, .inl (c.1, 901, .inl (fun _ => 0))), (q10, .inl (c.1, 901, .inl (fun _ => 0))), (q11, .inl (c.1, 901, .inl (fun _ => 0))), (q12, .inl (c.1, 24, .inl (fun _ => 0))), (q13, .inl (c.1, 288, .inl (fun _ => 0)))]) dX9_init_121 (fc_X9_50).1 (fc_X9_50).2 rfl (Or.inr ⟨rfl, rfl⟩) rfl rfl (Nat.le_of_ble_eq_true rfl) rfl ?_
  refine wn_aload_n (i := 0) dX9_init_124 rfl rfl ?_
  refine wn_sipush (v := 288) dX9_init_125 (by decide +kernel) ?_
  refine wn_newI (N := 288) dX9_init_128 (by decide +kernel) (by decide +kernel) (by decide) (by decide) (by decide) (fun q14 => ?_)
  refine wn_put (i := 0) (l' := [(q, .inr (9, [.int 0, .int 0, .int 0, .int 0, .ref q1, .ref q2, .ref q3, .ref q4, .ref q5, .ref q6, .int 0, .int 0, .int (-1), .int 0, .ref q7, .ref q8, .int 0, .int 0, .int 0, .int 0, .ref q9, .ref q10, .ref q11, .int 0, .int 0, .int 0, .int 0, .int 0, .ref q12, .ref q13, .ref q14, .null, .int 0, .int 0, .null, .null, .long 0, .int 0, .null, .int 0, .null, .int 0, .int 0, .int 0, .int 0, .int 0, .null, .null, .null, .null])), (q1, .inl (c.1, 24, .inl (fun _ => 0))), (q2, .inl (c.1, 288, .inl (fun _ => 0))), (q3, .inl (c.1, 288, .inl (fun _ => 0))), (q4, .inl (c.1, 144, .inl (fun _ => 0))), (q5, .inl (c.1, 144, .inl (fun _ => 0))), (q6, .inl (c.1, 144, .inl (fun _ => 0))), (q7, .inl (c.1, 288, .inl (fun _ => 0))), (q8, .inl (c.1, 900, .inl (fun _ => 0))), (q9, .inl (c.1, 901, .inl (fun _ => 0))), (q10, .inl (c.1, 901, .inl (fun _ => 0))), (q11, .inl (c.1, 901, .inl (fun _ => 0))), (q12, .inl (c.1, 24, .inl (fun _ => 0))), (q13, .inl (c.1, 288, .inl (fun _ => 0))), (q14, .inl (c.1, 288, .inl (fun _ => 0)))]) dX9_init_130 (fc_X9_53).1 (fc_X9_53).2 rfl (Or.inr ⟨rfl, rfl⟩) rfl rfl (Nat.le_of_ble_eq_true rfl) rfl ?_
  refine wn_aload_n (i := 0) dX9_init_133 rfl rfl ?_
  refine wn_bipush (v := 12) dX9_init_134 (by decide +kernel) ?_
  refine wn_newI (N := 12) dX9_init_136 (by decide +kernel) (by decide +kernel) (by decide) (by decide) (by decide) (fun q15 => ?_)
  refine wn_put (i := 0) (l' := [(q, .inr (9, [.int 0, .int 0, .int 0, .int 0, .ref q1, .ref q2, .ref q3, .ref q4, .ref q5, .ref q6, .int 0, .int 0, .int (-1), .int 0, .ref q7, .ref q8, .int 0, .int 0, .int 0, .int 0, .ref q9, .ref q10, .ref q11, .int 0, .int 0, .int 0, .int 0, .int 0, .ref q12, .ref q13, .ref q14, .null, .int 0, .int 0, .ref q15, .null, .long 0, .int 0, .null, .int 0, .null, .int 0, .int 0, .int 0, .int 0, .int 0, .null, .null, .null, .null])), (q1, .inl (c.1, 24, .inl (fun _ => 0))), (q2, .inl (c.1, 288, .inl (fun _ => 0))), (q3, .inl (c.1, 288, .inl (fun _ => 0))), (q4, .inl (c.1, 144, .inl (fun _ => 0))), (q5, .inl (c.1, 144, .inl (fun _ => 0))), (q6, .inl (c.1, 144, .inl (fun _ => 0))), (q7, .inl (c.1, 288, .inl (fun _ => 0))), (q8, .inl (c.1, 900, .inl (fun _ => 0))), (q9, .inl (c.1, 901, .inl (fun _ => 0))), (q10, .inl (c.1, 901, .inl (fun _ => 0))), (q11, .inl (c.1, 901, .inl (fun _ => 0))), (q12, .inl (c.1, 24, .inl (fun _ => 0))), (q13, .inl (c.1, 288, .inl (fun _ => 0))), (q14, .inl (c.1, 288, .inl (fun _ => 0))), (q15, .inl (c.1, 12, .inl (fun _ => 0)))]) dX9_init_138 (fc_X9_56).1 (fc_X9_56).2 rfl (Or.inr ⟨rfl, rfl⟩) rfl rfl (Nat.le_of_ble_eq_true rfl) rfl ?_
  refine wn_aload_n (i := 0) dX9_init_141 rfl rfl ?_
  refine wn_bipush (v := 12) dX9_init_142 (by decide +kernel) ?_
  refine wn_newI (N := 12) dX9_init_144 (by decide +kernel) (by decide +kernel) (by decide) (by decide) (by decide) (fun q16 => ?_)
  refine wn_put (i := 0) (l' := [(q, .inr (9, [.int 0, .int 0, .int 0, .int 0, .ref q1, .ref q2, .ref q3, .ref q4, .ref q5, .ref q6, .int 0, .int 0, .int (-1), .int 0, .ref q7, .ref q8, .int 0, .int 0, .int 0, .int 0, .ref q9, .ref q10, .ref q11, .int 0, .int 0, .int 0, .int 0, .int 0, .ref q12, .ref q13, .ref q14, .null, .int 0, .int 0, .ref q15, .ref q16, .long 0, .int 0, .null, .int 0, .null, .int 0, .int 0, .int 0, .int 0, .int 0, .null, .null, .null, .null])), (q1, .inl (c.1, 24, .inl (fun _ => 0))), (q2, .inl (c.1, 288, .inl (fun _ => 0))), (q3, .inl (c.1, 288, .inl (fun _ => 0))), (q4, .inl (c.1, 144, .inl (fun _ => 0))), (q5, .inl (c.1, 144, .inl (fun _ => 0))), (q6, .inl (c.1, 144, .inl (fun _ => 0))), (q7, .inl (c.1, 288, .inl (fun _ => 0))), (q8, .inl (c.1, 900, .inl (fun _ => 0))), (q9, .inl (c.1, 901, .inl (fun _ => 0))), (q10, .inl (c.1, 901, .inl (fun _ => 0))), (q11, .inl (c.1, 901, .inl (fun _ => 0))), (q12, .inl (c.1, 24, .inl (fun _ => 0))), (q13, .inl (c.1, 288, .inl (fun _ => 0))), (q14, .inl (c.1, 288, .inl (fun _ => 0))), (q15, .inl (c.1, 12, .inl (fun _ => 0))), (q16, .inl (c.1, 12, .inl (fun _ => 0)))]) dX9_init_146 (fc_X9_59).1 (fc_X9_59).2 rfl (Or.inr ⟨rfl, rfl⟩) rfl rfl (Nat.le_of_ble_eq_true rfl) rfl ?_
  refine wn_aload_n (i := 0) dX9_init_149 rfl rfl ?_
  refine wn_sipush (v := 144) dX9_init_150 (by decide +kernel) ?_
  refine wn_newI (N := 144) dX9_init_153 (by decide +kernel) (by decide +kernel) (by decide) (by decide) (by decide) (fun q17 => ?_)
  refine wn_put (i := 0) (l' := [(q, .inr (9, [.int 0, .int 0, .int 0, .int 0, .ref q1, .ref q2, .ref q3, .ref q4, .ref q5, .ref q6, .int 0, .int 0, .int (-1), .int 0, .ref q7, .ref q8, .int 0, .int 0, .int 0, .int 0, .ref q9, .ref q10, .ref q11, .int 0, .int 0, .int 0, .int 0, .int 0, .ref q12, .ref q13, .ref q14, .null, .int 0, .int 0, .ref q15, .ref q16, .long 0, .int 0, .ref q17, .int 0, .null, .int 0, .int 0, .int 0, .int 0, .int 0, .null, .null, .null, .null])), (q1, .inl (c.1, 24, .inl (fun _ => 0))), (q2, .inl (c.1, 288, .inl (fun _ => 0))), (q3, .inl (c.1, 288, .inl (fun _ => 0))), (q4, .inl (c.1, 144, .inl (fun _ => 0))), (q5, .inl (c.1, 144, .inl (fun _ => 0))), (q6, .inl (c.1, 144, .inl (fun _ => 0))), (q7, .inl (c.1, 288, .inl (fun _ => 0))), (q8, .inl (c.1, 900, .inl (fun _ => 0))), (q9, .inl (c.1, 901, .inl (fun _ => 0))), (q10, .inl (c.1, 901, .inl (fun _ => 0))), (q11, .inl (c.1, 901, .inl (fun _ => 0))), (q12, .inl (c.1, 24, .inl (fun _ => 0))), (q13, .inl (c.1, 288, .inl (fun _ => 0))), (q14, .inl (c.1, 288, .inl (fun _ => 0))), (q15, .inl (c.1, 12, .inl (fun _ => 0))), (q16, .inl (c.1, 12, .inl (fun _ => 0))), (q17, .inl (c.1, 144, .inl (fun _ => 0)))]) dX9_init_155 (fc_X9_62).1 (fc_X9_62).2 rfl (Or.inr ⟨rfl, rfl⟩) rfl rfl (Nat.le_of_ble_eq_true rfl) rfl ?_
  refine wn_aload_n (i := 0) dX9_init_158 rfl rfl ?_
  refine wn_sipush (v := 21024) dX9_init_159 (by decide +kernel) ?_
  refine wn_newI (N := 21024) dX9_init_162 (by decide +kernel) (by decide +kernel) (by decide) (by decide) (by decide) (fun q18 => ?_)
  refine wn_put (i := 0) (l' := [(q, .inr (9, [.int 0, .int 0, .int 0, .int 0, .ref q1, .ref q2, .ref q3, .ref q4, .ref q5, .ref q6, .int 0, .int 0, .int (-1), .int 0, .ref q7, .ref q8, .int 0, .int 0, .int 0, .int 0, .ref q9, .ref q10, .ref q11, .int 0, .int 0, .int 0, .int 0, .int 0, .ref q12, .ref q13, .ref q14, .null, .int 0, .int 0, .ref q15, .ref q16, .long 0, .int 0, .ref q17, .int 0, .ref q18, .int 0, .int 0, .int 0, .int 0, .int 0, .null, .null, .null, .null])), (q1, .inl (c.1, 24, .inl (fun _ => 0))), (q2, .inl (c.1, 288, .inl (fun _ => 0))), (q3, .inl (c.1, 288, .inl (fun _ => 0))), (q4, .inl (c.1, 144, .inl (fun _ => 0))), (q5, .inl (c.1, 144, .inl (fun _ => 0))), (q6, .inl (c.1, 144, .inl (fun _ => 0))), (q7, .inl (c.1, 288, .inl (fun _ => 0))), (q8, .inl (c.1, 900, .inl (fun _ => 0))), (q9, .inl (c.1, 901, .inl (fun _ => 0))), (q10, .inl (c.1, 901, .inl (fun _ => 0))), (q11, .inl (c.1, 901, .inl (fun _ => 0))), (q12, .inl (c.1, 24, .inl (fun _ => 0))), (q13, .inl (c.1, 288, .inl (fun _ => 0))), (q14, .inl (c.1, 288, .inl (fun _ => 0))), (q15, .inl (c.1, 12, .inl (fun _ => 0))), (q16, .inl (c.1, 12, .inl (fun _ => 0))), (q17, .inl (c.1, 144, .inl (fun _ => 0))), (q18, .inl (c.1, 21024, .inl (fun _ => 0)))]) dX9_init_164 (fc_X9_65).1 (fc_X9_65).2 rfl (Or.inr ⟨rfl, rfl⟩) rfl rfl (Nat.le_of_ble_eq_true rfl) rfl ?_
  refine wn_aload_n (i := 0) dX9_init_167 rfl rfl ?_
  refine wn_sipush (v := 288) dX9_init_168 (by decide +kernel) ?_
  refine wn_newI (N := 288) dX9_init_171 (by decide +kernel) (by decide +kernel) (by decide) (by decide) (by decide) (fun q19 => ?_)
  refine wn_put (i := 0) (l' := [(q, .inr (9, [.int 0, .int 0, .int 0, .int 0, .ref q1, .ref q2, .ref q3, .ref q4, .ref q5, .ref q6, .int 0, .int 0, .int (-1), .int 0, .ref q7, .ref q8, .int 0, .int 0, .int 0, .int 0, .ref q9, .ref q10, .ref q11, .int 0, .int 0, .int 0, .int 0, .int 0, .ref q12, .ref q13, .ref q14, .null, .int 0, .int 0, .ref q15, .ref q16, .long 0, .int 0, .ref q17, .int 0, .ref q18, .int 0, .int 0, .int 0, .int 0, .int 0, .ref q19, .null, .null, .null])), (q1, .inl (c.1, 24, .inl (fun _ => 0))), (q2, .inl (c.1, 288, .inl (fun _ => 0))), (q3, .inl (c.1, 288, .inl (fun _ => 0))), (q4, .inl (c.1, 144, .inl (fun _ => 0))), (q5, .inl (c.1, 144, .inl (fun _ => 0))), (q6, .inl (c.1, 144, .inl (fun _ => 0))), (q7, .inl (c.1, 288, .inl (fun _ => 0))), (q8, .inl (c.1, 900, .inl (fun _ => 0))), (q9, .inl (c.1, 901, .inl (fun _ => 0))), (q10, .inl (c.1, 901, .inl (fun _ => 0))), (q11, .inl (c.1, 901, .inl (fun _ => 0))), (q12, .inl (c.1, 24, .inl (fun _ => 0))), (q13, .inl (c.1, 288, .inl (fun _ => 0))), (q14, .inl (c.1, 288, .inl (fun _ => 0))), (q15, .inl (c.1, 12, .inl (fun _ => 0))), (q16, .inl (c.1, 12, .inl (fun _ => 0))), (q17, .inl (c.1, 144, .inl (fun _ => 0))), (q18, .inl (c.1, 21024, .inl (fun _ => 0))), (q19, .inl (c.1, 288, .inl (fun _ => 0)))]) dX9_init_173 (fc_X9_68).1 (fc_X9_68).2 rfl (Or.inr ⟨rfl, rfl⟩) rfl rfl (Nat.le_of_ble_eq_true rfl) rfl ?_
  refine wn_aload_n (i := 0) dX9_init_176 rfl rfl ?_
  refine wn_sipush (v := 144) dX9_init_177 (by decide +kernel) ?_
  refine wn_newI (N := 144) dX9_init_180 (by decide +kernel) (by decide +kernel) (by decide) (by decide) (by decide) (fun q20 => ?_)
  refine wn_put (i := 0) (l' := [(q, .inr (9, [.int 0, .int 0, .int 0, .int 0, .ref q1, .ref q2, .ref q3, .ref q4, .ref q5, .ref q6, .int 0, .int 0, .int (-1), .int 0, .ref q7, .ref q8, .int 0, .int 0, .int 0, .int 0, .ref q9, .ref q10, .ref q11, .int 0, .int 0, .int 0, .int 0, .int 0, .ref q12, .ref q13, .ref q14, .null, .int 0, .int 0, .ref q15, .ref q16, .long 0, .int 0, .ref q17, .int 0, .ref q18, .int 0, .int 0, .int 0, .int 0, .int 0, .ref q19, .ref q20, .null, .null])), (q1, .inl (c.1, 24, .inl (fun _ => 0))), (q2, .inl (c.1, 288, .inl (fun _ => 0))), (q3, .inl (c.1, 288, .inl (fun _ => 0))), (q4, .inl (c.1, 144, .inl (fun _ => 0))), (q5, .inl (c.1, 144, .inl (fun _ => 0))), (q6, .inl (c.1, 144, .inl (fun _ => 0))), (q7, .inl (c.1, 288, .inl (fun _ => 0))), (q8, .inl (c.1, 900, .inl (fun _ => 0))), (q9, .inl (c.1, 901, .inl (fun _ => 0))), (q10, .inl (c.1, 901, .inl (fun _ => 0))), (q11, .inl (c.1, 901, .inl (fun _ => 0))), (q12, .inl (c.1, 24, .inl (fun _ => 0))), (q13, .inl (c.1, 288, .inl (fun _ => 0))), (q14, .inl (c.1, 288, .inl (fun _ => 0))), (q15, .inl (c.1, 12, .inl (fun _ => 0))), (q16, .inl (c.1, 12, .inl (fun _ => 0))), (q17, .inl (c.1, 144, .inl (fun _ => 0))), (q18, .inl (c.1, 21024, .inl (fun _ => 0))), (q19, .inl (c.1, 288, .inl (fun _ => 0))), (q20, .inl (c.1, 144, .inl (fun _ => 0)))]) dX9_init_182 (fc_X9_71).1 (fc_X9_71).2 rfl (Or.inr ⟨rfl, rfl⟩) rfl rfl (Nat.le_of_ble_eq_true rfl) rfl ?_
  refine wn_aload_n (i := 0) dX9_init_185 rfl rfl ?_
  refine wn_bipush (v := 12) dX9_init_186 (by decide +kernel) ?_
  refine wn_newI (N := 12) dX9_init_188 (by decide +kernel) (by decide +kernel) (by decide) (by decide) (by decide) (fun q21 => ?_)
  refine wn_put (i := 0) (l' := [(q, .inr (9, [.int 0, .int 0, .int 0, .int 0, .ref q1, .ref q2, .ref q3, .ref q4, .ref q5, .ref q6, .int 0, .int 0, .int (-1), .int 0, .ref q7, .ref q8, .int 0, .int 0, .int 0, .int 0, .ref q9, .ref q10, .ref q11, .int 0, .int 0, .int 0, .int 0, .int 0, .ref q12, .ref q13, .ref q14, .null, .int 0, .int 0, .ref q15, .ref q16, .long 0, .int 0, .ref q17, .int 0, .ref q18, .int 0, .int 0, .int 0, .int 0, .int 0, .ref q19, .ref q20, .ref q21, .null])), (q1, .inl (c.1, 24, .inl (fun _ => 0))), (q2, .inl (c.1, 288, .inl (fun _ => 0))), (q3, .inl (c.1, 288, .inl (fun _ => 0))), (q4, .inl (c.1, 144, .inl (fun _ => 0))), (q5, .inl (c.1, 144, .inl (fun _ => 0))), (q6, .inl (c.1, 144, .inl (fun _ => 0))), (q7, .inl (c.1, 288, .inl (fun _ => 0))), (q8, .inl (c.1, 900, .inl (fun _ => 0))), (q9, .inl (c.1, 901, .inl (fun _ => 0))), (q10, .inl (c.1, 901, .inl (fun _ => 0))), (q11, .inl (c.1, 901, .inl (fun _ => 0))), (q12, .inl (c.1, 24, .inl (fun _ => 0))), (q13, .inl (c.1, 288, .inl (fun _ => 0))), (q14, .inl (c.1, 288, .inl (fun _ => 0))), (q15, .inl (c.1, 12, .inl (fun _ => 0))), (q16, .inl (c.1, 12, .inl (fun _ => 0))), (q17, .inl (c.1, 144, .inl (fun _ => 0))), (q18, .inl (c.1, 21024, .inl (fun _ => 0))), (q19, .inl (c.1, 288, .inl (fun _ => 0))), (q20, .inl (c.1, 144, .inl (fun _ => 0))), (q21, .inl (c.1, 12, .inl (fun _ => 0)))]) dX9_init_190 (fc_X9_74).1 (fc_X9_74).2 rfl (Or.inr ⟨rfl, rfl⟩) rfl rfl (Nat.le_of_ble_eq_true rfl) rfl ?_
  refine wn_aload_n (i := 0) dX9_init_193 rfl rfl ?_
  refine wn_bipush (v := 12) dX9_init_194 (by decide +kernel) ?_
  refine wn_newI (N := 12) dX9_init_196 (by decide +kernel) (by decide +kernel) (by decide) (by decide) (by decide) (fun q22 => ?_)
  refine wn_put (i := 0) (l' := [(q, .inr (9, [.int 0, .int 0, .int 0, .int 0, .ref q1, .ref q2, .ref q3, .ref q4, .ref q5, .ref q6, .int 0, .int 0, .int (-1), .int 0, .ref q7, .ref q8, .int 0, .int 0, .int 0, .int 0, .ref q9, .ref q10, .ref q11, .int 0, .int 0, .int 0, .int 0, .int 0, .ref q12, .ref q13, .ref q14, .null, .int 0, .int 0, .ref q15, .ref q16, .long 0, .int 0, .ref q17, .int 0, .ref q18, .int 0, .int 0, .int 0, .int 0, .int 0, .ref q19, .ref q20, .ref q21, .ref q22])), (q1, .inl (c.1, 24, .inl (fun _ => 0))), (q2, .inl (c.1, 288, .inl (fun _ => 0))), (q3, .inl (c.1, 288, .inl (fun _ => 0))), (q4, .inl (c.1, 144, .inl (fun _ => 0))), (q5, .inl (c.1, 144, .inl (fun _ => 0))), (q6, .inl (c.1, 144, .inl (fun _ => 0))), (q7, .inl (c.1, 288, .inl (fun _ => 0))), (q8, .inl (c.1, 900, .inl (fun _ => 0))), (q9, .inl (c.1, 901, .inl (fun _ => 0))), (q10, .inl (c.1, 901, .inl (fun _ => 0))), (q11, .inl (c.1, 901, .inl (fun _ => 0))), (q12, .inl (c.1, 24, .inl (fun _ => 0))), (q13, .inl (c.1, 288, .inl (fun _ => 0))), (q14, .inl (c.1, 288, .inl (fun _ => 0))), (q15, .inl (c.1, 12, .inl (fun _ => 0))), (q16, .inl (c.1, 12, .inl (fun _ => 0))), (q17, .inl (c.1, 144, .inl (fun _ => 0))), (q18, .inl (c.1, 21024, .inl (fun _ => 0))), (q19, .inl (c.1, 288, .inl (fun _ => 0))), (q20, .inl (c.1, 144, .inl (fun _ => 0))), (q21, .inl (c.1, 12, .inl (fun _ => 0))), (q22, .inl (c.1, 12, .inl (fun _ => 0)))]) dX9_init_198 (fc_X9_77).1 (fc_X9_77).2 rfl (Or.inr ⟨rfl, rfl⟩) rfl rfl (Nat.le_of_ble_eq_true rfl) rfl ?_
  exact wn_ret (fun i => [q1, q2, q3, q4, q5, q6, q7, q8, q9, q10, q11, q12, q13, q14, q15, q16, q17, q18, q19, q20, q21, q22].getD i 0) dX9_init_201 rfl rfl
