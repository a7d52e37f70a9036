/-! decompiled by wip/gen/gen.py -/
theorem dJ7_fill_53178_0 : decode cJ7_fill_53178 0 = .ok (.iconst 0, 1) := by decide +kernel
theorem dJ7_fill_53178_1 : decode cJ7_fill_53178 1 = .ok (.istore_n 2, 1) := by decide +kernel
theorem dJ7_fill_53178_2 : decode cJ7_fill_53178 2 = .ok (.aload_n 0, 1) := by decide +kernel
theorem dJ7_fill_53178_3 : decode cJ7_fill_53178 3 = .ok (.arraylength, 1) := by decide +kernel
theorem dJ7_fill_53178_4 : decode cJ7_fill_53178 4 = .ok (.istore_n 3, 1) := by decide +kernel
theorem dJ7_fill_53178_5 : decode cJ7_fill_53178 5 = .ok (.iload_n 2, 1) := by decide +kernel
theorem dJ7_fill_53178_6 : decode cJ7_fill_53178 6 = .ok (.iload_n 3, 1) := by decide +kernel
theorem dJ7_fill_53178_7 : decode cJ7_fill_53178 7 = .ok (.if_icmp .ge 13, 3) := by decide +kernel
theorem dJ7_fill_53178_10 : decode cJ7_fill_53178 10 = .ok (.aload_n 0, 1) := by decide +kernel
theorem dJ7_fill_53178_11 : decode cJ7_fill_53178 11 = .ok (.iload_n 2, 1) := by decide +kernel
theorem dJ7_fill_53178_12 : decode cJ7_fill_53178 12 = .ok (.iload_n 1, 1) := by decide +kernel
theorem dJ7_fill_53178_13 : decode cJ7_fill_53178 13 = .ok (.iastore, 1) := by decide +kernel
theorem dJ7_fill_53178_14 : decode cJ7_fill_53178 14 = .ok (.iinc 2 1, 3) := by decide +kernel
theorem dJ7_fill_53178_17 : decode cJ7_fill_53178 17 = .ok (.goto (-12), 3) := by decide +kernel
theorem dJ7_fill_53178_20 : decode cJ7_fill_53178 20 = .ok (.return_, 1) := by decide +kernel
theorem dJ6_bitCount_0f7a4_0 : decode cJ6_bitCount_0f7a4 0 = .ok (.iload_n 0, 1) := by decide +kernel
theorem dJ6_bitCount_0f7a4_1 : decode cJ6_bitCount_0f7a4 1 = .ok (.iload_n 0, 1) := by decide +kernel
theorem dJ6_bitCount_0f7a4_2 : decode cJ6_bitCount_0f7a4 2 = .ok (.iconst 1, 1) := by decide +kernel
theorem dJ6_bitCount_0f7a4_3 : decode cJ6_bitCount_0f7a4 3 = .ok (.iushr, 1) := by decide +kernel
theorem dJ6_bitCount_0f7a4_4 : decode cJ6_bitCount_0f7a4 4 = .ok (.ldc_w 265, 3) := by decide +kernel
theorem dJ6_bitCount_0f7a4_7 : decode cJ6_bitCount_0f7a4 7 = .ok (.iand, 1) := by decide +kernel
theorem dJ6_bitCount_0f7a4_8 : decode cJ6_bitCount_0f7a4 8 = .ok (.isub, 1) := by decide +kernel
theorem dJ6_bitCount_0f7a4_9 : decode cJ6_bitCount_0f7a4 9 = .ok (.istore_n 0, 1) := by decide +kernel
theorem dJ6_bitCount_0f7a4_10 : decode cJ6_bitCount_0f7a4 10 = .ok (.iload_n 0, 1) := by decide +kernel
theorem dJ6_bitCount_0f7a4_11 : decode cJ6_bitCount_0f7a4 11 = .ok (.ldc_w 266, 3) := by decide +kernel
theorem dJ6_bitCount_0f7a4_14 : decode cJ6_bitCount_0f7a4 14 = .ok (.iand, 1) := by decide +kernel
theorem dJ6_bitCount_0f7a4_15 : decode cJ6_bitCount_0f7a4 15 = .ok (.iload_n 0, 1) := by decide +kernel
theorem dJ6_bitCount_0f7a4_16 : decode cJ6_bitCount_0f7a4 16 = .ok (.iconst 2, 1) := by decide +kernel
theorem dJ6_bitCount_0f7a4_17 : decode cJ6_bitCount_0f7a4 17 = .ok (.iushr, 1) := by decide +kernel
theorem dJ6_bitCount_0f7a4_18 : decode cJ6_bitCount_0f7a4 18 = .ok (.ldc_w 266, 3) := by decide +kernel
theorem dJ6_bitCount_0f7a4_21 : decode cJ6_bitCount_0f7a4 21 = .ok (.iand, 1) := by decide +kernel
theorem dJ6_bitCount_0f7a4_22 : decode cJ6_bitCount_0f7a4 22 = .ok (.iadd, 1) := by decide +kernel
theorem dJ6_bitCount_0f7a4_23 : decode cJ6_bitCount_0f7a4 23 = .ok (.istore_n 0, 1) := by decide +kernel
theorem dJ6_bitCount_0f7a4_24 : decode cJ6_bitCount_0f7a4 24 = .ok (.iload_n 0, 1) := by decide +kernel
theorem dJ6_bitCount_0f7a4_25 : decode cJ6_bitCount_0f7a4 25 = .ok (.iload_n 0, 1) := by decide +kernel
theorem dJ6_bitCount_0f7a4_26 : decode cJ6_bitCount_0f7a4 26 = .ok (.iconst 4, 1) := by decide +kernel
theorem dJ6_bitCount_0f7a4_27 : decode cJ6_bitCount_0f7a4 27 = .ok (.iushr, 1) := by decide +kernel
theorem dJ6_bitCount_0f7a4_28 : decode cJ6_bitCount_0f7a4 28 = .ok (.iadd, 1) := by decide +kernel
theorem dJ6_bitCount_0f7a4_29 : decode cJ6_bitCount_0f7a4 29 = .ok (.ldc_w 267, 3) := by decide +kernel
theorem dJ6_bitCount_0f7a4_32 : decode cJ6_bitCount_0f7a4 32 = .ok (.iand, 1) := by decide +kernel
theorem dJ6_bitCount_0f7a4_33 : decode cJ6_bitCount_0f7a4 33 = .ok (.istore_n 0, 1) := by decide +kernel
theorem dJ6_bitCount_0f7a4_34 : decode cJ6_bitCount_0f7a4 34 = .ok (.iload_n 0, 1) := by decide +kernel
theorem dJ6_bitCount_0f7a4_35 : decode cJ6_bitCount_0f7a4 35 = .ok (.iload_n 0, 1) := by decide +kernel
theorem dJ6_bitCount_0f7a4_36 : decode cJ6_bitCount_0f7a4 36 = .ok (.bipush 8, 2) := by decide +kernel
theorem dJ6_bitCount_0f7a4_38 : decode cJ6_bitCount_0f7a4 38 = .ok (.iushr, 1) := by decide +kernel
theorem dJ6_bitCount_0f7a4_39 : decode cJ6_bitCount_0f7a4 39 = .ok (.iadd, 1) := by decide +kernel
theorem dJ6_bitCount_0f7a4_40 : decode cJ6_bitCount_0f7a4 40 = .ok (.istore_n 0, 1) := by decide +kernel
theorem dJ6_bitCount_0f7a4_41 : decode cJ6_bitCount_0f7a4 41 = .ok (.iload_n 0, 1) := by decide +kernel
theorem dJ6_bitCount_0f7a4_42 : decode cJ6_bitCount_0f7a4 42 = .ok (.iload_n 0, 1) := by decide +kernel
theorem dJ6_bitCount_0f7a4_43 : decode cJ6_bitCount_0f7a4 43 = .ok (.bipush 16, 2) := by decide +kernel
theorem dJ6_bitCount_0f7a4_45 : decode cJ6_bitCount_0f7a4 45 = .ok (.iushr, 1) := by decide +kernel
theorem dJ6_bitCount_0f7a4_46 : decode cJ6_bitCount_0f7a4 46 = .ok (.iadd, 1) := by decide +kernel
theorem dJ6_bitCount_0f7a4_47 : decode cJ6_bitCount_0f7a4 47 = .ok (.istore_n 0, 1) := by decide +kernel
theorem dJ6_bitCount_0f7a4_48 : decode cJ6_bitCount_0f7a4 48 = .ok (.iload_n 0, 1) := by decide +kernel
theorem dJ6_bitCount_0f7a4_49 : decode cJ6_bitCount_0f7a4 49 = .ok (.bipush 63, 2) := by decide +kernel
theorem dJ6_bitCount_0f7a4_51 : decode cJ6_bitCount_0f7a4 51 = .ok (.iand, 1) := by decide +kernel
theorem dJ6_bitCount_0f7a4_52 : decode cJ6_bitCount_0f7a4 52 = .ok (.ireturn, 1) := by decide +kernel
theorem dX8_isSize_0 : decode cX8_isSize 0 = .ok (.iload_n 0, 1) := by decide +kernel
theorem dX8_isSize_1 : decode cX8_isSize 1 = .ok (.iconst 1, 1) := by decide +kernel
theorem dX8_isSize_2 : decode cX8_isSize 2 = .ok (.if_icmp .lt 12, 3) := by decide +kernel
theorem dX8_isSize_5 : decode cX8_isSize 5 = .ok (.iload_n 0, 1) := by decide +kernel
theorem dX8_isSize_6 : decode cX8_isSize 6 = .ok (.iload_n 1, 1) := by decide +kernel
theorem dX8_isSize_7 : decode cX8_isSize 7 = .ok (.if_icmp .gt 7, 3) := by decide +kernel
theorem dX8_isSize_10 : decode cX8_isSize 10 = .ok (.iconst 1, 1) := by decide +kernel
theorem dX8_isSize_11 : decode cX8_isSize 11 = .ok (.goto 4, 3) := by decide +kernel
theorem dX8_isSize_14 : decode cX8_isSize 14 = .ok (.iconst 0, 1) := by decide +kernel
theorem dX8_isSize_15 : decode cX8_isSize 15 = .ok (.ireturn, 1) := by decide +kernel
def f_J7_fill_53178_5 (a1 : Nat) : Nat → Int32 → Int32 → Int32 → St → Option (St)
  | 0, _, _, _, _ => none
  | n + 1, v1, v2, v3, s =>
    if v3 ≤ v2 then (
      some s)
    else (
      Option.bind (pI s a1 v2 v1) fun s2 =>
      f_J7_fill_53178_5 a1 n v1 (v2 + 1) v3 s2)
set_option maxRecDepth 100000 in
set_option maxHeartbeats 4000000 in
theorem w_J7_fill_53178_5 {r : St} {a1 : Nat}   : ∀ (n : Nat) (v1 : Int32) (v2 : Int32) (v3 : Int32) (s : St), f_J7_fill_53178_5 a1  n v1 v2 v3 s = some r → Wp m_J7_fill_53178 0 (PR none r) 5 [some (.ref a1), some (.int v1), some (.int v2), some (.int v3)] [] s := by
  intro n
  induction n with
  | zero => intro v1 v2 v3 s h; cases h
  | succ n ih =>
    intro v1 v2 v3 s h
    unfold f_J7_fill_53178_5 at h
    refine wp_iload_n (i := 2) dJ7_fill_53178_5 rfl rfl ?_
    refine wp_iload_n (i := 3) dJ7_fill_53178_6 rfl rfl ?_
    refine wp_icmp_ge (tgt := 20) dJ7_fill_53178_7 (by decide) (fun c1 => ?_) (fun c1 => ?_)
    · rw [if_pos c1] at h
      obtain rfl := Option.some.inj h
      exact wp_vret dJ7_fill_53178_20 rfl
    · rw [if_neg c1] at h
      refine wp_aload_n (i := 0) dJ7_fill_53178_10 rfl rfl ?_
      refine wp_iload_n (i := 2) dJ7_fill_53178_11 rfl rfl ?_
      refine wp_iload_n (i := 1) dJ7_fill_53178_12 rfl rfl ?_
      obtain ⟨s2, es2, h⟩ := ob h
      refine wp_pI dJ7_fill_53178_13 es2 ?_
      refine wp_inc (c := 1) (ls' := [some (.ref a1), some (.int v1), some (.int (v2 + 1)), some (.int v3)]) dJ7_fill_53178_14 rfl (by decide +kernel) (by decide) rfl rfl ?_
      refine wp_goto (tgt := 5) dJ7_fill_53178_17 (by decide) ?_
      exact wp_sub (ls' := [some (.ref a1), some (.int v1), some (.int (v2 + 1)), some (.int v3)]) ⟨rfl, rfl, rfl, rfl, trivial⟩ (ih _ _ _ _ h)
def f_J7_fill_53178 (a1 : Nat) (a2 : Int32) (s : St) : Option (St) :=
  Option.bind (aLen a1) fun x1 =>
  f_J7_fill_53178_5 a1 FU a2 (0 : Int32) x1 s
set_option maxRecDepth 100000 in
set_option maxHeartbeats 4000000 in
theorem ok_J7_fill_53178 {a1 : Nat} {a2 : Int32} {s : St} {r : St} (h : f_J7_fill_53178 a1 a2 s = some r) : Ct 0 m_J7_fill_53178 [.ref a1, .int a2] s none r := by
  unfold f_J7_fill_53178 at h
  refine ct_of [some (.ref a1), some (.int a2), none, none] 2 (by decide) rfl (Nat.le_of_ble_eq_true rfl) ?_
  refine wp_iconst (v := 0) dJ7_fill_53178_0 (by decide +kernel) ?_
  refine wp_istore_n (ls' := [some (.ref a1), some (.int a2), some (.int (0 : Int32)), none]) dJ7_fill_53178_1 rfl (by decide) rfl rfl ?_
  refine wp_aload_n (i := 0) dJ7_fill_53178_2 rfl rfl ?_
  obtain ⟨x1, ex1, h⟩ := ob h
  refine wp_aLen dJ7_fill_53178_3 ex1 ?_
  refine wp_istore_n (ls' := [some (.ref a1), some (.int a2), some (.int (0 : Int32)), some (.int x1)]) dJ7_fill_53178_4 rfl (by decide) rfl rfl ?_
  exact wp_sub (ls' := [some (.ref a1), some (.int a2), some (.int (0 : Int32)), some (.int x1)]) ⟨rfl, rfl, rfl, rfl, trivial⟩ (w_J7_fill_53178_5 _ _ _ _ _ h)
def f_J6_bitCount_0f7a4 (a1 : Int32) (s : St) : Option (Int32 × St) :=
  Option.bind (some (a1 - (((a1.toUInt32 >>> ((1 : Int32).toUInt32 &&& Int32.toUInt32 31)).toInt32) &&& (1431655765 : Int32)) : Int32)) fun x1 =>
  Option.bind (some ((x1 &&& (858993459 : Int32)) + (((x1.toUInt32 >>> ((2 : Int32).toUInt32 &&& Int32.toUInt32 31)).toInt32) &&& (858993459 : Int32)) : Int32)) fun x2 =>
  Option.bind (some ((x2 + ((x2.toUInt32 >>> ((4 : Int32).toUInt32 &&& Int32.toUInt32 31)).toInt32)) &&& (252645135 : Int32) : Int32)) fun x3 =>
  Option.bind (some (x3 + ((x3.toUInt32 >>> ((8 : Int32).toUInt32 &&& Int32.toUInt32 31)).toInt32) : Int32)) fun x4 =>
  Option.bind (some (x4 + ((x4.toUInt32 >>> ((16 : Int32).toUInt32 &&& Int32.toUInt32 31)).toInt32) : Int32)) fun x5 =>
  some (x5 &&& (63 : Int32), s)
set_option maxRecDepth 100000 in
set_option maxHeartbeats 4000000 in
theorem ok_J6_bitCount_0f7a4 {a1 : Int32} {s : St} {r : Int32 × St} (h : f_J6_bitCount_0f7a4 a1 s = some r) : Ct 0 m_J6_bitCount_0f7a4 [.int a1] s (some (.int r.1)) r.2 := by
  unfold f_J6_bitCount_0f7a4 at h
  refine ct_of [some (.int a1)] 0 (by decide) rfl (Nat.le_of_ble_eq_true rfl) ?_
  refine wp_iload_n (i := 0) dJ6_bitCount_0f7a4_0 rfl rfl ?_
  refine wp_iload_n (i := 0) dJ6_bitCount_0f7a4_1 rfl rfl ?_
  refine wp_iconst (v := 1) dJ6_bitCount_0f7a4_2 (by decide +kernel) ?_
  refine wp_iushr dJ6_bitCount_0f7a4_3 ?_
  refine wp_ldcw dJ6_bitCount_0f7a4_4 kc_J6_265 ?_
  refine wp_iand dJ6_bitCount_0f7a4_7 ?_
  refine wp_isub dJ6_bitCount_0f7a4_8 ?_
  obtain ⟨x1, ex1, h⟩ := ob h
  refine wp_topi (Option.some.inj ex1) ?_
  refine wp_istore_n (ls' := [some (.int x1)]) dJ6_bitCount_0f7a4_9 rfl (by decide) rfl rfl ?_
  refine wp_iload_n (i := 0) dJ6_bitCount_0f7a4_10 rfl rfl ?_
  refine wp_ldcw dJ6_bitCount_0f7a4_11 kc_J6_266 ?_
  refine wp_iand dJ6_bitCount_0f7a4_14 ?_
  refine wp_iload_n (i := 0) dJ6_bitCount_0f7a4_15 rfl rfl ?_
  refine wp_iconst (v := 2) dJ6_bitCount_0f7a4_16 (by decide +kernel) ?_
  refine wp_iushr dJ6_bitCount_0f7a4_17 ?_
  refine wp_ldcw dJ6_bitCount_0f7a4_18 kc_J6_266 ?_
  refine wp_iand dJ6_bitCount_0f7a4_21 ?_
  refine wp_iadd dJ6_bitCount_0f7a4_22 ?_
  obtain ⟨x2, ex2, h⟩ := ob h
  refine wp_topi (Option.some.inj ex2) ?_
  refine wp_istore_n (ls' := [some (.int x2)]) dJ6_bitCount_0f7a4_23 rfl (by decide) rfl rfl ?_
  refine wp_iload_n (i := 0) dJ6_bitCount_0f7a4_24 rfl rfl ?_
  refine wp_iload_n (i := 0) dJ6_bitCount_0f7a4_25 rfl rfl ?_
  refine wp_iconst (v := 4) dJ6_bitCount_0f7a4_26 (by decide +kernel) ?_
  refine wp_iushr dJ6_bitCount_0f7a4_27 ?_
  refine wp_iadd dJ6_bitCount_0f7a4_28 ?_
  refine wp_ldcw dJ6_bitCount_0f7a4_29 kc_J6_267 ?_
  refine wp_iand dJ6_bitCount_0f7a4_32 ?_
  obtain ⟨x3, ex3, h⟩ := ob h
  refine wp_topi (Option.some.inj ex3) ?_
  refine wp_istore_n (ls' := [some (.int x3)]) dJ6_bitCount_0f7a4_33 rfl (by decide) rfl rfl ?_
  refine wp_iload_n (i := 0) dJ6_bitCount_0f7a4_34 rfl rfl ?_
  refine wp_iload_n (i := 0) dJ6_bitCount_0f7a4_35 rfl rfl ?_
  refine wp_bipush (v := 8) dJ6_bitCount_0f7a4_36 (by decide +kernel) ?_
  refine wp_iushr dJ6_bitCount_0f7a4_38 ?_
  refine wp_iadd dJ6_bitCount_0f7a4_39 ?_
  obtain ⟨x4, ex4, h⟩ := ob h
  refine wp_topi (Option.some.inj ex4) ?_
  refine wp_istore_n (ls' := [some (.int x4)]) dJ6_bitCount_0f7a4_40 rfl (by decide) rfl rfl ?_
  refine wp_iload_n (i := 0) dJ6_bitCount_0f7a4_41 rfl rfl ?_
  refine wp_iload_n (i := 0) dJ6_bitCount_0f7a4_42 rfl rfl ?_
  refine wp_bipush (v := 16) dJ6_bitCount_0f7a4_43 (by decide +kernel) ?_
  refine wp_iushr dJ6_bitCount_0f7a4_45 ?_
  refine wp_iadd dJ6_bitCount_0f7a4_46 ?_
  obtain ⟨x5, ex5, h⟩ := ob h
  refine wp_topi (Option.some.inj ex5) ?_
  refine wp_istore_n (ls' := [some (.int x5)]) dJ6_bitCount_0f7a4_47 rfl (by decide) rfl rfl ?_
  refine wp_iload_n (i := 0) dJ6_bitCount_0f7a4_48 rfl rfl ?_
  refine wp_bipush (v := 63) dJ6_bitCount_0f7a4_49 (by decide +kernel) ?_
  refine wp_iand dJ6_bitCount_0f7a4_51 ?_
  obtain rfl := Option.some.inj h
  exact wp_iret dJ6_bitCount_0f7a4_52 rfl rfl
def f_X8_isSize (a1 : Int32) (a2 : Int32) (s : St) : Option (Int32 × St) :=
  if a1 < (1 : Int32) then (
    some ((0 : Int32), s))
  else (
    if a2 < a1 then (
      some ((0 : Int32), s))
    else (
      some ((1 : Int32), s)))
set_option maxRecDepth 100000 in
set_option maxHeartbeats 4000000 in
theorem ok_X8_isSize {a1 : Int32} {a2 : Int32} {s : St} {r : Int32 × St} (h : f_X8_isSize a1 a2 s = some r) : Ct 0 m_X8_isSize [.int a1, .int a2] s (some (.int r.1)) r.2 := by
  unfold f_X8_isSize at h
  refine ct_of [some (.int a1), some (.int a2)] 0 (by decide) rfl (Nat.le_of_ble_eq_true rfl) ?_
  refine wp_iload_n (i := 0) dX8_isSize_0 rfl rfl ?_
  refine wp_iconst (v := 1) dX8_isSize_1 (by decide +kernel) ?_
  refine wp_icmp_lt (tgt := 14) dX8_isSize_2 (by decide) (fun c1 => ?_) (fun c1 => ?_)
  · rw [if_pos c1] at h
    refine wp_iconst (v := 0) dX8_isSize_14 (by decide +kernel) ?_
    obtain rfl := Option.some.inj h
    exact wp_iret dX8_isSize_15 rfl (narrow_z (Or.inl rfl)).1
  · rw [if_neg c1] at h
    refine wp_iload_n (i := 0) dX8_isSize_5 rfl rfl ?_
    refine wp_iload_n (i := 1) dX8_isSize_6 rfl rfl ?_
    refine wp_icmp_gt (tgt := 14) dX8_isSize_7 (by decide) (fun c2 => ?_) (fun c2 => ?_)
    · rw [if_pos c2] at h
      refine wp_iconst (v := 0) dX8_isSize_14 (by decide +kernel) ?_
      obtain rfl := Option.some.inj h
      exact wp_iret dX8_isSize_15 rfl (narrow_z (Or.inl rfl)).1
    · rw [if_neg c2] at h
      refine wp_iconst (v := 1) dX8_isSize_10 (by decide +kernel) ?_
      refine wp_goto (tgt := 15) dX8_isSize_11 (by decide) ?_
      obtain rfl := Option.some.inj h
      exact wp_iret dX8_isSize_15 rfl (narrow_z (Or.inr rfl)).1
