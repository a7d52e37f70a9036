/-! decompiled by wip/gen/gen.py -/
theorem dX6_append_0 : decode cX6_append 0 = .ok (.bipush 24, 2) := by decide +kernel
theorem dX6_append_2 : decode cX6_append 2 = .ok (.istore_n 2, 1) := by decide +kernel
theorem dX6_append_3 : decode cX6_append 3 = .ok (.iload_n 2, 1) := by decide +kernel
theorem dX6_append_4 : decode cX6_append 4 = .ok (.ifCond .lt 42, 3) := by decide +kernel
theorem dX6_append_7 : decode cX6_append 7 = .ok (.aload_n 0, 1) := by decide +kernel
theorem dX6_append_8 : decode cX6_append 8 = .ok (.getfield 15, 3) := by decide +kernel
theorem dX6_append_11 : decode cX6_append 11 = .ok (.sipush 900, 3) := by decide +kernel
theorem dX6_append_14 : decode cX6_append 14 = .ok (.if_icmp .ge 32, 3) := by decide +kernel
theorem dX6_append_17 : decode cX6_append 17 = .ok (.aload_n 0, 1) := by decide +kernel
theorem dX6_append_18 : decode cX6_append 18 = .ok (.getfield 9, 3) := by decide +kernel
theorem dX6_append_21 : decode cX6_append 21 = .ok (.aload_n 0, 1) := by decide +kernel
theorem dX6_append_22 : decode cX6_append 22 = .ok (.getfield 15, 3) := by decide +kernel
theorem dX6_append_25 : decode cX6_append 25 = .ok (.iload_n 1, 1) := by decide +kernel
theorem dX6_append_26 : decode cX6_append 26 = .ok (.iload_n 2, 1) := by decide +kernel
theorem dX6_append_27 : decode cX6_append 27 = .ok (.iushr, 1) := by decide +kernel
theorem dX6_append_28 : decode cX6_append 28 = .ok (.i2b, 1) := by decide +kernel
theorem dX6_append_29 : decode cX6_append 29 = .ok (.bastore, 1) := by decide +kernel
theorem dX6_append_30 : decode cX6_append 30 = .ok (.aload_n 0, 1) := by decide +kernel
theorem dX6_append_31 : decode cX6_append 31 = .ok (.dup, 1) := by decide +kernel
theorem dX6_append_32 : decode cX6_append 32 = .ok (.getfield 15, 3) := by decide +kernel
theorem dX6_append_35 : decode cX6_append 35 = .ok (.iconst 1, 1) := by decide +kernel
theorem dX6_append_36 : decode cX6_append 36 = .ok (.iadd, 1) := by decide +kernel
theorem dX6_append_37 : decode cX6_append 37 = .ok (.putfield 15, 3) := by decide +kernel
theorem dX6_append_40 : decode cX6_append 40 = .ok (.iinc 2 (-8), 3) := by decide +kernel
theorem dX6_append_43 : decode cX6_append 43 = .ok (.goto (-40), 3) := by decide +kernel
theorem dX6_append_46 : decode cX6_append 46 = .ok (.return_, 1) := by decide +kernel
theorem dX6_byteAt_0 : decode cX6_byteAt 0 = .ok (.iload_n 1, 1) := by decide +kernel
theorem dX6_byteAt_1 : decode cX6_byteAt 1 = .ok (.ifCond .lt 20, 3) := by decide +kernel
theorem dX6_byteAt_4 : decode cX6_byteAt 4 = .ok (.iload_n 1, 1) := by decide +kernel
theorem dX6_byteAt_5 : decode cX6_byteAt 5 = .ok (.aload_n 0, 1) := by decide +kernel
theorem dX6_byteAt_6 : decode cX6_byteAt 6 = .ok (.getfield 15, 3) := by decide +kernel
theorem dX6_byteAt_9 : decode cX6_byteAt 9 = .ok (.if_icmp .ge 12, 3) := by decide +kernel
theorem dX6_byteAt_12 : decode cX6_byteAt 12 = .ok (.aload_n 0, 1) := by decide +kernel
theorem dX6_byteAt_13 : decode cX6_byteAt 13 = .ok (.getfield 9, 3) := by decide +kernel
theorem dX6_byteAt_16 : decode cX6_byteAt 16 = .ok (.iload_n 1, 1) := by decide +kernel
theorem dX6_byteAt_17 : decode cX6_byteAt 17 = .ok (.baload, 1) := by decide +kernel
theorem dX6_byteAt_18 : decode cX6_byteAt 18 = .ok (.goto 4, 3) := by decide +kernel
theorem dX6_byteAt_21 : decode cX6_byteAt 21 = .ok (.iconst (-1), 1) := by decide +kernel
theorem dX6_byteAt_22 : decode cX6_byteAt 22 = .ok (.ireturn, 1) := by decide +kernel
def f_X6_append_3 : Nat → Int32 → Int32 → St → Option (St)
  | 0, _, _, _ => none
  | n + 1, v1, v2, s =>
    if v2 < 0 then (
      some s)
    else (
      if (900 : Int32) ≤ (s.1 1 1) then (
        some s)
      else (
        Option.bind (pB s 2 (s.1 1 1) (((v1.toUInt32 >>> (v2.toUInt32 &&& Int32.toUInt32 31)).toInt32).toInt8.toInt32)) fun s3 =>
        Option.bind (some (sF s3 1 1 ((s3.1 1 1) + (1 : Int32)))) fun s4 =>
        f_X6_append_3 n v1 (v2 + (-8)) s4))
set_option maxRecDepth 100000 in
set_option maxHeartbeats 4000000 in
theorem w_X6_append_3 {r : St}   : ∀ (n : Nat) (v1 : Int32) (v2 : Int32) (s : St), f_X6_append_3  n v1 v2 s = some r → Wp m_X6_append 0 (PR none r) 3 [some (.ref 1), some (.int v1), some (.int v2)] [] s := by
  intro n
  induction n with
  | zero => intro v1 v2 s h; cases h
  | succ n ih =>
    intro v1 v2 s h
    unfold f_X6_append_3 at h
    refine wp_iload_n (i := 2) dX6_append_3 rfl rfl ?_
    refine wp_if_lt (tgt := 46) dX6_append_4 (by decide) (fun c1 => ?_) (fun c1 => ?_)
    · rw [if_pos c1] at h
      obtain rfl := Option.some.inj h
      exact wp_vret dX6_append_46 rfl
    · rw [if_neg c1] at h
      refine wp_aload_n (i := 0) dX6_append_7 rfl rfl ?_
      refine wp_getI dX6_append_8 fl_X6_15 rfl rfl ?_
      refine wp_sipush (v := 900) dX6_append_11 (by decide +kernel) ?_
      refine wp_icmp_ge (tgt := 46) dX6_append_14 (by decide) (fun c2 => ?_) (fun c2 => ?_)
      · rw [if_pos c2] at h
        obtain rfl := Option.some.inj h
        exact wp_vret dX6_append_46 rfl
      · rw [if_neg c2] at h
        refine wp_aload_n (i := 0) dX6_append_17 rfl rfl ?_
        refine wp_getR (t := 2) dX6_append_18 fl_X6_9 rfl rfl ?_
        refine wp_aload_n (i := 0) dX6_append_21 rfl rfl ?_
        refine wp_getI dX6_append_22 fl_X6_15 rfl rfl ?_
        refine wp_iload_n (i := 1) dX6_append_25 rfl rfl ?_
        refine wp_iload_n (i := 2) dX6_append_26 rfl rfl ?_
        refine wp_iushr dX6_append_27 ?_
        refine wp_i2b dX6_append_28 ?_
        obtain ⟨s3, es3, h⟩ := ob h
        refine wp_pB dX6_append_29 es3 ?_
        refine wp_aload_n (i := 0) dX6_append_30 rfl rfl ?_
        refine wp_dup_r dX6_append_31 ?_
        refine wp_getI dX6_append_32 fl_X6_15 rfl rfl ?_
        refine wp_iconst (v := 1) dX6_append_35 (by decide +kernel) ?_
        refine wp_iadd dX6_append_36 ?_
        obtain ⟨s4, es4, h⟩ := ob h
        refine wp_putI2 dX6_append_37 fl_X6_15 rfl rfl rfl rfl es4 ?_
        refine wp_inc (c := -8) (ls' := [some (.ref 1), some (.int v1), some (.int (v2 + (-8)))]) dX6_append_40 rfl (by decide +kernel) (by decide) rfl rfl ?_
        refine wp_goto (tgt := 3) dX6_append_43 (by decide) ?_
        exact wp_sub (ls' := [some (.ref 1), some (.int v1), some (.int (v2 + (-8)))]) ⟨rfl, rfl, rfl, trivial⟩ (ih _ _ _ h)
def f_X6_append (a1 : Int32) (s : St) : Option (St) :=
  f_X6_append_3 FU a1 (24 : Int32) s
set_option maxRecDepth 100000 in
set_option maxHeartbeats 4000000 in
theorem ok_X6_append {a1 : Int32} {s : St} {r : St} (h : f_X6_append a1 s = some r) : Ct 0 m_X6_append [.ref 1, .int a1] s none r := by
  unfold f_X6_append at h
  refine ct_of [some (.ref 1), some (.int a1), none] 1 (by decide) rfl (Nat.le_of_ble_eq_true rfl) ?_
  refine wp_bipush (v := 24) dX6_append_0 (by decide +kernel) ?_
  refine wp_istore_n (ls' := [some (.ref 1), some (.int a1), some (.int (24 : Int32))]) dX6_append_2 rfl (by decide) rfl rfl ?_
  exact wp_sub (ls' := [some (.ref 1), some (.int a1), some (.int (24 : Int32))]) ⟨rfl, rfl, rfl, trivial⟩ (w_X6_append_3 _ _ _ _ h)
def f_X6_byteAt (a1 : Int32) (s : St) : Option (Int32 × St) :=
  if a1 < 0 then (
    some ((-1 : Int32), s))
  else (
    if (s.1 1 1) ≤ a1 then (
      some ((-1 : Int32), s))
    else (
      Option.bind (aB s 2 a1) fun x3 =>
      some (x3, s)))
set_option maxRecDepth 100000 in
set_option maxHeartbeats 4000000 in
theorem ok_X6_byteAt {a1 : Int32} {s : St} {r : Int32 × St} (h : f_X6_byteAt a1 s = some r) : Ct 0 m_X6_byteAt [.ref 1, .int a1] s (some (.int r.1)) r.2 := by
  unfold f_X6_byteAt at h
  refine ct_of [some (.ref 1), some (.int a1)] 0 (by decide) rfl (Nat.le_of_ble_eq_true rfl) ?_
  refine wp_iload_n (i := 1) dX6_byteAt_0 rfl rfl ?_
  refine wp_if_lt (tgt := 21) dX6_byteAt_1 (by decide) (fun c1 => ?_) (fun c1 => ?_)
  · rw [if_pos c1] at h
    refine wp_iconst (v := -1) dX6_byteAt_21 (by decide +kernel) ?_
    obtain rfl := Option.some.inj h
    exact wp_iret dX6_byteAt_22 rfl rfl
  · rw [if_neg c1] at h
    refine wp_iload_n (i := 1) dX6_byteAt_4 rfl rfl ?_
    refine wp_aload_n (i := 0) dX6_byteAt_5 rfl rfl ?_
    refine wp_getI dX6_byteAt_6 fl_X6_15 rfl rfl ?_
    refine wp_icmp_ge (tgt := 21) dX6_byteAt_9 (by decide) (fun c2 => ?_) (fun c2 => ?_)
    · rw [if_pos c2] at h
      refine wp_iconst (v := -1) dX6_byteAt_21 (by decide +kernel) ?_
      obtain rfl := Option.some.inj h
      exact wp_iret dX6_byteAt_22 rfl rfl
    · rw [if_neg c2] at h
      refine wp_aload_n (i := 0) dX6_byteAt_12 rfl rfl ?_
      refine wp_getR (t := 2) dX6_byteAt_13 fl_X6_9 rfl rfl ?_
      refine wp_iload_n (i := 1) dX6_byteAt_16 rfl rfl ?_
      obtain ⟨x3, ex3, h⟩ := ob h
      refine wp_aB dX6_byteAt_17 ex3 ?_
      refine wp_goto (tgt := 22) dX6_byteAt_18 (by decide) ?_
      obtain rfl := Option.some.inj h
      exact wp_iret dX6_byteAt_22 rfl rfl
