/-! decompiled by wip/gen/gen.py -/
theorem dX1_begin_0 : decode cX1_begin 0 = .ok (.aload_n 0, 1) := by decide +kernel
theorem dX1_begin_1 : decode cX1_begin 1 = .ok (.iconst 0, 1) := by decide +kernel
theorem dX1_begin_2 : decode cX1_begin 2 = .ok (.putfield 21, 3) := by decide +kernel
theorem dX1_begin_5 : decode cX1_begin 5 = .ok (.aload_n 0, 1) := by decide +kernel
theorem dX1_begin_6 : decode cX1_begin 6 = .ok (.iconst 0, 1) := by decide +kernel
theorem dX1_begin_7 : decode cX1_begin 7 = .ok (.putfield 25, 3) := by decide +kernel
theorem dX1_begin_10 : decode cX1_begin 10 = .ok (.aload_n 0, 1) := by decide +kernel
theorem dX1_begin_11 : decode cX1_begin 11 = .ok (.iconst 0, 1) := by decide +kernel
theorem dX1_begin_12 : decode cX1_begin 12 = .ok (.putfield 28, 3) := by decide +kernel
theorem dX1_begin_15 : decode cX1_begin 15 = .ok (.return_, 1) := by decide +kernel
theorem dX1_forgetSolutions_0 : decode cX1_forgetSolutions 0 = .ok (.aload_n 0, 1) := by decide +kernel
theorem dX1_forgetSolutions_1 : decode cX1_forgetSolutions 1 = .ok (.iconst 0, 1) := by decide +kernel
theorem dX1_forgetSolutions_2 : decode cX1_forgetSolutions 2 = .ok (.putfield 21, 3) := by decide +kernel
theorem dX1_forgetSolutions_5 : decode cX1_forgetSolutions 5 = .ok (.return_, 1) := by decide +kernel
theorem dX1_forgetAll_0 : decode cX1_forgetAll 0 = .ok (.aload_n 0, 1) := by decide +kernel
theorem dX1_forgetAll_1 : decode cX1_forgetAll 1 = .ok (.iconst 0, 1) := by decide +kernel
theorem dX1_forgetAll_2 : decode cX1_forgetAll 2 = .ok (.putfield 21, 3) := by decide +kernel
theorem dX1_forgetAll_5 : decode cX1_forgetAll 5 = .ok (.aload_n 0, 1) := by decide +kernel
theorem dX1_forgetAll_6 : decode cX1_forgetAll 6 = .ok (.iconst (-1), 1) := by decide +kernel
theorem dX1_forgetAll_7 : decode cX1_forgetAll 7 = .ok (.putfield 25, 3) := by decide +kernel
theorem dX1_forgetAll_10 : decode cX1_forgetAll 10 = .ok (.return_, 1) := by decide +kernel
theorem dX1_isKept_0 : decode cX1_isKept 0 = .ok (.iload_n 1, 1) := by decide +kernel
theorem dX1_isKept_1 : decode cX1_isKept 1 = .ok (.ifCond .lt 20, 3) := by decide +kernel
theorem dX1_isKept_4 : decode cX1_isKept 4 = .ok (.iload_n 1, 1) := by decide +kernel
theorem dX1_isKept_5 : decode cX1_isKept 5 = .ok (.iconst 2, 1) := by decide +kernel
theorem dX1_isKept_6 : decode cX1_isKept 6 = .ok (.if_icmp .ge 15, 3) := by decide +kernel
theorem dX1_isKept_9 : decode cX1_isKept 9 = .ok (.iload_n 1, 1) := by decide +kernel
theorem dX1_isKept_10 : decode cX1_isKept 10 = .ok (.aload_n 0, 1) := by decide +kernel
theorem dX1_isKept_11 : decode cX1_isKept 11 = .ok (.getfield 21, 3) := by decide +kernel
theorem dX1_isKept_14 : decode cX1_isKept 14 = .ok (.if_icmp .ge 7, 3) := by decide +kernel
theorem dX1_isKept_17 : decode cX1_isKept 17 = .ok (.iconst 1, 1) := by decide +kernel
theorem dX1_isKept_18 : decode cX1_isKept 18 = .ok (.goto 4, 3) := by decide +kernel
theorem dX1_isKept_21 : decode cX1_isKept 21 = .ok (.iconst 0, 1) := by decide +kernel
theorem dX1_isKept_22 : decode cX1_isKept 22 = .ok (.ireturn, 1) := by decide +kernel
theorem dX1_kept_0 : decode cX1_kept 0 = .ok (.iload_n 1, 1) := by decide +kernel
theorem dX1_kept_1 : decode cX1_kept 1 = .ok (.ifCond .ne 10, 3) := by decide +kernel
theorem dX1_kept_4 : decode cX1_kept 4 = .ok (.aload_n 0, 1) := by decide +kernel
theorem dX1_kept_5 : decode cX1_kept 5 = .ok (.getfield 12, 3) := by decide +kernel
theorem dX1_kept_8 : decode cX1_kept 8 = .ok (.goto 7, 3) := by decide +kernel
theorem dX1_kept_11 : decode cX1_kept 11 = .ok (.aload_n 0, 1) := by decide +kernel
theorem dX1_kept_12 : decode cX1_kept 12 = .ok (.getfield 18, 3) := by decide +kernel
theorem dX1_kept_15 : decode cX1_kept 15 = .ok (.areturn, 1) := by decide +kernel
theorem dX1_add_0 : decode cX1_add 0 = .ok (.aload_n 0, 1) := by decide +kernel
theorem dX1_add_1 : decode cX1_add 1 = .ok (.getfield 21, 3) := by decide +kernel
theorem dX1_add_4 : decode cX1_add 4 = .ok (.iconst 2, 1) := by decide +kernel
theorem dX1_add_5 : decode cX1_add 5 = .ok (.if_icmp .ge 69, 3) := by decide +kernel
theorem dX1_add_8 : decode cX1_add 8 = .ok (.aload_n 0, 1) := by decide +kernel
theorem dX1_add_9 : decode cX1_add 9 = .ok (.aload_n 0, 1) := by decide +kernel
theorem dX1_add_10 : decode cX1_add 10 = .ok (.getfield 21, 3) := by decide +kernel
theorem dX1_add_13 : decode cX1_add 13 = .ok (.invokevirtual 32, 3) := by decide +kernel
theorem dX1_add_16 : decode cX1_add 16 = .ok (.astore_n 2, 1) := by decide +kernel
theorem dX1_add_17 : decode cX1_add 17 = .ok (.iconst 0, 1) := by decide +kernel
theorem dX1_add_18 : decode cX1_add 18 = .ok (.istore_n 3, 1) := by decide +kernel
theorem dX1_add_19 : decode cX1_add 19 = .ok (.iload_n 3, 1) := by decide +kernel
theorem dX1_add_20 : decode cX1_add 20 = .ok (.aload_n 1, 1) := by decide +kernel
theorem dX1_add_21 : decode cX1_add 21 = .ok (.getfield 36, 3) := by decide +kernel
theorem dX1_add_24 : decode cX1_add 24 = .ok (.getfield 42, 3) := by decide +kernel
theorem dX1_add_27 : decode cX1_add 27 = .ok (.if_icmp .ge 47, 3) := by decide +kernel
theorem dX1_add_30 : decode cX1_add 30 = .ok (.iconst 0, 1) := by decide +kernel
theorem dX1_add_31 : decode cX1_add 31 = .ok (.istore 4, 2) := by decide +kernel
theorem dX1_add_33 : decode cX1_add 33 = .ok (.iload 4, 2) := by decide +kernel
theorem dX1_add_35 : decode cX1_add 35 = .ok (.aload_n 1, 1) := by decide +kernel
theorem dX1_add_36 : decode cX1_add 36 = .ok (.getfield 36, 3) := by decide +kernel
theorem dX1_add_39 : decode cX1_add 39 = .ok (.getfield 47, 3) := by decide +kernel
theorem dX1_add_42 : decode cX1_add 42 = .ok (.if_icmp .ge 26, 3) := by decide +kernel
theorem dX1_add_45 : decode cX1_add 45 = .ok (.aload_n 2, 1) := by decide +kernel
theorem dX1_add_46 : decode cX1_add 46 = .ok (.iload 4, 2) := by decide +kernel
theorem dX1_add_48 : decode cX1_add 48 = .ok (.iload_n 3, 1) := by decide +kernel
theorem dX1_add_49 : decode cX1_add 49 = .ok (.aload_n 1, 1) := by decide +kernel
theorem dX1_add_50 : decode cX1_add 50 = .ok (.iload 4, 2) := by decide +kernel
theorem dX1_add_52 : decode cX1_add 52 = .ok (.iload_n 3, 1) := by decide +kernel
theorem dX1_add_53 : decode cX1_add 53 = .ok (.invokevirtual 50, 3) := by decide +kernel
theorem dX1_add_56 : decode cX1_add 56 = .ok (.invokestatic 54, 3) := by decide +kernel
theorem dX1_add_59 : decode cX1_add 59 = .ok (.invokevirtual 58, 3) := by decide +kernel
theorem dX1_add_62 : decode cX1_add 62 = .ok (.iinc 4 1, 3) := by decide +kernel
theorem dX1_add_65 : decode cX1_add 65 = .ok (.goto (-32), 3) := by decide +kernel
theorem dX1_add_68 : decode cX1_add 68 = .ok (.iinc 3 1, 3) := by decide +kernel
theorem dX1_add_71 : decode cX1_add 71 = .ok (.goto (-52), 3) := by decide +kernel
theorem dX1_add_74 : decode cX1_add 74 = .ok (.aload_n 0, 1) := by decide +kernel
theorem dX1_add_75 : decode cX1_add 75 = .ok (.dup, 1) := by decide +kernel
theorem dX1_add_76 : decode cX1_add 76 = .ok (.getfield 21, 3) := by decide +kernel
theorem dX1_add_79 : decode cX1_add 79 = .ok (.iconst 1, 1) := by decide +kernel
theorem dX1_add_80 : decode cX1_add 80 = .ok (.iadd, 1) := by decide +kernel
theorem dX1_add_81 : decode cX1_add 81 = .ok (.putfield 21, 3) := by decide +kernel
theorem dX1_add_84 : decode cX1_add 84 = .ok (.return_, 1) := by decide +kernel
def f_X1_begin (g : Nat) (s : St) : Option (St) :=
  if ¬ clO g = 1 then none else
  Option.bind (some (sF s g 2 (0 : Int32))) fun s1 =>
  Option.bind (some (sF s1 g 3 (0 : Int32))) fun s2 =>
  Option.bind (some (sF s2 g 4 (0 : Int32))) fun s3 =>
  some s3
theorem ck_X1_begin {g : Nat} {s : St} {r : St} (h : f_X1_begin g s = some r) : clO g = 1 := by
  unfold f_X1_begin at h
  exact (ifc h).1
set_option maxRecDepth 100000 in
set_option maxHeartbeats 4000000 in
theorem ok_X1_begin {g : Nat} {s : St} {r : St} (h : f_X1_begin g s = some r) : Ct 0 m_X1_begin [.ref g] s none r := by
  unfold f_X1_begin at h
  obtain ⟨hg, h⟩ := ifc h
  refine ct_of [some (.ref g)] 0 (by decide) rfl (Nat.le_of_ble_eq_true rfl) ?_
  refine wp_aload_n (i := 0) dX1_begin_0 rfl rfl ?_
  refine wp_iconst (v := 0) dX1_begin_1 (by decide +kernel) ?_
  obtain ⟨s1, es1, h⟩ := ob h
  refine wp_putI2 dX1_begin_2 fl_X1_21 hg (kr_1_2 _ hg) rfl rfl es1 ?_
  refine wp_aload_n (i := 0) dX1_begin_5 rfl rfl ?_
  refine wp_iconst (v := 0) dX1_begin_6 (by decide +kernel) ?_
  obtain ⟨s2, es2, h⟩ := ob h
  refine wp_putI2 dX1_begin_7 fl_X1_25 hg (kr_1_3 _ hg) rfl rfl es2 ?_
  refine wp_aload_n (i := 0) dX1_begin_10 rfl rfl ?_
  refine wp_iconst (v := 0) dX1_begin_11 (by decide +kernel) ?_
  obtain ⟨s3, es3, h⟩ := ob h
  refine wp_putZ2 dX1_begin_12 fl_X1_28 hg (kr_1_4 _ hg) rfl rfl (Or.inl rfl) es3 ?_
  obtain rfl := Option.some.inj h
  exact wp_vret dX1_begin_15 rfl
def f_X1_forgetSolutions (g : Nat) (s : St) : Option (St) :=
  if ¬ clO g = 1 then none else
  Option.bind (some (sF s g 2 (0 : Int32))) fun s1 =>
  some s1
theorem ck_X1_forgetSolutions {g : Nat} {s : St} {r : St} (h : f_X1_forgetSolutions g s = some r) : clO g = 1 := by
  unfold f_X1_forgetSolutions at h
  exact (ifc h).1
set_option maxRecDepth 100000 in
set_option maxHeartbeats 4000000 in
theorem ok_X1_forgetSolutions {g : Nat} {s : St} {r : St} (h : f_X1_forgetSolutions g s = some r) : Ct 0 m_X1_forgetSolutions [.ref g] s none r := by
  unfold f_X1_forgetSolutions at h
  obtain ⟨hg, h⟩ := ifc h
  refine ct_of [some (.ref g)] 0 (by decide) rfl (Nat.le_of_ble_eq_true rfl) ?_
  refine wp_aload_n (i := 0) dX1_forgetSolutions_0 rfl rfl ?_
  refine wp_iconst (v := 0) dX1_forgetSolutions_1 (by decide +kernel) ?_
  obtain ⟨s1, es1, h⟩ := ob h
  refine wp_putI2 dX1_forgetSolutions_2 fl_X1_21 hg (kr_1_2 _ hg) rfl rfl es1 ?_
  obtain rfl := Option.some.inj h
  exact wp_vret dX1_forgetSolutions_5 rfl
def f_X1_forgetAll (g : Nat) (s : St) : Option (St) :=
  if ¬ clO g = 1 then none else
  Option.bind (some (sF s g 2 (0 : Int32))) fun s1 =>
  Option.bind (some (sF s1 g 3 (-1 : Int32))) fun s2 =>
  some s2
theorem ck_X1_forgetAll {g : Nat} {s : St} {r : St} (h : f_X1_forgetAll g s = some r) : clO g = 1 := by
  unfold f_X1_forgetAll at h
  exact (ifc h).1
set_option maxRecDepth 100000 in
set_option maxHeartbeats 4000000 in
theorem ok_X1_forgetAll {g : Nat} {s : St} {r : St} (h : f_X1_forgetAll g s = some r) : Ct 0 m_X1_forgetAll [.ref g] s none r := by
  unfold f_X1_forgetAll at h
  obtain ⟨hg, h⟩ := ifc h
  refine ct_of [some (.ref g)] 0 (by decide) rfl (Nat.le_of_ble_eq_true rfl) ?_
  refine wp_aload_n (i := 0) dX1_forgetAll_0 rfl rfl ?_
  refine wp_iconst (v := 0) dX1_forgetAll_1 (by decide +kernel) ?_
  obtain ⟨s1, es1, h⟩ := ob h
  refine wp_putI2 dX1_forgetAll_2 fl_X1_21 hg (kr_1_2 _ hg) rfl rfl es1 ?_
  refine wp_aload_n (i := 0) dX1_forgetAll_5 rfl rfl ?_
  refine wp_iconst (v := -1) dX1_forgetAll_6 (by decide +kernel) ?_
  obtain ⟨s2, es2, h⟩ := ob h
  refine wp_putI2 dX1_forgetAll_7 fl_X1_25 hg (kr_1_3 _ hg) rfl rfl es2 ?_
  obtain rfl := Option.some.inj h
  exact wp_vret dX1_forgetAll_10 rfl
def f_X1_isKept (g : Nat) (a1 : Int32) (s : St) : Option (Int32 × St) :=
  if ¬ clO g = 1 then none else
  if a1 < 0 then (
    some ((0 : Int32), s))
  else (
    if (2 : Int32) ≤ a1 then (
      some ((0 : Int32), s))
    else (
      if (s.1 g 2) ≤ a1 then (
        some ((0 : Int32), s))
      else (
        some ((1 : Int32), s))))
theorem ck_X1_isKept {g : Nat} {a1 : Int32} {s : St} {r : Int32 × St} (h : f_X1_isKept g a1 s = some r) : clO g = 1 := by
  unfold f_X1_isKept at h
  exact (ifc h).1
set_option maxRecDepth 100000 in
set_option maxHeartbeats 4000000 in
theorem ok_X1_isKept {g : Nat} {a1 : Int32} {s : St} {r : Int32 × St} (h : f_X1_isKept g a1 s = some r) : Ct 0 m_X1_isKept [.ref g, .int a1] s (some (.int r.1)) r.2 := by
  unfold f_X1_isKept at h
  obtain ⟨hg, h⟩ := ifc h
  refine ct_of [some (.ref g), some (.int a1)] 0 (by decide) rfl (Nat.le_of_ble_eq_true rfl) ?_
  refine wp_iload_n (i := 1) dX1_isKept_0 rfl rfl ?_
  refine wp_if_lt (tgt := 21) dX1_isKept_1 (by decide) (fun c1 => ?_) (fun c1 => ?_)
  · rw [if_pos c1] at h
    refine wp_iconst (v := 0) dX1_isKept_21 (by decide +kernel) ?_
    obtain rfl := Option.some.inj h
    exact wp_iret dX1_isKept_22 rfl (narrow_z (Or.inl rfl)).1
  · rw [if_neg c1] at h
    refine wp_iload_n (i := 1) dX1_isKept_4 rfl rfl ?_
    refine wp_iconst (v := 2) dX1_isKept_5 (by decide +kernel) ?_
    refine wp_icmp_ge (tgt := 21) dX1_isKept_6 (by decide) (fun c2 => ?_) (fun c2 => ?_)
    · rw [if_pos c2] at h
      refine wp_iconst (v := 0) dX1_isKept_21 (by decide +kernel) ?_
      obtain rfl := Option.some.inj h
      exact wp_iret dX1_isKept_22 rfl (narrow_z (Or.inl rfl)).1
    · rw [if_neg c2] at h
      refine wp_iload_n (i := 1) dX1_isKept_9 rfl rfl ?_
      refine wp_aload_n (i := 0) dX1_isKept_10 rfl rfl ?_
      refine wp_getI dX1_isKept_11 fl_X1_21 hg (kr_1_2 _ hg) ?_
      refine wp_icmp_ge (tgt := 21) dX1_isKept_14 (by decide) (fun c3 => ?_) (fun c3 => ?_)
      · rw [if_pos c3] at h
        refine wp_iconst (v := 0) dX1_isKept_21 (by decide +kernel) ?_
        obtain rfl := Option.some.inj h
        exact wp_iret dX1_isKept_22 rfl (narrow_z (Or.inl rfl)).1
      · rw [if_neg c3] at h
        refine wp_iconst (v := 1) dX1_isKept_17 (by decide +kernel) ?_
        refine wp_goto (tgt := 22) dX1_isKept_18 (by decide) ?_
        obtain rfl := Option.some.inj h
        exact wp_iret dX1_isKept_22 rfl (narrow_z (Or.inr rfl)).1
def f_X1_kept (g : Nat) (a1 : Int32) (s : St) : Option (Nat × St) :=
  if ¬ clO g = 1 then none else
  if a1 = 0 then (
    some (rf g 0, s))
  else (
    some (rf g 1, s))
theorem ck_X1_kept {g : Nat} {a1 : Int32} {s : St} {r : Nat × St} (h : f_X1_kept g a1 s = some r) : clO g = 1 := by
  unfold f_X1_kept at h
  exact (ifc h).1
set_option maxRecDepth 100000 in
set_option maxHeartbeats 4000000 in
theorem ok_X1_kept {g : Nat} {a1 : Int32} {s : St} {r : Nat × St} (h : f_X1_kept g a1 s = some r) : Ct 0 m_X1_kept [.ref g, .int a1] s (some (.ref r.1)) r.2 := by
  unfold f_X1_kept at h
  obtain ⟨hg, h⟩ := ifc h
  refine ct_of [some (.ref g), some (.int a1)] 0 (by decide) rfl (Nat.le_of_ble_eq_true rfl) ?_
  refine wp_iload_n (i := 1) dX1_kept_0 rfl rfl ?_
  refine wp_if_ne (tgt := 11) dX1_kept_1 (by decide) (fun c1 => ?_) (fun c1 => ?_)
  · rw [if_neg c1] at h
    refine wp_aload_n (i := 0) dX1_kept_11 rfl rfl ?_
    refine wp_getR (t := rf g 1) dX1_kept_12 fl_X1_18 hg (kr_1_1 _ hg) ?_
    obtain rfl := Option.some.inj h
    exact wp_aret dX1_kept_15 rfl
  · rw [if_pos c1] at h
    refine wp_aload_n (i := 0) dX1_kept_4 rfl rfl ?_
    refine wp_getR (t := rf g 0) dX1_kept_5 fl_X1_12 hg (kr_1_0 _ hg) ?_
    refine wp_goto (tgt := 15) dX1_kept_8 (by decide) ?_
    obtain rfl := Option.some.inj h
    exact wp_aret dX1_kept_15 rfl
def f_X1_add_74 (g : Nat) (a1 : Nat)  (s : St) : Option (St) :=
  Option.bind (some (sF s g 2 ((s.1 g 2) + (1 : Int32)))) fun s1 =>
  some s1
set_option maxRecDepth 100000 in
set_option maxHeartbeats 4000000 in
theorem w_X1_add_74 {r : St} {g : Nat} {a1 : Nat}  (hg : clO g = 1) (ha1 : clO a1 = 4) {s : St} (h : f_X1_add_74 g a1  s = some r) : Wp m_X1_add 2 (PR none r) 74 [some (.ref g), none, none, none, none] [] s := by
  unfold f_X1_add_74 at h
  refine wp_aload_n (i := 0) dX1_add_74 rfl rfl ?_
  refine wp_dup_r dX1_add_75 ?_
  refine wp_getI dX1_add_76 fl_X1_21 hg (kr_1_2 _ hg) ?_
  refine wp_iconst (v := 1) dX1_add_79 (by decide +kernel) ?_
  refine wp_iadd dX1_add_80 ?_
  obtain ⟨s1, es1, h⟩ := ob h
  refine wp_putI2 dX1_add_81 fl_X1_21 hg (kr_1_2 _ hg) rfl rfl es1 ?_
  obtain rfl := Option.some.inj h
  exact wp_vret dX1_add_84 rfl
def f_X1_add_33 (g : Nat) (a1 : Nat) (K19 : Nat → Int32 → St → Option (St)) : Nat → Nat → Int32 → Int32 → St → Option (St)
  | 0, _, _, _, _ => none
  | n + 1, v2, v3, v4, s =>
    if (s.1 3 3) ≤ v4 then (
      K19 v2 (v3 + 1) s)
    else (
      Option.bind (f_X4_valuesAt a1 v4 v3 s) fun r2 =>
      Option.bind (f_X4_leastOf r2.1 r2.2) fun r3 =>
      Option.bind (f_X2_put v2 v4 v3 r3.1 r3.2) fun s4 =>
      f_X1_add_33 g a1 K19 n v2 v3 (v4 + 1) s4)
set_option maxRecDepth 100000 in
set_option maxHeartbeats 4000000 in
theorem w_X1_add_33 {r : St} {g : Nat} {a1 : Nat} {K19 : Nat → Int32 → St → Option (St)} (hK19 : ∀ (v2 : Nat) (v3 : Int32) (s : St), K19 v2 v3 s = some r → Wp m_X1_add 2 (PR none r) 19 [some (.ref g), some (.ref a1), some (.ref v2), some (.int v3), none] [] s)  (hg : clO g = 1) (ha1 : clO a1 = 4) : ∀ (n : Nat) (v2 : Nat) (v3 : Int32) (v4 : Int32) (s : St), f_X1_add_33 g a1 K19 n v2 v3 v4 s = some r → Wp m_X1_add 2 (PR none r) 33 [some (.ref g), some (.ref a1), some (.ref v2), some (.int v3), some (.int v4)] [] s := by
  intro n
  induction n with
  | zero => intro v2 v3 v4 s h; cases h
  | succ n ih =>
    intro v2 v3 v4 s h
    unfold f_X1_add_33 at h
    refine wp_iload dX1_add_33 rfl ?_
    refine wp_aload_n (i := 1) dX1_add_35 rfl rfl ?_
    refine wp_getR (t := 3) dX1_add_36 fl_X1_36 ha1 (kr_4_0 _ ha1) ?_
    refine wp_getI dX1_add_39 fl_X1_47 rfl rfl ?_
    refine wp_icmp_ge (tgt := 68) dX1_add_42 (by decide) (fun c1 => ?_) (fun c1 => ?_)
    · rw [if_pos c1] at h
      refine wp_inc (c := 1) (ls' := [some (.ref g), some (.ref a1), some (.ref v2), some (.int (v3 + 1)), some (.int v4)]) dX1_add_68 rfl (by decide +kernel) (by decide) rfl rfl ?_
      refine wp_goto (tgt := 19) dX1_add_71 (by decide) ?_
      exact wp_sub (ls' := [some (.ref g), some (.ref a1), some (.ref v2), some (.int (v3 + 1)), none]) ⟨rfl, rfl, rfl, rfl, trivial⟩ (hK19 _ _ _ h)
    · rw [if_neg c1] at h
      refine wp_aload_n (i := 2) dX1_add_45 rfl rfl ?_
      refine wp_iload dX1_add_46 rfl ?_
      refine wp_iload_n (i := 3) dX1_add_48 rfl rfl ?_
      refine wp_aload_n (i := 1) dX1_add_49 rfl rfl ?_
      refine wp_iload dX1_add_50 rfl ?_
      refine wp_iload_n (i := 3) dX1_add_52 rfl rfl ?_
      obtain ⟨r2, er2, h⟩ := ob h
      refine wp_cVi (N := m_X4_valuesAt) (As := [.int v4, .int v3]) (rest := [.int v3, .int v4, .ref v2]) dX1_add_53 ml_X1_50 mo_X4_valuesAt vo_X4_valuesAt ha1 rfl (ok_X4_valuesAt er2) (by decide) (Nat.le_of_ble_eq_true rfl) ?_
      obtain ⟨r3, er3, h⟩ := ob h
      refine wp_cSi (N := m_X4_leastOf) (As := [.int r2.1]) (rest := [.int v3, .int v4, .ref v2]) dX1_add_56 ml_X1_54 mo_X4_leastOf vo_X4_leastOf rfl (ok_X4_leastOf er3) (by decide) (Nat.le_of_ble_eq_true rfl) ?_
      obtain ⟨s4, es4, h⟩ := ob h
      refine wp_cVv (N := m_X2_put) (As := [.int v4, .int v3, .int r3.1]) (rest := []) dX1_add_59 ml_X1_58 mo_X2_put vo_X2_put (ck_X2_put es4) rfl (ok_X2_put es4) (by decide) (Nat.le_of_ble_eq_true rfl) ?_
      refine wp_inc (c := 1) (ls' := [some (.ref g), some (.ref a1), some (.ref v2), some (.int v3), some (.int (v4 + 1))]) dX1_add_62 rfl (by decide +kernel) (by decide) rfl rfl ?_
      refine wp_goto (tgt := 33) dX1_add_65 (by decide) ?_
      exact wp_sub (ls' := [some (.ref g), some (.ref a1), some (.ref v2), some (.int v3), some (.int (v4 + 1))]) ⟨rfl, rfl, rfl, rfl, rfl, trivial⟩ (ih _ _ _ _ h)
def f_X1_add_19 (g : Nat) (a1 : Nat) : Nat → Nat → Int32 → St → Option (St)
  | 0, _, _, _ => none
  | n + 1, v2, v3, s =>
    if (s.1 3 4) ≤ v3 then (
      f_X1_add_74 g a1 s)
    else (
      f_X1_add_33 g a1 (f_X1_add_19 g a1 n) FU v2 v3 (0 : Int32) s)
set_option maxRecDepth 100000 in
set_option maxHeartbeats 4000000 in
theorem w_X1_add_19 {r : St} {g : Nat} {a1 : Nat}  (hg : clO g = 1) (ha1 : clO a1 = 4) : ∀ (n : Nat) (v2 : Nat) (v3 : Int32) (s : St), f_X1_add_19 g a1  n v2 v3 s = some r → Wp m_X1_add 2 (PR none r) 19 [some (.ref g), some (.ref a1), some (.ref v2), some (.int v3), none] [] s := by
  intro n
  induction n with
  | zero => intro v2 v3 s h; cases h
  | succ n ih =>
    intro v2 v3 s h
    unfold f_X1_add_19 at h
    refine wp_iload_n (i := 3) dX1_add_19 rfl rfl ?_
    refine wp_aload_n (i := 1) dX1_add_20 rfl rfl ?_
    refine wp_getR (t := 3) dX1_add_21 fl_X1_36 ha1 (kr_4_0 _ ha1) ?_
    refine wp_getI dX1_add_24 fl_X1_42 rfl rfl ?_
    refine wp_icmp_ge (tgt := 74) dX1_add_27 (by decide) (fun c1 => ?_) (fun c1 => ?_)
    · rw [if_pos c1] at h
      exact wp_sub (ls' := [some (.ref g), none, none, none, none]) ⟨rfl, trivial⟩ (w_X1_add_74 hg ha1 h)
    · rw [if_neg c1] at h
      refine wp_iconst (v := 0) dX1_add_30 (by decide +kernel) ?_
      refine wp_istore (ls' := [some (.ref g), some (.ref a1), some (.ref v2), some (.int v3), some (.int (0 : Int32))]) dX1_add_31 (by decide) rfl rfl ?_
      exact wp_sub (ls' := [some (.ref g), some (.ref a1), some (.ref v2), some (.int v3), some (.int (0 : Int32))]) ⟨rfl, rfl, rfl, rfl, rfl, trivial⟩ (w_X1_add_33 ih hg ha1 _ _ _ _ _ h)
def f_X1_add (g : Nat) (a1 : Nat) (s : St) : Option (St) :=
  if ¬ clO g = 1 then none else
  if ¬ clO a1 = 4 then none else
  if (2 : Int32) ≤ (s.1 g 2) then (
    f_X1_add_74 g a1 s)
  else (
    Option.bind (f_X1_kept g (s.1 g 2) s) fun r2 =>
    f_X1_add_19 g a1 FU r2.1 (0 : Int32) r2.2)
theorem ck_X1_add {g : Nat} {a1 : Nat} {s : St} {r : St} (h : f_X1_add g a1 s = some r) : clO g = 1 := by
  unfold f_X1_add at h
  exact (ifc h).1
set_option maxRecDepth 100000 in
set_option maxHeartbeats 4000000 in
theorem ok_X1_add {g : Nat} {a1 : Nat} {s : St} {r : St} (h : f_X1_add g a1 s = some r) : Ct 2 m_X1_add [.ref g, .ref a1] s none r := by
  unfold f_X1_add at h
  obtain ⟨hg, h⟩ := ifc h
  obtain ⟨ha1, h⟩ := ifc h
  refine ct_of [some (.ref g), some (.ref a1), none, none, none] 3 (by decide) rfl (Nat.le_of_ble_eq_true rfl) ?_
  refine wp_aload_n (i := 0) dX1_add_0 rfl rfl ?_
  refine wp_getI dX1_add_1 fl_X1_21 hg (kr_1_2 _ hg) ?_
  refine wp_iconst (v := 2) dX1_add_4 (by decide +kernel) ?_
  refine wp_icmp_ge (tgt := 74) dX1_add_5 (by decide) (fun c1 => ?_) (fun c1 => ?_)
  · rw [if_pos c1] at h
    exact wp_sub (ls' := [some (.ref g), none, none, none, none]) ⟨rfl, trivial⟩ (w_X1_add_74 hg ha1 h)
  · rw [if_neg c1] at h
    refine wp_aload_n (i := 0) dX1_add_8 rfl rfl ?_
    refine wp_aload_n (i := 0) dX1_add_9 rfl rfl ?_
    refine wp_getI dX1_add_10 fl_X1_21 hg (kr_1_2 _ hg) ?_
    obtain ⟨r2, er2, h⟩ := ob h
    refine wp_cVr (N := m_X1_kept) (As := [.int (s.1 g 2)]) (rest := []) dX1_add_13 ml_X1_32 mo_X1_kept vo_X1_kept hg rfl (ok_X1_kept er2) (by decide) (Nat.le_of_ble_eq_true rfl) ?_
    refine wp_astore_n (ls' := [some (.ref g), some (.ref a1), some (.ref r2.1), none, none]) dX1_add_16 rfl (by decide) rfl rfl ?_
    refine wp_iconst (v := 0) dX1_add_17 (by decide +kernel) ?_
    refine wp_istore_n (ls' := [some (.ref g), some (.ref a1), some (.ref r2.1), some (.int (0 : Int32)), none]) dX1_add_18 rfl (by decide) rfl rfl ?_
    exact wp_sub (ls' := [some (.ref g), some (.ref a1), some (.ref r2.1), some (.int (0 : Int32)), none]) ⟨rfl, rfl, rfl, rfl, trivial⟩ (w_X1_add_19 hg ha1 _ _ _ _ h)
