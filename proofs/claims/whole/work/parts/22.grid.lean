/-! decompiled by wip/gen/gen.py -/
theorem dX2_at_0 : decode cX2_at 0 = .ok (.aload_n 0, 1) := by decide +kernel
theorem dX2_at_1 : decode cX2_at 1 = .ok (.getfield 9, 3) := by decide +kernel
theorem dX2_at_4 : decode cX2_at 4 = .ok (.bipush 12, 2) := by decide +kernel
theorem dX2_at_6 : decode cX2_at 6 = .ok (.iload_n 2, 1) := by decide +kernel
theorem dX2_at_7 : decode cX2_at 7 = .ok (.imul, 1) := by decide +kernel
theorem dX2_at_8 : decode cX2_at 8 = .ok (.iload_n 1, 1) := by decide +kernel
theorem dX2_at_9 : decode cX2_at 9 = .ok (.iadd, 1) := by decide +kernel
theorem dX2_at_10 : decode cX2_at 10 = .ok (.iaload, 1) := by decide +kernel
theorem dX2_at_11 : decode cX2_at 11 = .ok (.ireturn, 1) := by decide +kernel
theorem dX2_valueAt_0 : decode cX2_valueAt 0 = .ok (.iconst 0, 1) := by decide +kernel
theorem dX2_valueAt_1 : decode cX2_valueAt 1 = .ok (.aload_n 0, 1) := by decide +kernel
theorem dX2_valueAt_2 : decode cX2_valueAt 2 = .ok (.iload_n 1, 1) := by decide +kernel
theorem dX2_valueAt_3 : decode cX2_valueAt 3 = .ok (.iload_n 2, 1) := by decide +kernel
theorem dX2_valueAt_4 : decode cX2_valueAt 4 = .ok (.invokevirtual 25, 3) := by decide +kernel
theorem dX2_valueAt_7 : decode cX2_valueAt 7 = .ok (.invokestatic 29, 3) := by decide +kernel
theorem dX2_valueAt_10 : decode cX2_valueAt 10 = .ok (.ireturn, 1) := by decide +kernel
theorem dX2_put_0 : decode cX2_put 0 = .ok (.aload_n 0, 1) := by decide +kernel
theorem dX2_put_1 : decode cX2_put 1 = .ok (.iload_n 1, 1) := by decide +kernel
theorem dX2_put_2 : decode cX2_put 2 = .ok (.iload_n 2, 1) := by decide +kernel
theorem dX2_put_3 : decode cX2_put 3 = .ok (.invokevirtual 25, 3) := by decide +kernel
theorem dX2_put_6 : decode cX2_put 6 = .ok (.iconst (-1), 1) := by decide +kernel
theorem dX2_put_7 : decode cX2_put 7 = .ok (.if_icmp .eq 13, 3) := by decide +kernel
theorem dX2_put_10 : decode cX2_put 10 = .ok (.aload_n 0, 1) := by decide +kernel
theorem dX2_put_11 : decode cX2_put 11 = .ok (.dup, 1) := by decide +kernel
theorem dX2_put_12 : decode cX2_put 12 = .ok (.getfield 15, 3) := by decide +kernel
theorem dX2_put_15 : decode cX2_put 15 = .ok (.iconst 1, 1) := by decide +kernel
theorem dX2_put_16 : decode cX2_put 16 = .ok (.isub, 1) := by decide +kernel
theorem dX2_put_17 : decode cX2_put 17 = .ok (.putfield 15, 3) := by decide +kernel
theorem dX2_put_20 : decode cX2_put 20 = .ok (.iload_n 3, 1) := by decide +kernel
theorem dX2_put_21 : decode cX2_put 21 = .ok (.iconst (-1), 1) := by decide +kernel
theorem dX2_put_22 : decode cX2_put 22 = .ok (.if_icmp .eq 13, 3) := by decide +kernel
theorem dX2_put_25 : decode cX2_put 25 = .ok (.aload_n 0, 1) := by decide +kernel
theorem dX2_put_26 : decode cX2_put 26 = .ok (.dup, 1) := by decide +kernel
theorem dX2_put_27 : decode cX2_put 27 = .ok (.getfield 15, 3) := by decide +kernel
theorem dX2_put_30 : decode cX2_put 30 = .ok (.iconst 1, 1) := by decide +kernel
theorem dX2_put_31 : decode cX2_put 31 = .ok (.iadd, 1) := by decide +kernel
theorem dX2_put_32 : decode cX2_put 32 = .ok (.putfield 15, 3) := by decide +kernel
theorem dX2_put_35 : decode cX2_put 35 = .ok (.aload_n 0, 1) := by decide +kernel
theorem dX2_put_36 : decode cX2_put 36 = .ok (.getfield 9, 3) := by decide +kernel
theorem dX2_put_39 : decode cX2_put 39 = .ok (.bipush 12, 2) := by decide +kernel
theorem dX2_put_41 : decode cX2_put 41 = .ok (.iload_n 2, 1) := by decide +kernel
theorem dX2_put_42 : decode cX2_put 42 = .ok (.imul, 1) := by decide +kernel
theorem dX2_put_43 : decode cX2_put 43 = .ok (.iload_n 1, 1) := by decide +kernel
theorem dX2_put_44 : decode cX2_put 44 = .ok (.iadd, 1) := by decide +kernel
theorem dX2_put_45 : decode cX2_put 45 = .ok (.iload_n 3, 1) := by decide +kernel
theorem dX2_put_46 : decode cX2_put 46 = .ok (.iastore, 1) := by decide +kernel
theorem dX2_put_47 : decode cX2_put 47 = .ok (.return_, 1) := by decide +kernel
theorem dX2_clear_0 : decode cX2_clear 0 = .ok (.aload_n 0, 1) := by decide +kernel
theorem dX2_clear_1 : decode cX2_clear 1 = .ok (.getfield 9, 3) := by decide +kernel
theorem dX2_clear_4 : decode cX2_clear 4 = .ok (.iconst (-1), 1) := by decide +kernel
theorem dX2_clear_5 : decode cX2_clear 5 = .ok (.invokestatic 19, 3) := by decide +kernel
theorem dX2_clear_8 : decode cX2_clear 8 = .ok (.aload_n 0, 1) := by decide +kernel
theorem dX2_clear_9 : decode cX2_clear 9 = .ok (.iconst 0, 1) := by decide +kernel
theorem dX2_clear_10 : decode cX2_clear 10 = .ok (.putfield 15, 3) := by decide +kernel
theorem dX2_clear_13 : decode cX2_clear 13 = .ok (.return_, 1) := by decide +kernel
def f_X2_at (g : Nat) (a1 : Int32) (a2 : Int32) (s : St) : Option (Int32 × St) :=
  if ¬ clO g = 2 then none else
  Option.bind (aI s (rf g 0) (((12 : Int32) * a2) + a1)) fun x1 =>
  some (x1, s)
theorem ck_X2_at {g : Nat} {a1 : Int32} {a2 : Int32} {s : St} {r : Int32 × St} (h : f_X2_at g a1 a2 s = some r) : clO g = 2 := by
  unfold f_X2_at at h
  exact (ifc h).1
set_option maxRecDepth 100000 in
set_option maxHeartbeats 4000000 in
theorem ok_X2_at {g : Nat} {a1 : Int32} {a2 : Int32} {s : St} {r : Int32 × St} (h : f_X2_at g a1 a2 s = some r) : Ct 0 m_X2_at [.ref g, .int a1, .int a2] s (some (.int r.1)) r.2 := by
  unfold f_X2_at at h
  obtain ⟨hg, h⟩ := ifc h
  refine ct_of [some (.ref g), some (.int a1), some (.int a2)] 0 (by decide) rfl (Nat.le_of_ble_eq_true rfl) ?_
  refine wp_aload_n (i := 0) dX2_at_0 rfl rfl ?_
  refine wp_getR (t := rf g 0) dX2_at_1 fl_X2_9 hg (kr_2_0 _ hg) ?_
  refine wp_bipush (v := 12) dX2_at_4 (by decide +kernel) ?_
  refine wp_iload_n (i := 2) dX2_at_6 rfl rfl ?_
  refine wp_imul dX2_at_7 ?_
  refine wp_iload_n (i := 1) dX2_at_8 rfl rfl ?_
  refine wp_iadd dX2_at_9 ?_
  obtain ⟨x1, ex1, h⟩ := ob h
  refine wp_aI dX2_at_10 ex1 ?_
  obtain rfl := Option.some.inj h
  exact wp_iret dX2_at_11 rfl rfl
def f_X2_valueAt (g : Nat) (a1 : Int32) (a2 : Int32) (s : St) : Option (Int32 × St) :=
  if ¬ clO g = 2 then none else
  Option.bind (f_X2_at g a1 a2 s) fun r1 =>
  some (mxI (0 : Int32) r1.1, r1.2)
theorem ck_X2_valueAt {g : Nat} {a1 : Int32} {a2 : Int32} {s : St} {r : Int32 × St} (h : f_X2_valueAt g a1 a2 s = some r) : clO g = 2 := by
  unfold f_X2_valueAt at h
  exact (ifc h).1
set_option maxRecDepth 100000 in
set_option maxHeartbeats 4000000 in
theorem ok_X2_valueAt {g : Nat} {a1 : Int32} {a2 : Int32} {s : St} {r : Int32 × St} (h : f_X2_valueAt g a1 a2 s = some r) : Ct 1 m_X2_valueAt [.ref g, .int a1, .int a2] s (some (.int r.1)) r.2 := by
  unfold f_X2_valueAt at h
  obtain ⟨hg, h⟩ := ifc h
  refine ct_of [some (.ref g), some (.int a1), some (.int a2)] 0 (by decide) rfl (Nat.le_of_ble_eq_true rfl) ?_
  refine wp_iconst (v := 0) dX2_valueAt_0 (by decide +kernel) ?_
  refine wp_aload_n (i := 0) dX2_valueAt_1 rfl rfl ?_
  refine wp_iload_n (i := 1) dX2_valueAt_2 rfl rfl ?_
  refine wp_iload_n (i := 2) dX2_valueAt_3 rfl rfl ?_
  obtain ⟨r1, er1, h⟩ := ob h
  refine wp_cVi (N := m_X2_at) (As := [.int a1, .int a2]) (rest := [.int (0 : Int32)]) dX2_valueAt_4 ml_X2_25 mo_X2_at vo_X2_at hg rfl (ok_X2_at er1) (by decide) (Nat.le_of_ble_eq_true rfl) ?_
  refine wp_mmax dX2_valueAt_7 ml_X2_29 (by decide) (Nat.le_of_ble_eq_true rfl) ?_
  obtain rfl := Option.some.inj h
  exact wp_iret dX2_valueAt_10 rfl rfl
def f_X2_put_35 (g : Nat) (v1 : Int32) (v2 : Int32) (v3 : Int32) (s : St) : Option (St) :=
  Option.bind (pI s (rf g 0) (((12 : Int32) * v2) + v1) v3) fun s1 =>
  some s1
set_option maxRecDepth 100000 in
set_option maxHeartbeats 4000000 in
theorem w_X2_put_35 {r : St} {g : Nat} {v1 : Int32} {v2 : Int32} {v3 : Int32} (hg : clO g = 2) {s : St} (h : f_X2_put_35 g  v1 v2 v3 s = some r) : Wp m_X2_put 1 (PR none r) 35 [some (.ref g), some (.int v1), some (.int v2), some (.int v3)] [] s := by
  unfold f_X2_put_35 at h
  refine wp_aload_n (i := 0) dX2_put_35 rfl rfl ?_
  refine wp_getR (t := rf g 0) dX2_put_36 fl_X2_9 hg (kr_2_0 _ hg) ?_
  refine wp_bipush (v := 12) dX2_put_39 (by decide +kernel) ?_
  refine wp_iload_n (i := 2) dX2_put_41 rfl rfl ?_
  refine wp_imul dX2_put_42 ?_
  refine wp_iload_n (i := 1) dX2_put_43 rfl rfl ?_
  refine wp_iadd dX2_put_44 ?_
  refine wp_iload_n (i := 3) dX2_put_45 rfl rfl ?_
  obtain ⟨s1, es1, h⟩ := ob h
  refine wp_pI dX2_put_46 es1 ?_
  obtain rfl := Option.some.inj h
  exact wp_vret dX2_put_47 rfl
def f_X2_put_20 (g : Nat) (v1 : Int32) (v2 : Int32) (v3 : Int32) (s : St) : Option (St) :=
  if v3 = (-1 : Int32) then (
    f_X2_put_35 g v1 v2 v3 s)
  else (
    Option.bind (some (sF s g 1 ((s.1 g 1) + (1 : Int32)))) fun s2 =>
    f_X2_put_35 g v1 v2 v3 s2)
set_option maxRecDepth 100000 in
set_option maxHeartbeats 4000000 in
theorem w_X2_put_20 {r : St} {g : Nat} {v1 : Int32} {v2 : Int32} {v3 : Int32} (hg : clO g = 2) {s : St} (h : f_X2_put_20 g  v1 v2 v3 s = some r) : Wp m_X2_put 1 (PR none r) 20 [some (.ref g), some (.int v1), some (.int v2), some (.int v3)] [] s := by
  unfold f_X2_put_20 at h
  refine wp_iload_n (i := 3) dX2_put_20 rfl rfl ?_
  refine wp_iconst (v := -1) dX2_put_21 (by decide +kernel) ?_
  refine wp_icmp_eq (tgt := 35) dX2_put_22 (by decide) (fun c1 => ?_) (fun c1 => ?_)
  · rw [if_pos c1] at h
    exact wp_sub (ls' := [some (.ref g), some (.int v1), some (.int v2), some (.int v3)]) ⟨rfl, rfl, rfl, rfl, trivial⟩ (w_X2_put_35 hg h)
  · rw [if_neg c1] at h
    refine wp_aload_n (i := 0) dX2_put_25 rfl rfl ?_
    refine wp_dup_r dX2_put_26 ?_
    refine wp_getI dX2_put_27 fl_X2_15 hg (kr_2_1 _ hg) ?_
    refine wp_iconst (v := 1) dX2_put_30 (by decide +kernel) ?_
    refine wp_iadd dX2_put_31 ?_
    obtain ⟨s2, es2, h⟩ := ob h
    refine wp_putI2 dX2_put_32 fl_X2_15 hg (kr_2_1 _ hg) rfl rfl es2 ?_
    exact wp_sub (ls' := [some (.ref g), some (.int v1), some (.int v2), some (.int v3)]) ⟨rfl, rfl, rfl, rfl, trivial⟩ (w_X2_put_35 hg h)
def f_X2_put (g : Nat) (a1 : Int32) (a2 : Int32) (a3 : Int32) (s : St) : Option (St) :=
  if ¬ clO g = 2 then none else
  Option.bind (f_X2_at g a1 a2 s) fun r1 =>
  if r1.1 = (-1 : Int32) then (
    f_X2_put_20 g a1 a2 a3 r1.2)
  else (
    Option.bind (some (sF r1.2 g 1 ((r1.2.1 g 1) - (1 : Int32)))) fun s3 =>
    f_X2_put_20 g a1 a2 a3 s3)
theorem ck_X2_put {g : Nat} {a1 : Int32} {a2 : Int32} {a3 : Int32} {s : St} {r : St} (h : f_X2_put g a1 a2 a3 s = some r) : clO g = 2 := by
  unfold f_X2_put at h
  exact (ifc h).1
set_option maxRecDepth 100000 in
set_option maxHeartbeats 4000000 in
theorem ok_X2_put {g : Nat} {a1 : Int32} {a2 : Int32} {a3 : Int32} {s : St} {r : St} (h : f_X2_put g a1 a2 a3 s = some r) : Ct 1 m_X2_put [.ref g, .int a1, .int a2, .int a3] s none r := by
  unfold f_X2_put at h
  obtain ⟨hg, h⟩ := ifc h
  refine ct_of [some (.ref g), some (.int a1), some (.int a2), some (.int a3)] 0 (by decide) rfl (Nat.le_of_ble_eq_true rfl) ?_
  refine wp_aload_n (i := 0) dX2_put_0 rfl rfl ?_
  refine wp_iload_n (i := 1) dX2_put_1 rfl rfl ?_
  refine wp_iload_n (i := 2) dX2_put_2 rfl rfl ?_
  obtain ⟨r1, er1, h⟩ := ob h
  refine wp_cVi (N := m_X2_at) (As := [.int a1, .int a2]) (rest := []) dX2_put_3 ml_X2_25 mo_X2_at vo_X2_at hg rfl (ok_X2_at er1) (by decide) (Nat.le_of_ble_eq_true rfl) ?_
  refine wp_iconst (v := -1) dX2_put_6 (by decide +kernel) ?_
  refine wp_icmp_eq (tgt := 20) dX2_put_7 (by decide) (fun c2 => ?_) (fun c2 => ?_)
  · rw [if_pos c2] at h
    exact wp_sub (ls' := [some (.ref g), some (.int a1), some (.int a2), some (.int a3)]) ⟨rfl, rfl, rfl, rfl, trivial⟩ (w_X2_put_20 hg h)
  · rw [if_neg c2] at h
    refine wp_aload_n (i := 0) dX2_put_10 rfl rfl ?_
    refine wp_dup_r dX2_put_11 ?_
    refine wp_getI dX2_put_12 fl_X2_15 hg (kr_2_1 _ hg) ?_
    refine wp_iconst (v := 1) dX2_put_15 (by decide +kernel) ?_
    refine wp_isub dX2_put_16 ?_
    obtain ⟨s3, es3, h⟩ := ob h
    refine wp_putI2 dX2_put_17 fl_X2_15 hg (kr_2_1 _ hg) rfl rfl es3 ?_
    exact wp_sub (ls' := [some (.ref g), some (.int a1), some (.int a2), some (.int a3)]) ⟨rfl, rfl, rfl, rfl, trivial⟩ (w_X2_put_20 hg h)
def f_X2_clear (g : Nat) (s : St) : Option (St) :=
  if ¬ clO g = 2 then none else
  Option.bind (f_J7_fill_53178 (rf g 0) (-1 : Int32) s) fun s1 =>
  Option.bind (some (sF s1 g 1 (0 : Int32))) fun s2 =>
  some s2
theorem ck_X2_clear {g : Nat} {s : St} {r : St} (h : f_X2_clear g s = some r) : clO g = 2 := by
  unfold f_X2_clear at h
  exact (ifc h).1
set_option maxRecDepth 100000 in
set_option maxHeartbeats 4000000 in
theorem ok_X2_clear {g : Nat} {s : St} {r : St} (h : f_X2_clear g s = some r) : Ct 1 m_X2_clear [.ref g] s none r := by
  unfold f_X2_clear at h
  obtain ⟨hg, h⟩ := ifc h
  refine ct_of [some (.ref g)] 0 (by decide) rfl (Nat.le_of_ble_eq_true rfl) ?_
  refine wp_aload_n (i := 0) dX2_clear_0 rfl rfl ?_
  refine wp_getR (t := rf g 0) dX2_clear_1 fl_X2_9 hg (kr_2_0 _ hg) ?_
  refine wp_iconst (v := -1) dX2_clear_4 (by decide +kernel) ?_
  obtain ⟨s1, es1, h⟩ := ob h
  refine wp_cSv (N := m_J7_fill_53178) (As := [.ref (rf g 0), .int (-1 : Int32)]) (rest := []) dX2_clear_5 ml_X2_19 mo_J7_fill_53178 vo_J7_fill_53178 rfl (ok_J7_fill_53178 es1) (by decide) (Nat.le_of_ble_eq_true rfl) ?_
  refine wp_aload_n (i := 0) dX2_clear_8 rfl rfl ?_
  refine wp_iconst (v := 0) dX2_clear_9 (by decide +kernel) ?_
  obtain ⟨s2, es2, h⟩ := ob h
  refine wp_putI2 dX2_clear_10 fl_X2_15 hg (kr_2_1 _ hg) rfl rfl es2 ?_
  obtain rfl := Option.some.inj h
  exact wp_vret dX2_clear_13 rfl
