/-! a row an instruction (written by wip/gen/rows.py) -/
theorem wp_iadd {M : MD} {d : Nat} {P : Am → Prop} {pc : Nat} {ls : List (Option Value)} {st : List Value} {σ : St} {x y : Int32} (hd : decode M.2.1 pc = .ok (.iadd, 1)) (k : Wp M d P (pc + 1) ls (.int (x + y) :: st) σ) : Wp M d P pc ls (.int y :: .int x :: st) σ :=
  fun a X hP H locs lsA hW hS hl => lv_iadd X.1 X.2.1 hd (k a X hP H locs lsA hW hS hl)
theorem wp_isub {M : MD} {d : Nat} {P : Am → Prop} {pc : Nat} {ls : List (Option Value)} {st : List Value} {σ : St} {x y : Int32} (hd : decode M.2.1 pc = .ok (.isub, 1)) (k : Wp M d P (pc + 1) ls (.int (x - y) :: st) σ) : Wp M d P pc ls (.int y :: .int x :: st) σ :=
  fun a X hP H locs lsA hW hS hl => lv_isub X.1 X.2.1 hd (k a X hP H locs lsA hW hS hl)
theorem wp_imul {M : MD} {d : Nat} {P : Am → Prop} {pc : Nat} {ls : List (Option Value)} {st : List Value} {σ : St} {x y : Int32} (hd : decode M.2.1 pc = .ok (.imul, 1)) (k : Wp M d P (pc + 1) ls (.int (x * y) :: st) σ) : Wp M d P pc ls (.int y :: .int x :: st) σ :=
  fun a X hP H locs lsA hW hS hl => lv_imul X.1 X.2.1 hd (k a X hP H locs lsA hW hS hl)
theorem wp_iand {M : MD} {d : Nat} {P : Am → Prop} {pc : Nat} {ls : List (Option Value)} {st : List Value} {σ : St} {x y : Int32} (hd : decode M.2.1 pc = .ok (.iand, 1)) (k : Wp M d P (pc + 1) ls (.int (x &&& y) :: st) σ) : Wp M d P pc ls (.int y :: .int x :: st) σ :=
  fun a X hP H locs lsA hW hS hl => lv_iand X.1 X.2.1 hd (k a X hP H locs lsA hW hS hl)
theorem wp_ior {M : MD} {d : Nat} {P : Am → Prop} {pc : Nat} {ls : List (Option Value)} {st : List Value} {σ : St} {x y : Int32} (hd : decode M.2.1 pc = .ok (.ior, 1)) (k : Wp M d P (pc + 1) ls (.int (x ||| y) :: st) σ) : Wp M d P pc ls (.int y :: .int x :: st) σ :=
  fun a X hP H locs lsA hW hS hl => lv_ior X.1 X.2.1 hd (k a X hP H locs lsA hW hS hl)
theorem wp_ixor {M : MD} {d : Nat} {P : Am → Prop} {pc : Nat} {ls : List (Option Value)} {st : List Value} {σ : St} {x y : Int32} (hd : decode M.2.1 pc = .ok (.ixor, 1)) (k : Wp M d P (pc + 1) ls (.int (x ^^^ y) :: st) σ) : Wp M d P pc ls (.int y :: .int x :: st) σ :=
  fun a X hP H locs lsA hW hS hl => lv_ixor X.1 X.2.1 hd (k a X hP H locs lsA hW hS hl)
theorem wp_ishl {M : MD} {d : Nat} {P : Am → Prop} {pc : Nat} {ls : List (Option Value)} {st : List Value} {σ : St} {x y : Int32} (hd : decode M.2.1 pc = .ok (.ishl, 1)) (k : Wp M d P (pc + 1) ls (.int (x <<< (y &&& 31)) :: st) σ) : Wp M d P pc ls (.int y :: .int x :: st) σ :=
  fun a X hP H locs lsA hW hS hl => lv_ishl X.1 X.2.1 hd (k a X hP H locs lsA hW hS hl)
theorem wp_ishr {M : MD} {d : Nat} {P : Am → Prop} {pc : Nat} {ls : List (Option Value)} {st : List Value} {σ : St} {x y : Int32} (hd : decode M.2.1 pc = .ok (.ishr, 1)) (k : Wp M d P (pc + 1) ls (.int (x >>> (y &&& 31)) :: st) σ) : Wp M d P pc ls (.int y :: .int x :: st) σ :=
  fun a X hP H locs lsA hW hS hl => lv_ishr X.1 X.2.1 hd (k a X hP H locs lsA hW hS hl)
theorem wp_iushr {M : MD} {d : Nat} {P : Am → Prop} {pc : Nat} {ls : List (Option Value)} {st : List Value} {σ : St} {x y : Int32} (hd : decode M.2.1 pc = .ok (.iushr, 1)) (k : Wp M d P (pc + 1) ls (.int ((x.toUInt32 >>> (y.toUInt32 &&& Int32.toUInt32 31)).toInt32) :: st) σ) : Wp M d P pc ls (.int y :: .int x :: st) σ :=
  fun a X hP H locs lsA hW hS hl => lv_iushr X.1 X.2.1 hd rfl (k a X hP H locs lsA hW hS hl)
theorem wp_idiv {M : MD} {d : Nat} {P : Am → Prop} {pc : Nat} {ls : List (Option Value)} {st : List Value} {σ : St} {x y : Int32} (hd : decode M.2.1 pc = .ok (.idiv, 1)) (hn : ¬ y = 0) (k : Wp M d P (pc + 1) ls (.int (x / y) :: st) σ) : Wp M d P pc ls (.int y :: .int x :: st) σ :=
  fun a X hP H locs lsA hW hS hl => lv_idiv X.1 X.2.1 hd hn (k a X hP H locs lsA hW hS hl)
theorem wp_irem {M : MD} {d : Nat} {P : Am → Prop} {pc : Nat} {ls : List (Option Value)} {st : List Value} {σ : St} {x y : Int32} (hd : decode M.2.1 pc = .ok (.irem, 1)) (hn : ¬ y = 0) (k : Wp M d P (pc + 1) ls (.int (x - x / y * y) :: st) σ) : Wp M d P pc ls (.int y :: .int x :: st) σ :=
  fun a X hP H locs lsA hW hS hl => lv_irem X.1 X.2.1 hd hn (k a X hP H locs lsA hW hS hl)
theorem wp_ineg {M : MD} {d : Nat} {P : Am → Prop} {pc : Nat} {ls : List (Option Value)} {st : List Value} {σ : St} {x : Int32} (hd : decode M.2.1 pc = .ok (.ineg, 1)) (k : Wp M d P (pc + 1) ls (.int (-x) :: st) σ) : Wp M d P pc ls (.int x :: st) σ :=
  fun a X hP H locs lsA hW hS hl => lv_ineg X.1 X.2.1 hd (k a X hP H locs lsA hW hS hl)
theorem wp_ladd {M : MD} {d : Nat} {P : Am → Prop} {pc : Nat} {ls : List (Option Value)} {st : List Value} {σ : St} {x y : Int64} (hd : decode M.2.1 pc = .ok (.ladd, 1)) (k : Wp M d P (pc + 1) ls (.long (x + y) :: st) σ) : Wp M d P pc ls (.long y :: .long x :: st) σ :=
  fun a X hP H locs lsA hW hS hl => lv_ladd X.1 X.2.1 hd (k a X hP H locs lsA hW hS hl)
theorem wp_lsub {M : MD} {d : Nat} {P : Am → Prop} {pc : Nat} {ls : List (Option Value)} {st : List Value} {σ : St} {x y : Int64} (hd : decode M.2.1 pc = .ok (.lsub, 1)) (k : Wp M d P (pc + 1) ls (.long (x - y) :: st) σ) : Wp M d P pc ls (.long y :: .long x :: st) σ :=
  fun a X hP H locs lsA hW hS hl => lv_lsub X.1 X.2.1 hd (k a X hP H locs lsA hW hS hl)
theorem wp_land {M : MD} {d : Nat} {P : Am → Prop} {pc : Nat} {ls : List (Option Value)} {st : List Value} {σ : St} {x y : Int64} (hd : decode M.2.1 pc = .ok (.land, 1)) (k : Wp M d P (pc + 1) ls (.long (x &&& y) :: st) σ) : Wp M d P pc ls (.long y :: .long x :: st) σ :=
  fun a X hP H locs lsA hW hS hl => lv_land X.1 X.2.1 hd (k a X hP H locs lsA hW hS hl)
theorem wp_lor {M : MD} {d : Nat} {P : Am → Prop} {pc : Nat} {ls : List (Option Value)} {st : List Value} {σ : St} {x y : Int64} (hd : decode M.2.1 pc = .ok (.lor, 1)) (k : Wp M d P (pc + 1) ls (.long (x ||| y) :: st) σ) : Wp M d P pc ls (.long y :: .long x :: st) σ :=
  fun a X hP H locs lsA hW hS hl => lv_lor X.1 X.2.1 hd (k a X hP H locs lsA hW hS hl)
theorem wp_lxor {M : MD} {d : Nat} {P : Am → Prop} {pc : Nat} {ls : List (Option Value)} {st : List Value} {σ : St} {x y : Int64} (hd : decode M.2.1 pc = .ok (.lxor, 1)) (k : Wp M d P (pc + 1) ls (.long (x ^^^ y) :: st) σ) : Wp M d P pc ls (.long y :: .long x :: st) σ :=
  fun a X hP H locs lsA hW hS hl => lv_lxor X.1 X.2.1 hd (k a X hP H locs lsA hW hS hl)
theorem wp_lushr {M : MD} {d : Nat} {P : Am → Prop} {pc : Nat} {ls : List (Option Value)} {st : List Value} {σ : St} {x : Int64} {y : Int32} (hd : decode M.2.1 pc = .ok (.lushr, 1)) (k : Wp M d P (pc + 1) ls (.long ((x.toUInt64 >>> (y.toInt64.toUInt64 &&& Int64.toUInt64 63)).toInt64) :: st) σ) : Wp M d P pc ls (.int y :: .long x :: st) σ :=
  fun a X hP H locs lsA hW hS hl => lv_lushr X.1 X.2.1 hd rfl (k a X hP H locs lsA hW hS hl)
theorem wp_lshl {M : MD} {d : Nat} {P : Am → Prop} {pc : Nat} {ls : List (Option Value)} {st : List Value} {σ : St} {x : Int64} {y : Int32} (hd : decode M.2.1 pc = .ok (.lshl, 1)) (k : Wp M d P (pc + 1) ls (.long (x <<< (y.toInt64 &&& 63)) :: st) σ) : Wp M d P pc ls (.int y :: .long x :: st) σ :=
  fun a X hP H locs lsA hW hS hl => lv_lshl X.1 X.2.1 hd rfl (k a X hP H locs lsA hW hS hl)
theorem wp_lcmp {M : MD} {d : Nat} {P : Am → Prop} {pc : Nat} {ls : List (Option Value)} {st : List Value} {σ : St} {x y : Int64} (hd : decode M.2.1 pc = .ok (.lcmp, 1)) (k : Wp M d P (pc + 1) ls (.int (lg_cmp x y) :: st) σ) : Wp M d P pc ls (.long y :: .long x :: st) σ :=
  fun a X hP H locs lsA hW hS hl => W.lcmp X.1 X.2.1 hd (k a X hP H locs lsA hW hS hl)
theorem wp_i2l {M : MD} {d : Nat} {P : Am → Prop} {pc : Nat} {ls : List (Option Value)} {st : List Value} {σ : St} {x : Int32} (hd : decode M.2.1 pc = .ok (.i2l, 1)) (k : Wp M d P (pc + 1) ls (.long x.toInt64 :: st) σ) : Wp M d P pc ls (.int x :: st) σ :=
  fun a X hP H locs lsA hW hS hl => lv_i2l X.1 X.2.1 hd rfl (k a X hP H locs lsA hW hS hl)
theorem wp_l2i {M : MD} {d : Nat} {P : Am → Prop} {pc : Nat} {ls : List (Option Value)} {st : List Value} {σ : St} {x : Int64} (hd : decode M.2.1 pc = .ok (.l2i, 1)) (k : Wp M d P (pc + 1) ls (.int x.toInt32 :: st) σ) : Wp M d P pc ls (.long x :: st) σ :=
  fun a X hP H locs lsA hW hS hl => lv_l2i X.1 X.2.1 hd rfl (k a X hP H locs lsA hW hS hl)
theorem wp_i2b {M : MD} {d : Nat} {P : Am → Prop} {pc : Nat} {ls : List (Option Value)} {st : List Value} {σ : St} {x : Int32} (hd : decode M.2.1 pc = .ok (.i2b, 1)) (k : Wp M d P (pc + 1) ls (.int x.toInt8.toInt32 :: st) σ) : Wp M d P pc ls (.int x :: st) σ :=
  fun a X hP H locs lsA hW hS hl => lv_i2b X.1 X.2.1 hd rfl (k a X hP H locs lsA hW hS hl)
theorem wp_iconst {M : MD} {d : Nat} {P : Am → Prop} {pc : Nat} {ls : List (Option Value)} {st : List Value} {σ : St} {n : Int} {v : Int32} (hd : decode M.2.1 pc = .ok (.iconst n, 1)) (hv : Int32.ofInt n = v) (k : Wp M d P (pc + 1) ls (.int v :: st) σ) : Wp M d P pc ls (st) σ :=
  fun a X hP H locs lsA hW hS hl => lv_iconst X.1 X.2.1 hd hv (k a X hP H locs lsA hW hS hl)
theorem wp_bipush {M : MD} {d : Nat} {P : Am → Prop} {pc : Nat} {ls : List (Option Value)} {st : List Value} {σ : St} {n : Int} {v : Int32} (hd : decode M.2.1 pc = .ok (.bipush n, 2)) (hv : (Int8.ofInt n).toInt32 = v) (k : Wp M d P (pc + 2) ls (.int v :: st) σ) : Wp M d P pc ls (st) σ :=
  fun a X hP H locs lsA hW hS hl => lv_bipush X.1 X.2.1 hd hv (k a X hP H locs lsA hW hS hl)
theorem wp_sipush {M : MD} {d : Nat} {P : Am → Prop} {pc : Nat} {ls : List (Option Value)} {st : List Value} {σ : St} {n : Int} {v : Int32} (hd : decode M.2.1 pc = .ok (.sipush n, 3)) (hv : (Int16.ofInt n).toInt32 = v) (k : Wp M d P (pc + 3) ls (.int v :: st) σ) : Wp M d P pc ls (st) σ :=
  fun a X hP H locs lsA hW hS hl => lv_sipush X.1 X.2.1 hd hv (k a X hP H locs lsA hW hS hl)
theorem wp_lconst {M : MD} {d : Nat} {P : Am → Prop} {pc : Nat} {ls : List (Option Value)} {st : List Value} {σ : St} {n : Fin 2} {v : Int64} (hd : decode M.2.1 pc = .ok (.lconst n, 1)) (hv : Int64.ofNat (n : Nat) = v) (k : Wp M d P (pc + 1) ls (.long v :: st) σ) : Wp M d P pc ls (st) σ :=
  fun a X hP H locs lsA hW hS hl => lv_lconst X.1 X.2.1 hd hv (k a X hP H locs lsA hW hS hl)
theorem wp_dup_i {M : MD} {d : Nat} {P : Am → Prop} {pc : Nat} {ls : List (Option Value)} {st : List Value} {σ : St} {x : Int32} (hd : decode M.2.1 pc = .ok (.dup, 1)) (k : Wp M d P (pc + 1) ls (.int x :: .int x :: st) σ) : Wp M d P pc ls (.int x :: st) σ :=
  fun a X hP H locs lsA hW hS hl => lv_dup X.1 X.2.1 hd rfl (k a X hP H locs lsA hW hS hl)
theorem wp_dup_r {M : MD} {d : Nat} {P : Am → Prop} {pc : Nat} {ls : List (Option Value)} {st : List Value} {σ : St} {x : Nat} (hd : decode M.2.1 pc = .ok (.dup, 1)) (k : Wp M d P (pc + 1) ls (.ref x :: .ref x :: st) σ) : Wp M d P pc ls (.ref x :: st) σ :=
  fun a X hP H locs lsA hW hS hl => lv_dup X.1 X.2.1 hd rfl (k a X hP H locs lsA hW hS hl)
theorem wp_dup2_ir {M : MD} {d : Nat} {P : Am → Prop} {pc : Nat} {ls : List (Option Value)} {st : List Value} {σ : St} {x : Int32} {q : Nat} (hd : decode M.2.1 pc = .ok (.dup2, 1)) (k : Wp M d P (pc + 1) ls (.int x :: .ref q :: .int x :: .ref q :: st) σ) : Wp M d P pc ls (.int x :: .ref q :: st) σ :=
  fun a X hP H locs lsA hW hS hl => lv_dup2_11 X.1 X.2.1 hd rfl rfl (k a X hP H locs lsA hW hS hl)
theorem wp_pop_i {M : MD} {d : Nat} {P : Am → Prop} {pc : Nat} {ls : List (Option Value)} {st : List Value} {σ : St} {x : Int32} (hd : decode M.2.1 pc = .ok (.pop, 1)) (k : Wp M d P (pc + 1) ls (st) σ) : Wp M d P pc ls (.int x :: st) σ :=
  fun a X hP H locs lsA hW hS hl => lv_pop X.1 X.2.1 hd rfl (k a X hP H locs lsA hW hS hl)
theorem wp_ldcw {M : MD} {d : Nat} {P : Am → Prop} {pc : Nat} {ls : List (Option Value)} {st : List Value} {σ : St} {idx : Nat} {v : Int32} (hd : decode M.2.1 pc = .ok (.ldc_w idx, 3)) (hc : Cond.constant M.1.cls idx v ∈ gtb) (k : Wp M d P (pc + 3) ls (.int v :: st) σ) : Wp M d P pc ls (st) σ :=
  fun a X hP H locs lsA hW hS hl => lv_ldcw X.1 X.2.1 X.2.2.2.1 (X.2.2.2.2.1 _ hc) hd (k a X hP H locs lsA hW hS hl)
theorem wp_ldc2 {M : MD} {d : Nat} {P : Am → Prop} {pc : Nat} {ls : List (Option Value)} {st : List Value} {σ : St} {idx : Nat} {v : Int64} (hd : decode M.2.1 pc = .ok (.ldc2_w idx, 3)) (hc : Cond.constantLong M.1.cls idx v ∈ gtb) (k : Wp M d P (pc + 3) ls (.long v :: st) σ) : Wp M d P pc ls (st) σ :=
  fun a X hP H locs lsA hW hS hl => lv_ldc2 X.1 X.2.1 X.2.2.2.1 (X.2.2.2.2.1 _ hc) hd (k a X hP H locs lsA hW hS hl)
theorem wp_iload_n {M : MD} {d : Nat} {P : Am → Prop} {pc : Nat} {ls : List (Option Value)} {st : List Value} {σ : St} {q : Fin 4} {i : Nat} {x : Int32} (hd : decode M.2.1 pc = .ok (.iload_n q, 1)) (hi : (q : Nat) = i) (h : ls[i]? = some (some (.int x))) (k : Wp M d P (pc + 1) ls (.int x :: st) σ) : Wp M d P pc ls st σ :=
  fun a X hP H locs lsA hW hS hl => lv_iload_n X.1 X.2.1 hd hi (hl.2.2 i _ h) (k a X hP H locs lsA hW hS hl)
theorem wp_iload {M : MD} {d : Nat} {P : Am → Prop} {pc : Nat} {ls : List (Option Value)} {st : List Value} {σ : St} {i : Nat} {x : Int32} (hd : decode M.2.1 pc = .ok (.iload i, 2)) (h : ls[i]? = some (some (.int x))) (k : Wp M d P (pc + 2) ls (.int x :: st) σ) : Wp M d P pc ls st σ :=
  fun a X hP H locs lsA hW hS hl => lv_iload X.1 X.2.1 hd (hl.2.2 i _ h) (k a X hP H locs lsA hW hS hl)
theorem wp_lload_n {M : MD} {d : Nat} {P : Am → Prop} {pc : Nat} {ls : List (Option Value)} {st : List Value} {σ : St} {q : Fin 4} {i : Nat} {x : Int64} (hd : decode M.2.1 pc = .ok (.lload_n q, 1)) (hi : (q : Nat) = i) (h : ls[i]? = some (some (.long x))) (k : Wp M d P (pc + 1) ls (.long x :: st) σ) : Wp M d P pc ls st σ :=
  fun a X hP H locs lsA hW hS hl => lv_lload_n X.1 X.2.1 hd hi (hl.2.2 i _ h) (k a X hP H locs lsA hW hS hl)
theorem wp_lload {M : MD} {d : Nat} {P : Am → Prop} {pc : Nat} {ls : List (Option Value)} {st : List Value} {σ : St} {i : Nat} {x : Int64} (hd : decode M.2.1 pc = .ok (.lload i, 2)) (h : ls[i]? = some (some (.long x))) (k : Wp M d P (pc + 2) ls (.long x :: st) σ) : Wp M d P pc ls st σ :=
  fun a X hP H locs lsA hW hS hl => lv_lload X.1 X.2.1 hd (hl.2.2 i _ h) (k a X hP H locs lsA hW hS hl)
theorem wp_aload_n {M : MD} {d : Nat} {P : Am → Prop} {pc : Nat} {ls : List (Option Value)} {st : List Value} {σ : St} {q : Fin 4} {i : Nat} {x : Nat} (hd : decode M.2.1 pc = .ok (.aload_n q, 1)) (hi : (q : Nat) = i) (h : ls[i]? = some (some (.ref x))) (k : Wp M d P (pc + 1) ls (.ref x :: st) σ) : Wp M d P pc ls st σ :=
  fun a X hP H locs lsA hW hS hl => lv_aload_n X.1 X.2.1 hd hi (hl.2.2 i _ h) (k a X hP H locs lsA hW hS hl)
theorem wp_aload {M : MD} {d : Nat} {P : Am → Prop} {pc : Nat} {ls : List (Option Value)} {st : List Value} {σ : St} {i : Nat} {x : Nat} (hd : decode M.2.1 pc = .ok (.aload i, 2)) (h : ls[i]? = some (some (.ref x))) (k : Wp M d P (pc + 2) ls (.ref x :: st) σ) : Wp M d P pc ls st σ :=
  fun a X hP H locs lsA hW hS hl => lv_aload X.1 X.2.1 hd (hl.2.2 i _ h) (k a X hP H locs lsA hW hS hl)

def asl (ad : Nat → Nat) (ls : List (Option Value)) : List (Nat × Value) := (List.range ls.length).filterMap (fun i => match ls[i]? with
  | some (some v) => some (i, cv ad v)
  | _ => none)
theorem asl_mem {ad : Nat → Nat} {ls : List (Option Value)} {i : Nat} {v : Value} (h : ls[i]? = some (some v)) : (i, cv ad v) ∈ asl ad ls := by
  refine List.mem_filterMap.mpr ⟨i, List.mem_range.mpr (List.getElem?_eq_some_iff.mp h).1, ?_⟩
  rw [h]
theorem asl_of {ad : Nat → Nat} {ls : List (Option Value)} {q : Nat × Value} (h : q ∈ asl ad ls) : ∃ v, ls[q.1]? = some (some v) ∧ q.2 = cv ad v := by
  obtain ⟨i, -, hi⟩ := List.mem_filterMap.mp h
  split at hi
  · rename_i v hv
    cases hi
    exact ⟨v, hv, rfl⟩
  · cases hi
theorem Lok.has {ad : Nat → Nat} {lsA : Array Slot} {nL : Nat} {ls : List (Option Value)} (h : Lok ad lsA nL ls) : lv_has lsA nL (asl ad ls) := by
  refine ⟨h.1, h.2.1, fun q hq => ?_⟩
  obtain ⟨v, h1, h2⟩ := asl_of hq
  rw [h2]
  exact h.2.2 _ _ h1
def noL (ls : List (Option Value)) (i : Nat) : Bool := match i with
  | 0 => true
  | j + 1 => match ls[j]? with
    | some (some v) => v.category == 1
    | _ => true
theorem Lok.st1 {ad : Nat → Nat} {lsA : Array Slot} {nL i : Nat} {ls : List (Option Value)} {v : Value} (hn : noL ls i = true) (h : lv_has lsA nL ((i, cv ad v) :: (asl ad ls).filter (fun q => !(q.1 == i) && !(q.1 + 1 == i && q.2.category == 2)))) : Lok ad lsA nL (ls.set i (some v)) := by
  refine ⟨h.1, h.2.1, fun j w hj => ?_⟩
  rw [List.getElem?_set] at hj
  by_cases e : i = j
  · subst e
    split at hj
    · split at hj
      · cases hj
        exact h.2.2 _ List.mem_cons_self
      · cases hj
    · exact absurd rfl ‹_›
  · simp only [e, if_false] at hj
    refine h.2.2 (j, cv ad w) (List.mem_cons_of_mem _ (List.mem_filter.mpr ⟨asl_mem hj, ?_⟩))
    have e1 : (j == i) = false := by simp; exact fun q => e q.symm
    simp only [e1, Bool.not_false, Bool.true_and]
    by_cases e2 : j + 1 = i
    · subst e2
      simp only [noL, hj] at hn
      have h1 : w.category = 1 := by simpa using hn
      simp [cv_cat, h1]
    · simp [e2]
theorem Lok.st2 {ad : Nat → Nat} {lsA : Array Slot} {nL i : Nat} {ls : List (Option Value)} {v : Value} (hn : noL ls i = true) (h : lv_has lsA nL ((i, cv ad v) :: (asl ad ls).filter (fun q => !(q.1 == i) && (!(q.1 == i + 1) && !(q.1 + 1 == i && q.2.category == 2))))) : Lok ad lsA nL ((ls.set i (some v)).set (i + 1) none) := by
  refine ⟨h.1, h.2.1, fun j w hj => ?_⟩
  rw [List.getElem?_set] at hj
  by_cases e0 : i + 1 = j
  · subst e0
    split at hj
    · split at hj <;> cases hj
    · exact absurd rfl ‹_›
  simp only [e0, if_false] at hj
  rw [List.getElem?_set] at hj
  by_cases e : i = j
  · subst e
    split at hj
    · split at hj
      · cases hj
        exact h.2.2 _ List.mem_cons_self
      · cases hj
    · exact absurd rfl ‹_›
  · simp only [e, if_false] at hj
    refine h.2.2 (j, cv ad w) (List.mem_cons_of_mem _ (List.mem_filter.mpr ⟨asl_mem hj, ?_⟩))
    have e1 : (j == i) = false := by simp; exact fun q => e q.symm
    have e3 : (j == i + 1) = false := by simp; exact fun q => e0 q.symm
    simp only [e1, e3, Bool.not_false, Bool.true_and]
    by_cases e2 : j + 1 = i
    · subst e2
      simp only [noL, hj] at hn
      have h1 : w.category = 1 := by simpa using hn
      simp [cv_cat, h1]
    · simp [e2]
theorem wp_istore_n {M : MD} {d : Nat} {P : Am → Prop} {pc : Nat} {ls : List (Option Value)} {st : List Value} {σ : St} {q : Fin 4} {i : Nat} {x : Int32} {ls' : List (Option Value)} (hd : decode M.2.1 pc = .ok (.istore_n q, 1)) (hi : (q : Nat) = i) (hn : i < M.2.2.1) (hz : noL ls i = true) (hs : ls.set i (some (.int x)) = ls') (k : Wp M d P (pc + 1) ls' st σ) : Wp M d P pc ls (.int x :: st) σ :=
  fun a X hP H locs lsA hW hS hl => lv_istore_n X.1 X.2.1 hd hi hl.has hn rfl (fun lsB hB => k a X hP H locs lsB hW hS (hs ▸ Lok.st1 (v := .int x) hz hB))
theorem wp_istore {M : MD} {d : Nat} {P : Am → Prop} {pc : Nat} {ls : List (Option Value)} {st : List Value} {σ : St} {i : Nat} {x : Int32} {ls' : List (Option Value)} (hd : decode M.2.1 pc = .ok (.istore i, 2)) (hn : i < M.2.2.1) (hz : noL ls i = true) (hs : ls.set i (some (.int x)) = ls') (k : Wp M d P (pc + 2) ls' st σ) : Wp M d P pc ls (.int x :: st) σ :=
  fun a X hP H locs lsA hW hS hl => lv_istore X.1 X.2.1 hd hl.has hn rfl (fun lsB hB => k a X hP H locs lsB hW hS (hs ▸ Lok.st1 (v := .int x) hz hB))
theorem wp_astore_n {M : MD} {d : Nat} {P : Am → Prop} {pc : Nat} {ls : List (Option Value)} {st : List Value} {σ : St} {q : Fin 4} {i : Nat} {x : Nat} {ls' : List (Option Value)} (hd : decode M.2.1 pc = .ok (.astore_n q, 1)) (hi : (q : Nat) = i) (hn : i < M.2.2.1) (hz : noL ls i = true) (hs : ls.set i (some (.ref x)) = ls') (k : Wp M d P (pc + 1) ls' st σ) : Wp M d P pc ls (.ref x :: st) σ :=
  fun a X hP H locs lsA hW hS hl => lv_astore_n X.1 X.2.1 hd hi hl.has hn rfl (fun lsB hB => k a X hP H locs lsB hW hS (hs ▸ Lok.st1 (v := .ref x) hz hB))
theorem wp_astore {M : MD} {d : Nat} {P : Am → Prop} {pc : Nat} {ls : List (Option Value)} {st : List Value} {σ : St} {i : Nat} {x : Nat} {ls' : List (Option Value)} (hd : decode M.2.1 pc = .ok (.astore i, 2)) (hn : i < M.2.2.1) (hz : noL ls i = true) (hs : ls.set i (some (.ref x)) = ls') (k : Wp M d P (pc + 2) ls' st σ) : Wp M d P pc ls (.ref x :: st) σ :=
  fun a X hP H locs lsA hW hS hl => lv_astore X.1 X.2.1 hd hl.has hn rfl (fun lsB hB => k a X hP H locs lsB hW hS (hs ▸ Lok.st1 (v := .ref x) hz hB))
theorem wp_lstore_n {M : MD} {d : Nat} {P : Am → Prop} {pc : Nat} {ls : List (Option Value)} {st : List Value} {σ : St} {q : Fin 4} {i : Nat} {x : Int64} {ls' : List (Option Value)} (hd : decode M.2.1 pc = .ok (.lstore_n q, 1)) (hi : (q : Nat) = i) (hn : i + 1 < M.2.2.1) (hz : noL ls i = true) (hs : (ls.set i (some (.long x))).set (i + 1) none = ls') (k : Wp M d P (pc + 1) ls' st σ) : Wp M d P pc ls (.long x :: st) σ :=
  fun a X hP H locs lsA hW hS hl => lv_lstore_n X.1 X.2.1 hd hi hl.has hn rfl (fun lsB hB => k a X hP H locs lsB hW hS (hs ▸ Lok.st2 (v := .long x) hz hB))
theorem wp_lstore {M : MD} {d : Nat} {P : Am → Prop} {pc : Nat} {ls : List (Option Value)} {st : List Value} {σ : St} {i : Nat} {x : Int64} {ls' : List (Option Value)} (hd : decode M.2.1 pc = .ok (.lstore i, 2)) (hn : i + 1 < M.2.2.1) (hz : noL ls i = true) (hs : (ls.set i (some (.long x))).set (i + 1) none = ls') (k : Wp M d P (pc + 2) ls' st σ) : Wp M d P pc ls (.long x :: st) σ :=
  fun a X hP H locs lsA hW hS hl => lv_lstore X.1 X.2.1 hd hl.has hn rfl (fun lsB hB => k a X hP H locs lsB hW hS (hs ▸ Lok.st2 (v := .long x) hz hB))
theorem wp_iinc {M : MD} {d : Nat} {P : Am → Prop} {pc : Nat} {ls : List (Option Value)} {st : List Value} {σ : St} {i : Nat} {n : Int} {x v : Int32} {ls' : List (Option Value)} (hd : decode M.2.1 pc = .ok (.iinc i n, 3)) (h : ls[i]? = some (some (.int x))) (hv : x + Int32.ofInt n = v) (hn : i < M.2.2.1) (hz : noL ls i = true) (hs : ls.set i (some (.int v)) = ls') (k : Wp M d P (pc + 3) ls' st σ) : Wp M d P pc ls st σ := by
  intro a X hP H locs lsA hW hS hl
  obtain ⟨q, hq⟩ := List.getElem?_of_mem (asl_mem (ad := a_ad a) h)
  exact lv_iinc X.1 X.2.1 hd hl.has hq hv hn rfl (fun lsB hB => k a X hP H locs lsB hW hS (hs ▸ Lok.st1 (v := .int v) hz hB))
theorem wp_if_eq {M : MD} {d : Nat} {P : Am → Prop} {pc : Nat} {ls : List (Option Value)} {st : List Value} {σ : St} {x : Int32} {off : Int} {tgt : Nat} (hd : decode M.2.1 pc = .ok (.ifCond .eq off, 3)) (ht : (pc : Int) + off = (tgt : Int)) (kt : x = 0 → Wp M d P tgt ls st σ) (kf : ¬ x = 0 → Wp M d P (pc + 3) ls st σ) : Wp M d P pc ls (.int x :: st) σ :=
  fun a X hP H locs lsA hW hS hl => lv_if_eq X.1 X.2.1 hd ht (fun h => kt h a X hP H locs lsA hW hS hl) (fun h => kf h a X hP H locs lsA hW hS hl)
theorem wp_icmp_eq {M : MD} {d : Nat} {P : Am → Prop} {pc : Nat} {ls : List (Option Value)} {st : List Value} {σ : St} {x y : Int32} {off : Int} {tgt : Nat} (hd : decode M.2.1 pc = .ok (.if_icmp .eq off, 3)) (ht : (pc : Int) + off = (tgt : Int)) (kt : x = y → Wp M d P tgt ls st σ) (kf : ¬ x = y → Wp M d P (pc + 3) ls st σ) : Wp M d P pc ls (.int y :: .int x :: st) σ :=
  fun a X hP H locs lsA hW hS hl => lv_icmp_eq X.1 X.2.1 hd ht (fun h => kt h a X hP H locs lsA hW hS hl) (fun h => kf h a X hP H locs lsA hW hS hl)
theorem wp_if_ne {M : MD} {d : Nat} {P : Am → Prop} {pc : Nat} {ls : List (Option Value)} {st : List Value} {σ : St} {x : Int32} {off : Int} {tgt : Nat} (hd : decode M.2.1 pc = .ok (.ifCond .ne off, 3)) (ht : (pc : Int) + off = (tgt : Int)) (kt : ¬ x = 0 → Wp M d P tgt ls st σ) (kf : x = 0 → Wp M d P (pc + 3) ls st σ) : Wp M d P pc ls (.int x :: st) σ :=
  fun a X hP H locs lsA hW hS hl => lv_if_ne X.1 X.2.1 hd ht (fun h => kt h a X hP H locs lsA hW hS hl) (fun h => kf h a X hP H locs lsA hW hS hl)
theorem wp_icmp_ne {M : MD} {d : Nat} {P : Am → Prop} {pc : Nat} {ls : List (Option Value)} {st : List Value} {σ : St} {x y : Int32} {off : Int} {tgt : Nat} (hd : decode M.2.1 pc = .ok (.if_icmp .ne off, 3)) (ht : (pc : Int) + off = (tgt : Int)) (kt : ¬ x = y → Wp M d P tgt ls st σ) (kf : x = y → Wp M d P (pc + 3) ls st σ) : Wp M d P pc ls (.int y :: .int x :: st) σ :=
  fun a X hP H locs lsA hW hS hl => lv_icmp_ne X.1 X.2.1 hd ht (fun h => kt h a X hP H locs lsA hW hS hl) (fun h => kf h a X hP H locs lsA hW hS hl)
theorem wp_if_lt {M : MD} {d : Nat} {P : Am → Prop} {pc : Nat} {ls : List (Option Value)} {st : List Value} {σ : St} {x : Int32} {off : Int} {tgt : Nat} (hd : decode M.2.1 pc = .ok (.ifCond .lt off, 3)) (ht : (pc : Int) + off = (tgt : Int)) (kt : x < 0 → Wp M d P tgt ls st σ) (kf : ¬ x < 0 → Wp M d P (pc + 3) ls st σ) : Wp M d P pc ls (.int x :: st) σ :=
  fun a X hP H locs lsA hW hS hl => lv_if_lt X.1 X.2.1 hd ht (fun h => kt h a X hP H locs lsA hW hS hl) (fun h => kf h a X hP H locs lsA hW hS hl)
theorem wp_icmp_lt {M : MD} {d : Nat} {P : Am → Prop} {pc : Nat} {ls : List (Option Value)} {st : List Value} {σ : St} {x y : Int32} {off : Int} {tgt : Nat} (hd : decode M.2.1 pc = .ok (.if_icmp .lt off, 3)) (ht : (pc : Int) + off = (tgt : Int)) (kt : x < y → Wp M d P tgt ls st σ) (kf : ¬ x < y → Wp M d P (pc + 3) ls st σ) : Wp M d P pc ls (.int y :: .int x :: st) σ :=
  fun a X hP H locs lsA hW hS hl => lv_icmp_lt X.1 X.2.1 hd ht (fun h => kt h a X hP H locs lsA hW hS hl) (fun h => kf h a X hP H locs lsA hW hS hl)
theorem wp_if_ge {M : MD} {d : Nat} {P : Am → Prop} {pc : Nat} {ls : List (Option Value)} {st : List Value} {σ : St} {x : Int32} {off : Int} {tgt : Nat} (hd : decode M.2.1 pc = .ok (.ifCond .ge off, 3)) (ht : (pc : Int) + off = (tgt : Int)) (kt : 0 ≤ x → Wp M d P tgt ls st σ) (kf : ¬ 0 ≤ x → Wp M d P (pc + 3) ls st σ) : Wp M d P pc ls (.int x :: st) σ :=
  fun a X hP H locs lsA hW hS hl => lv_if_ge X.1 X.2.1 hd ht (fun h => kt h a X hP H locs lsA hW hS hl) (fun h => kf h a X hP H locs lsA hW hS hl)
theorem wp_icmp_ge {M : MD} {d : Nat} {P : Am → Prop} {pc : Nat} {ls : List (Option Value)} {st : List Value} {σ : St} {x y : Int32} {off : Int} {tgt : Nat} (hd : decode M.2.1 pc = .ok (.if_icmp .ge off, 3)) (ht : (pc : Int) + off = (tgt : Int)) (kt : y ≤ x → Wp M d P tgt ls st σ) (kf : ¬ y ≤ x → Wp M d P (pc + 3) ls st σ) : Wp M d P pc ls (.int y :: .int x :: st) σ :=
  fun a X hP H locs lsA hW hS hl => lv_icmp_ge X.1 X.2.1 hd ht (fun h => kt h a X hP H locs lsA hW hS hl) (fun h => kf h a X hP H locs lsA hW hS hl)
theorem wp_if_gt {M : MD} {d : Nat} {P : Am → Prop} {pc : Nat} {ls : List (Option Value)} {st : List Value} {σ : St} {x : Int32} {off : Int} {tgt : Nat} (hd : decode M.2.1 pc = .ok (.ifCond .gt off, 3)) (ht : (pc : Int) + off = (tgt : Int)) (kt : 0 < x → Wp M d P tgt ls st σ) (kf : ¬ 0 < x → Wp M d P (pc + 3) ls st σ) : Wp M d P pc ls (.int x :: st) σ :=
  fun a X hP H locs lsA hW hS hl => lv_if_gt X.1 X.2.1 hd ht (fun h => kt h a X hP H locs lsA hW hS hl) (fun h => kf h a X hP H locs lsA hW hS hl)
theorem wp_icmp_gt {M : MD} {d : Nat} {P : Am → Prop} {pc : Nat} {ls : List (Option Value)} {st : List Value} {σ : St} {x y : Int32} {off : Int} {tgt : Nat} (hd : decode M.2.1 pc = .ok (.if_icmp .gt off, 3)) (ht : (pc : Int) + off = (tgt : Int)) (kt : y < x → Wp M d P tgt ls st σ) (kf : ¬ y < x → Wp M d P (pc + 3) ls st σ) : Wp M d P pc ls (.int y :: .int x :: st) σ :=
  fun a X hP H locs lsA hW hS hl => lv_icmp_gt X.1 X.2.1 hd ht (fun h => kt h a X hP H locs lsA hW hS hl) (fun h => kf h a X hP H locs lsA hW hS hl)
theorem wp_if_le {M : MD} {d : Nat} {P : Am → Prop} {pc : Nat} {ls : List (Option Value)} {st : List Value} {σ : St} {x : Int32} {off : Int} {tgt : Nat} (hd : decode M.2.1 pc = .ok (.ifCond .le off, 3)) (ht : (pc : Int) + off = (tgt : Int)) (kt : x ≤ 0 → Wp M d P tgt ls st σ) (kf : ¬ x ≤ 0 → Wp M d P (pc + 3) ls st σ) : Wp M d P pc ls (.int x :: st) σ :=
  fun a X hP H locs lsA hW hS hl => lv_if_le X.1 X.2.1 hd ht (fun h => kt h a X hP H locs lsA hW hS hl) (fun h => kf h a X hP H locs lsA hW hS hl)
theorem wp_icmp_le {M : MD} {d : Nat} {P : Am → Prop} {pc : Nat} {ls : List (Option Value)} {st : List Value} {σ : St} {x y : Int32} {off : Int} {tgt : Nat} (hd : decode M.2.1 pc = .ok (.if_icmp .le off, 3)) (ht : (pc : Int) + off = (tgt : Int)) (kt : x ≤ y → Wp M d P tgt ls st σ) (kf : ¬ x ≤ y → Wp M d P (pc + 3) ls st σ) : Wp M d P pc ls (.int y :: .int x :: st) σ :=
  fun a X hP H locs lsA hW hS hl => lv_icmp_le X.1 X.2.1 hd ht (fun h => kt h a X hP H locs lsA hW hS hl) (fun h => kf h a X hP H locs lsA hW hS hl)
theorem wp_goto {M : MD} {d : Nat} {P : Am → Prop} {pc : Nat} {ls : List (Option Value)} {st : List Value} {σ : St} {off : Int} {tgt : Nat} (hd : decode M.2.1 pc = .ok (.goto off, 3)) (ht : (pc : Int) + off = (tgt : Int)) (k : Wp M d P tgt ls st σ) : Wp M d P pc ls st σ :=
  fun a X hP H locs lsA hW hS hl => lv_goto X.1 X.2.1 hd ht (k a X hP H locs lsA hW hS hl)

theorem wp_tsw {M : MD} {d : Nat} {P : Am → Prop} {pc : Nat} {ls : List (Option Value)} {st : List Value} {σ : St} {dflt lo hi : Int} {offs : Array Int} {len : Nat} {x : Int32} (hd : decode M.2.1 pc = .ok (.tableswitch dflt lo hi offs, len)) (kin : ∀ (off : Int), ¬ x.toInt < lo → ¬ hi < x.toInt → offs[(x.toInt - lo).toNat]? = some off → ∃ tgt : Nat, (pc : Int) + off = (tgt : Int) ∧ Wp M d P tgt ls st σ) (hsz : ¬ x.toInt < lo → ¬ hi < x.toInt → (x.toInt - lo).toNat < offs.size) (kout : x.toInt < lo ∨ hi < x.toInt → ∃ tgt : Nat, (pc : Int) + dflt = (tgt : Int) ∧ Wp M d P tgt ls st σ) : Wp M d P pc ls (.int x :: st) σ := by
  intro a X hP H locs lsA hW hS hl
  by_cases h1 : x.toInt < lo
  · obtain ⟨tgt, ht, k⟩ := kout (Or.inl h1)
    exact lv_tableOut X.1 X.2.1 hd (Or.inl h1) ht (k a X hP H locs lsA hW hS hl)
  by_cases h2 : hi < x.toInt
  · obtain ⟨tgt, ht, k⟩ := kout (Or.inr h2)
    exact lv_tableOut X.1 X.2.1 hd (Or.inr h2) ht (k a X hP H locs lsA hW hS hl)
  have hq := hsz h1 h2
  obtain ⟨tgt, ht, k⟩ := kin _ h1 h2 (Array.getElem?_eq_getElem hq)
  exact lv_tableIn X.1 X.2.1 hd h1 h2 (Array.getElem?_eq_getElem hq) ht (k a X hP H locs lsA hW hS hl)
theorem wp_tIn {M : MD} {d : Nat} {P : Am → Prop} {pc : Nat} {ls : List (Option Value)} {st : List Value} {σ : St} {dflt lo hi : Int} {offs : Array Int} {len : Nat} {x : Int32} {off : Int} {tgt : Nat} (hd : decode M.2.1 pc = .ok (.tableswitch dflt lo hi offs, len)) (h1 : ¬ x.toInt < lo) (h2 : ¬ hi < x.toInt) (ho : offs[(x.toInt - lo).toNat]? = some off) (ht : (pc : Int) + off = (tgt : Int)) (k : Wp M d P tgt ls st σ) : Wp M d P pc ls (.int x :: st) σ :=
  fun a X hP H locs lsA hW hS hl => lv_tableIn X.1 X.2.1 hd h1 h2 ho ht (k a X hP H locs lsA hW hS hl)
theorem wp_tOut {M : MD} {d : Nat} {P : Am → Prop} {pc : Nat} {ls : List (Option Value)} {st : List Value} {σ : St} {dflt lo hi : Int} {offs : Array Int} {len : Nat} {x : Int32} {tgt : Nat} (hd : decode M.2.1 pc = .ok (.tableswitch dflt lo hi offs, len)) (h : x.toInt < lo ∨ hi < x.toInt) (ht : (pc : Int) + dflt = (tgt : Int)) (k : Wp M d P tgt ls st σ) : Wp M d P pc ls (.int x :: st) σ :=
  fun a X hP H locs lsA hW hS hl => lv_tableOut X.1 X.2.1 hd h ht (k a X hP H locs lsA hW hS hl)
theorem wp_lsw {M : MD} {d : Nat} {P : Am → Prop} {pc : Nat} {ls : List (Option Value)} {st : List Value} {σ : St} {dflt : Int} {ps : Array (Int × Int)} {len : Nat} {x : Int32} {off : Int} {tgt : Nat} (hd : decode M.2.1 pc = .ok (.lookupswitch dflt ps, len)) (hp : (ps.toList.zip (ps.toList.drop 1)).all (fun (a, next) => a.1 < next.1) = true) (ho : Op.lookupswitch.offset ps.toList dflt x.toInt = off) (ht : (pc : Int) + off = (tgt : Int)) (k : Wp M d P tgt ls st σ) : Wp M d P pc ls (.int x :: st) σ :=
  fun a X hP H locs lsA hW hS hl => lv_lookup X.1 X.2.1 hd hp ho ht (k a X hP H locs lsA hW hS hl)
