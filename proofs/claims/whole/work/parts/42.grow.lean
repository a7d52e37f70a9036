/-! THE GROWING WORLD: what the constructors do; values are addresses here; the world is ws0 ++ l -/
abbrev C3 : Type := ClassId × ClassId × ClassId
def T3 (c : C3) : List (ClassId × FieldType) := [(c.1, .int), (c.2.1, .byte), (c.2.2, .long)]
def Cy (M : MD) (d nc ns : Nat) (c : C3) (a : Am) : Prop :=
  (a_p a).tables.exec = Jvm.exec ∧ (a_c a).code = M.2.1 ∧ (a_c a).maxLocals = M.2.2.1 ∧ (a_s a).vm.findClass M.1.cls = some (a_m a).cls ∧ (∀ w ∈ gtb, w.before (a_args a) (a_s a) = true) ∧ nOK (a_s a) ∧ va_K (a_D a) vwCl (T3 c) (a_s a) ∧ (∀ q, (a_H0 a).size ≤ q → a_A a q) ∧ d ≤ (a_R a).frames ∧ 60 * d ≤ (a_R a).locals ∧ nc ≤ (a_R a).cells ∧ ns ≤ (a_R a).slots ∧ (a_meth a).sig.returnType = M.2.2.2 ∧ (a_meth a).locks = false ∧ (M.1.name = "<init>" → (a_meth a).name = "<init>")
def Wn (M : MD) (d nc ns : Nat) (c : C3) (P : Am → Prop) (ws0 : va_W) (pc : Nat) (ls : List (Option Value)) (st : List Value) (l : va_W) (k n : Nat) : Prop :=
  ∀ a : Am, Cy M d nc ns c a → P a → ∀ (H : Heap) (locs : List Loc) (lsA : Array Slot), va_P (a_D a) vwCl (ws0 ++ l) H → va_D (a_A a) (ws0 ++ l) → va_S (a_A a) (a_H0 a) H locs → Lok (fun q => q) lsA M.2.2.1 ls →
    W (a_p a) (a_l a) (a_e a) (a_R a) (a_s a) (a_m a) (a_args a) (a_below a) (a_meth a) (a_c a) H locs k n (a_Q a) (F0 (a_m a) pc lsA st)
def Qn (D : va_G) (ws0 : va_W) (post : (Nat → Nat) → va_W) (A : Nat → Prop) : Array Value → State → Outcome → State → Prop := va_Qv (fun _ : Nat → Nat => True) (fun f t => va_P D vwCl (ws0 ++ post f) t.heap ∧ va_D A (ws0 ++ post f)) A
def PN (ws0 : va_W) (post : (Nat → Nat) → va_W) (nc ns : Nat) (a : Am) : Prop := a_Q a = MQ (a_below a) (Qn (a_D a) ws0 post (a_A a)) (a_args a) (a_s a) nc ns (a_A a) ∧ a_H0 a = (a_s a).heap
/-- constructor M on the cells l0 (the last of the world): it makes nc cells of ns slots; the world's end becomes post f, f the new addresses -/
def Cc (d : Nat) (M : MD) (c : C3) (vs : List Value) (l0 : va_W) (nc ns : Nat) (post : (Nat → Nat) → va_W) : Prop :=
  ∀ (l : Launch) (D : va_G) (ws0 : va_W) (sz fr lo : Nat), d ≤ fr → 60 * d ≤ lo →
    Met l M.1 (wsM M) { frames := fr, cells := nc, slots := ns, locals := lo } (va_Pc vs (fun U => U.heap.size = sz ∧ va_P D vwCl (ws0 ++ l0) U.heap ∧ va_K D vwCl (T3 c) U ∧ nOK U ∧ va_D (fun _ => True) (ws0 ++ l0))) (Qn D ws0 post (va_A (ws0 ++ l0) sz)) nc ns (va_A (ws0 ++ l0) sz)
theorem cv_id (v : Value) : cv (fun q => q) v = v := by cases v <;> rfl
theorem cv_ids (vs : List Value) : vs.map (cv (fun q => q)) = vs := by
  induction vs with
  | nil => rfl
  | cons v vs ih => rw [List.map_cons, cv_id, ih]
theorem cc_of {d : Nat} {M : MD} {c : C3} {vs : List Value} {l0 : va_W} {nc ns : Nat} {post : (Nat → Nat) → va_W} (ls0 : List (Option Value)) (n : Nat) (hy : plainName M.1.cls = true) (hls : ent vs ++ List.replicate n none = ls0) (hlen : (ent vs).length ≤ M.2.2.1) (k : ∀ ws0 : va_W, Wn M d nc ns c (PN ws0 post nc ns) ws0 0 ls0 [] l0 0 0) : Cc d M c vs l0 nc ns post := by
  intro l D ws0 sz fr lo hfr hlo
  refine Met.ofW (cc := M.2.1) (maxL := M.2.2.1) (ret := M.2.2.2) (ws' := gtb) hy rfl ?_
  intro p e s m args below meth c' s₁ B hml hv
  obtain ⟨rfl, hsz, hP, hK, hN, hD0⟩ := hv
  have hts := atoms_spec (ws := wsM M) B.pre
  subst hsz
  have hl := lv_entry vs (n := M.2.2.1) (by have := ent_len (fun q => q) vs; rw [cv_ids] at this; rw [this]; exact hlen)
  rw [lg_entry_eq]
  generalize (lg_sl vs ++ List.replicate (M.2.2.1 - (lg_sl vs).length) Slot.unset).toArray = lsA at hl ⊢
  refine k ws0 (p, l, e, (headSpec (wsM M) { frames := fr, cells := nc, slots := ns, locals := lo }).room, s, m, vs.toArray, below, meth, c', 0, 0, _, (fun q => q), (fun _ => c.1), D, T3 c, va_A (ws0 ++ l0) s.heap.size, s.heap) ⟨B.exec, B.bytes, hml, findClass_of_methodNamed B.named, fun w hw => hts w (List.mem_cons_of_mem _ hw), hN, hK, fun q h => Or.inr h, hfr, hlo, Nat.le_refl _, Nat.le_refl _, B.returns, B.notSynchronized, fun z => (name_of_methodNamed B.named B.method).1.trans z⟩ ⟨rfl, rfl⟩ s.heap [] lsA hP hD0.self va_S.rf ⟨hl.1, hl.2.1, fun i v h => ?_⟩
  have h2 : (ent vs)[i]? = some (some v) := by
    rw [← hls] at h
    rcases Nat.lt_or_ge i (ent vs).length with q | q
    · rwa [List.getElem?_append_left q] at h
    · rw [List.getElem?_append_right q, List.getElem?_replicate] at h
      split at h <;> cases h
  have h3 := ent_at (fun q => q) vs 0 i v h2
  rw [cv_ids] at h3
  have h4 := hl.2.2 _ h3
  simpa using h4
theorem arr_w : Cond.arrayClass .int ∈ gtb ∧ Cond.arrayClass .byte ∈ gtb ∧ Cond.arrayClass .long ∈ gtb := ⟨mem_t1 82 rfl rfl, mem_t1 38 rfl rfl, mem_t1 155 rfl rfl⟩
section Grow
variable {M : MD} {d nc ns : Nat} {c : C3} {P : Am → Prop} {ws0 : va_W} {pc : Nat} {ls : List (Option Value)} {st : List Value} {l : va_W} {k n : Nat}
theorem wn_aload_n {q : Fin 4} {i x : Nat} (hd : decode M.2.1 pc = .ok (.aload_n q, 1)) (hi : (q : Nat) = i) (h : ls[i]? = some (some (.ref x))) (kk : Wn M d nc ns c P ws0 (pc + 1) ls (.ref x :: st) l k n) : Wn M d nc ns c P ws0 pc ls st l k n :=
  fun a X hP H locs lsA hW hD hS hl => lv_aload_n X.1 X.2.1 hd hi (hl.2.2 i _ h) (kk a X hP H locs lsA hW hD hS hl)
theorem wn_iconst {z : Int} {v : Int32} (hd : decode M.2.1 pc = .ok (.iconst z, 1)) (hv : Int32.ofInt z = v) (kk : Wn M d nc ns c P ws0 (pc + 1) ls (.int v :: st) l k n) : Wn M d nc ns c P ws0 pc ls st l k n :=
  fun a X hP H locs lsA hW hD hS hl => lv_iconst X.1 X.2.1 hd hv (kk a X hP H locs lsA hW hD hS hl)
theorem wn_bipush {z : Int} {v : Int32} (hd : decode M.2.1 pc = .ok (.bipush z, 2)) (hv : (Int8.ofInt z).toInt32 = v) (kk : Wn M d nc ns c P ws0 (pc + 2) ls (.int v :: st) l k n) : Wn M d nc ns c P ws0 pc ls st l k n :=
  fun a X hP H locs lsA hW hD hS hl => lv_bipush X.1 X.2.1 hd hv (kk a X hP H locs lsA hW hD hS hl)
theorem wn_sipush {z : Int} {v : Int32} (hd : decode M.2.1 pc = .ok (.sipush z, 3)) (hv : (Int16.ofInt z).toInt32 = v) (kk : Wn M d nc ns c P ws0 (pc + 3) ls (.int v :: st) l k n) : Wn M d nc ns c P ws0 pc ls st l k n :=
  fun a X hP H locs lsA hW hD hS hl => lv_sipush X.1 X.2.1 hd hv (kk a X hP H locs lsA hW hD hS hl)
theorem wn_dup {x : Nat} (hd : decode M.2.1 pc = .ok (.dup, 1)) (kk : Wn M d nc ns c P ws0 (pc + 1) ls (.ref x :: .ref x :: st) l k n) : Wn M d nc ns c P ws0 pc ls (.ref x :: st) l k n :=
  fun a X hP H locs lsA hW hD hS hl => lv_dup X.1 X.2.1 hd rfl (kk a X hP H locs lsA hW hD hS hl)
theorem wn_astore_n {q : Fin 4} {i x : Nat} {ls' : List (Option Value)} (hd : decode M.2.1 pc = .ok (.astore_n q, 1)) (hi : (q : Nat) = i) (hn : i < M.2.2.1) (hz : noL ls i = true) (hs : ls.set i (some (.ref x)) = ls') (kk : Wn M d nc ns c P ws0 (pc + 1) ls' st l k n) : Wn M d nc ns c P ws0 pc ls (.ref x :: st) l k n :=
  fun a X hP H locs lsA hW hD hS hl => lv_astore_n X.1 X.2.1 hd hi hl.has hn rfl (fun lsB hB => kk a X hP H locs lsB hW hD hS (hs ▸ Lok.st1 (v := .ref x) hz hB))
theorem ob_words : Cond.instanceMethod Lib.objectInit ∈ gtb ∧ Cond.code Lib.objectInit ⟨#[0xb1]⟩ 1 none ∈ gtb := ⟨mem_t1 21 rfl rfl, mem_t1 22 (by decide +kernel) rfl⟩
theorem wn_obj {x idx : Nat} (hd : decode M.2.1 pc = .ok (.invokespecial idx, 3)) (hl : Cond.methodLink M.1.cls idx Lib.objectInit ∈ gtb) (hr : (st.map fun v => v.category).sum ≤ 8) (h1 : 1 ≤ d) (kk : Wn M d nc ns c P ws0 (pc + 3) ls st l k n) : Wn M d nc ns c P ws0 pc ls (.ref x :: st) l k n := by
  intro a X hP H locs lsA hW hD hS hlo
  have X2 := X
  obtain ⟨hx, hb, hml, hown, hts, hN, hK, hA, hf1, hf2, -⟩ := X2
  refine W.objInit hx hb hown (hts _ hl) (hts _ ob_words.1) (hts _ ob_words.2) rfl (hlo.1.trans hml.symm) rfl hd (by omega) (by show 2 * 0 + _ + 12 ≤ _; omega) (kk a X hP H locs lsA hW hD hS hlo)
theorem app_get {α : Type} {w l : List α} {i : Nat} {x : α} (h : l[i]? = some x) : (w ++ l)[w.length + i]? = some x := by
  rw [List.getElem?_append_right (by omega)]
  simpa using h
theorem app_set {α : Type} {w l : List α} {i : Nat} {x : α} : (w ++ l).set (w.length + i) x = w ++ l.set i x := by
  rw [List.set_append, if_neg (by omega)]
  congr 2
  omega
theorem wn_get {idx i q ci j : Nat} {fs : List Value} {v : Value} (hd : decode M.2.1 pc = .ok (.getfield idx, 3)) (hl : FL M.1.cls idx ci j) (he : l[i]? = some (q, .inr (ci, fs))) (hv : fs[j]? = some v) (kk : Wn M d nc ns c P ws0 (pc + 3) ls (v :: st) l k n) : Wn M d nc ns c P ws0 pc ls (.ref q :: st) l k n := by
  intro a X hP H locs lsA hW hD hS hlo
  obtain ⟨hci, hj, hsame, hlk⟩ := hl
  have X2 := X
  obtain ⟨hx, hb, hml, hown, hts, hN, hK, -⟩ := X2
  rcases hlk with hlk | ⟨host, hlk⟩
  · exact va_get hx hb hts (cT_in hci) hown hK hW (ws0.length + i) (app_get he) (cT_at hci) j hj (hts _ hlk) (fun x h => by rw [← hsame]; exact h) hv hd (kk a X hP H locs lsA hW hD hS hlo)
  · exact va_getN hx hb hts (cT_in hci) hown hK hW (ws0.length + i) (app_get he) (cT_at hci) j hj ((hN _ hlk).use rfl) (fun x h => by rw [← hsame]; exact h) hv hd (kk a X hP H locs lsA hW hD hS hlo)
theorem wn_put {idx i q ci j : Nat} {fs : List Value} {v : Value} {l' : va_W} (hd : decode M.2.1 pc = .ok (.putfield idx, 3)) (hl : FL M.1.cls idx ci j) (hln : Cond.fieldLink M.1.cls idx (cT ci).1 ((cT ci).2.1 j).2.1 ((cT ci).2.1 j).2.2.1 ∈ gtb) (he : l[i]? = some (q, .inr (ci, fs))) (hfin : ((cT ci).2.1 j).2.2.2 = false ∨ (M.1.name = "<init>" ∧ ((cT ci).2.1 j).1 = M.1.cls)) (hn : narrow (tT ci j) v = v) (hfit : fits (tT ci j) v = true) (hle : j < fs.length) (hs : l.set i (q, .inr (ci, fs.set j v)) = l') (kk : Wn M d nc ns c P ws0 (pc + 3) ls st l' k n) : Wn M d nc ns c P ws0 pc ls (v :: .ref q :: st) l k n := by
  intro a X hP H locs lsA hW hD hS hlo
  obtain ⟨hci, hj, hsame, -⟩ := hl
  have X2 := X
  obtain ⟨hx, hb, hml, hown, hts, hN, hK, -, -, -, -, -, -, -, hnm⟩ := X2
  cases hf : ((cT ci).2.1 j).2.2.2 with
  | false => exact va_put hx hb hts (cT_in hci) (tT ci) (cT_ty hci) (cT_nm hci) hown hK hW hD hS (ws0.length + i) (app_get he) (cT_at hci) j hj (hts _ hln) (fun x h => by rw [← hsame]; exact h) hf (cT_ty hci j hj) hn hfit hle hd (fun H1 locs1 h1 h2 h3 => kk a X hP H1 locs1 lsA (by rw [app_set, hs] at h1; exact h1) (by rw [app_set, hs] at h2; exact h2) h3 hlo)
  | true =>
    rcases hfin with z | ⟨z1, z2⟩
    · rw [hf] at z
      cases z
    exact va_putF hx hb hts (cT_in hci) (tT ci) (cT_ty hci) (cT_nm hci) hown hK hW hD hS (ws0.length + i) (app_get he) (cT_at hci) j hj (hts _ hln) (fun x h => by rw [← hsame]; exact h) hf (hnm z1) z2 (cT_ty hci j hj) hn hfit hle hd (fun H1 locs1 h1 h2 h3 => kk a X hP H1 locs1 lsA (by rw [app_set, hs] at h1; exact h1) (by rw [app_set, hs] at h2; exact h2) h3 hlo)
theorem wn_new {idx ci : Nat} {fs : List Value} {N : Nat} (hd : decode M.2.1 pc = .ok (.new idx, 3)) (hci : ci < 10) (hN' : (cT ci).2.2 = N) (hw : Cond.classLink M.1.cls idx (cT ci).1 ∈ gtb ∧ Cond.instantiable (cT ci).1 (cT ci).2.2 ∈ gtb ∧ Cond.initialized (cT ci).1 ∈ gtb) (hfs : ∀ j, j < (cT ci).2.2 → defaultValue (tT ci j) = vp_V fs j) (hk : k + 1 ≤ nc) (hn : n + N ≤ ns) (kk : ∀ q : Nat, Wn M d nc ns c P ws0 (pc + 3) ls (.ref q :: st) (l ++ [(q, .inr (ci, fs))]) (k + 1) (n + N)) : Wn M d nc ns c P ws0 pc ls st l k n := by
  intro a X hP H locs lsA hW hD hS hlo
  subst hN'
  have X2 := X
  obtain ⟨hx, hb, hml, hown, hts, hN, hK, hA, hf1, hf2, hf3, hf4, -⟩ := X2
  refine va_new hx hb hts (cT_in hci) (tT ci) (cT_ty hci) hown (hts _ hw.1) (hts _ hw.2.1) (hts _ hw.2.2) hK hW hD hS hA (cT_at hci) hfs (by omega) (by omega) hd (fun q H1 h1 h2 h3 => kk q a X hP H1 locs lsA (by rw [List.append_assoc] at h1; exact h1) (by rw [List.append_assoc] at h2; exact h2) h3 hlo)
theorem cls_one {s : State} {D : va_G} {tys : List (ClassId × FieldType)} {c1 cA : ClassId} {ty : FieldType} (hty : refKind ty = false) {i : Nat} (h1 : va_K D vwCl (tys ++ [(cA, ty)]) s) (h2 : tys[i]? = some (c1, ty)) : cA = c1 := by
  have e1 := (h1.2 i (c1, ty) (by rw [List.getElem?_append_left (List.getElem?_eq_some_iff.mp h2).1]; exact h2)).2
  have e2 := (h1.2 tys.length (cA, ty) (by simp)).2
  cases ty <;> first | (simp [refKind] at hty; done) | exact Option.some.inj (e2.symm.trans e1)
theorem wn_newI {z : Int32} {N : Nat} (hd : decode M.2.1 pc = .ok (.newarray .int, 2)) (hz : ¬ z < 0) (hN' : z.toNatClampNeg = N) (hsm : N ≤ 100000) (hk : k + 1 ≤ nc) (hn : n + N ≤ ns) (kk : ∀ q : Nat, Wn M d nc ns c P ws0 (pc + 2) ls (.ref q :: st) (l ++ [(q, .inl (c.1, N, .inl (fun _ => 0)))]) (k + 1) (n + N)) : Wn M d nc ns c P ws0 pc ls (.int z :: st) l k n := by
  intro a X hP H locs lsA hW hD hS hlo
  have X2 := X
  obtain ⟨hx, hb, hml, hown, hts, hN, hK, hA, hf1, hf2, hf3, hf4, -⟩ := X2
  refine va_newa (atype := .int) (a0 := (N, .inl (fun _ => 0))) hx hb (hts _ arr_w.1) rfl hK hW hD hS hA (fun _ => rfl) hz hN' (by show N * 4 ≤ _; omega) (by omega) (by omega) hd (fun q cA H1 h0 h1 h2 h3 => ?_)
  obtain rfl := cls_one rfl (i := 0) h0 rfl
  exact kk q a X hP H1 locs lsA (by rw [List.append_assoc] at h1; exact h1) (by rw [List.append_assoc] at h2; exact h2) h3 hlo
theorem wn_newB {z : Int32} {N : Nat} (hd : decode M.2.1 pc = .ok (.newarray .byte, 2)) (hz : ¬ z < 0) (hN' : z.toNatClampNeg = N) (hsm : N ≤ 100000) (hk : k + 1 ≤ nc) (hn : n + N ≤ ns) (kk : ∀ q : Nat, Wn M d nc ns c P ws0 (pc + 2) ls (.ref q :: st) (l ++ [(q, .inl (c.2.1, N, .inl (fun _ => 0)))]) (k + 1) (n + N)) : Wn M d nc ns c P ws0 pc ls (.int z :: st) l k n := by
  intro a X hP H locs lsA hW hD hS hlo
  have X2 := X
  obtain ⟨hx, hb, hml, hown, hts, hN, hK, hA, hf1, hf2, hf3, hf4, -⟩ := X2
  refine va_newa (atype := .byte) (a0 := (N, .inl (fun _ => 0))) hx hb (hts _ arr_w.2.1) rfl hK hW hD hS hA (fun _ => rfl) hz hN' (by show N * 1 ≤ _; omega) (by omega) (by omega) hd (fun q cA H1 h0 h1 h2 h3 => ?_)
  obtain rfl := cls_one rfl (i := 1) h0 rfl
  exact kk q a X hP H1 locs lsA (by rw [List.append_assoc] at h1; exact h1) (by rw [List.append_assoc] at h2; exact h2) h3 hlo
theorem wn_newJ {z : Int32} {N : Nat} (hd : decode M.2.1 pc = .ok (.newarray .long, 2)) (hz : ¬ z < 0) (hN' : z.toNatClampNeg = N) (hsm : N ≤ 100000) (hk : k + 1 ≤ nc) (hn : n + N ≤ ns) (kk : ∀ q : Nat, Wn M d nc ns c P ws0 (pc + 2) ls (.ref q :: st) (l ++ [(q, .inl (c.2.2, N, .inr (.inl (fun _ => 0))))]) (k + 1) (n + N)) : Wn M d nc ns c P ws0 pc ls (.int z :: st) l k n := by
  intro a X hP H locs lsA hW hD hS hlo
  have X2 := X
  obtain ⟨hx, hb, hml, hown, hts, hN, hK, hA, hf1, hf2, hf3, hf4, -⟩ := X2
  refine va_newa (atype := .long) (a0 := (N, .inr (.inl (fun _ => 0)))) hx hb (hts _ arr_w.2.2) rfl hK hW hD hS hA (fun _ => rfl) hz hN' (by show N * 8 ≤ _; omega) (by omega) (by omega) hd (fun q cA H1 h0 h1 h2 h3 => ?_)
  obtain rfl := cls_one rfl (i := 2) h0 rfl
  exact kk q a X hP H1 locs lsA (by rw [List.append_assoc] at h1; exact h1) (by rw [List.append_assoc] at h2; exact h2) h3 hlo
/-- a constructor of ours, on the cell that was made last -/
theorem wn_ctor {idx q d' nc' ns' ci : Nat} {N : MD} {As rest : List Value} {fs : List Value} {l1 : va_W} {post : (Nat → Nat) → va_W} (hd : decode M.2.1 pc = .ok (.invokespecial idx, 3)) (hl : ML M.1.cls idx N.1) (hm : MOk N As.length) (hv : Cond.instanceMethod N.1 ∈ gtb ∧ N.1.name = "<init>") (hret : N.2.2.2 = none) (hst : st = As.reverse ++ .ref q :: rest) (hl1 : l = l1 ++ [(q, .inr (ci, fs))]) (hct : Cc d' N c (.ref q :: As) [(q, .inr (ci, fs))] nc' ns' post) (hdd : d' + 1 ≤ d) (hrs : (rest.map fun v => v.category).sum ≤ 8) (hk : k + nc' ≤ nc) (hn : n + ns' ≤ ns) (kk : ∀ f : Nat → Nat, Wn M d nc ns c P ws0 (pc + 3) ls rest (l1 ++ post f) (k + nc') (n + ns')) : Wn M d nc ns c P ws0 pc ls st l k n := by
  intro a X hP H locs lsA hW hD hS hlo
  subst hl1
  rw [← List.append_assoc] at hW hD
  have X2 := X
  obtain ⟨hx, hb, hml, hown, hts, hN, hK, hA, hf1, hf2, hf3, hf4, -⟩ := X2
  have hM := hct (a_l a) (a_D a) (ws0 ++ l1) H.size d' (60 * d') (Nat.le_refl _) (Nat.le_refl _)
  have hG := hm.good
  obtain ⟨m1, m2, m3, m4⟩ := hm
  have hF : ∀ x, va_A ((ws0 ++ l1) ++ [(q, .inr (ci, fs))]) H.size x → a_A a x := by
    rintro x (⟨i, e, h⟩ | h)
    · exact hD.2 i (x, e) h
    · exact hA x (Nat.le_trans hS.1 h)
  have hpre : PreS (a_s a) H (va_Pc (.ref q :: As) (fun U => U.heap.size = H.size ∧ va_P (a_D a) vwCl ((ws0 ++ l1) ++ [(q, .inr (ci, fs))]) U.heap ∧ va_K (a_D a) vwCl (T3 c) U ∧ nOK U ∧ va_D (fun _ => True) ((ws0 ++ l1) ++ [(q, .inr (ci, fs))]))) (.ref q :: As) :=
    ⟨fun v U g mk z => ⟨z.1, z.2.1, z.2.2.1, va_K.moved (u := U) (U := U.calling g mk v) (Vm.Alike.refl U.vm) z.2.2.2.1, nOK.same (u := U) (U := U.calling g mk v) rfl z.2.2.2.2.1, z.2.2.2.2.2⟩, fun U hU hWm => ⟨rfl, by rw [hU], by rw [hU]; exact hW, va_K.moved hWm.alike hK, nOK.warm hWm hN, hD.weaken (fun _ _ _ _ => trivial)⟩⟩
  have go : ∀ (f : Nat → Nat) (t : State) (H1 : Heap) (locs1 : List Loc), t.heap = H1 → (a_s a).vm.Alike t.vm → True → (va_P (a_D a) vwCl ((ws0 ++ l1) ++ post f) t.heap ∧ va_D (va_A ((ws0 ++ l1) ++ [(q, .inr (ci, fs))]) H.size) ((ws0 ++ l1) ++ post f)) → H.size ≤ H1.size → (∀ x : Nat, x < H.size → ¬ va_A ((ws0 ++ l1) ++ [(q, .inr (ci, fs))]) H.size x → H1[x]? = H[x]?) → va_S (a_A a) (a_H0 a) H1 locs1 → W (a_p a) (a_l a) (a_e a) (a_R a) (a_s a) (a_m a) (a_args a) (a_below a) (a_meth a) (a_c a) H1 locs1 (k + nc') (n + ns') (a_Q a) (F0 (a_m a) (pc + 3) lsA rest) := by
    intro f t H1 locs1 e1 _ _ hB _ _ hS1
    obtain ⟨b1, b2⟩ := hB
    rw [e1, List.append_assoc] at b1
    have b3 : va_D (a_A a) ((ws0 ++ l1) ++ post f) := b2.weaken (fun _ x _ z => hF x.1 z)
    rw [List.append_assoc] at b3
    exact kk f a X hP H1 locs1 lsA b1 b3 hS1 hlo
  rw [hst]
  rcases hl with hl | ⟨host, hl⟩
  · exact va_callv (va_runI (n := As.length) (index := idx) (Ts := gtb) (own := M.1.cls) (bytes := N.2.1) (maxL := N.2.2.1) ⟨hx, hb, hml, hown, hts⟩ hM ⟨callB_of As.length hts hG (by rw [wsM, hret]) rfl rfl (hts _ m2) (hts _ hl) m3 ⟨by show d' + 1 ≤ _; omega, by show 8 + (N.2.2.1 + 11) + 60 * d' ≤ _; omega⟩, hv.2, hts _ hv.1⟩ hpre rfl rfl hlo.1 rfl (lv_room hrs) hd ⟨by omega, by omega⟩) hS (fun x _ h => hF x h) hF go
  · exact va_callv (va_runIN (n := As.length) (index := idx) (Ts := gtb) (own := M.1.cls) (host := host) (bytes := N.2.1) (maxL := N.2.2.1) ⟨hx, hb, hml, hown, hts⟩ hM ⟨va_cnB As.length hts hG (by rw [wsM, hret]) rfl rfl (hN _ hl) (hts _ m2) m3 ⟨by show d' + 1 ≤ _; omega, by show 8 + (N.2.2.1 + 11) + 60 * d' ≤ _; omega⟩, hv.2, hts _ hv.1⟩ hpre rfl rfl hlo.1 rfl (lv_room hrs) hd ⟨by omega, by omega⟩) hS (fun x _ h => hF x h) hF go
theorem wn_ret {post : (Nat → Nat) → va_W} (f : Nat → Nat) (hd : decode M.2.1 pc = .ok (.return_, 1)) (hr : M.2.2.2 = none) (hp : post f = l) : Wn M d nc ns c (PN ws0 post nc ns) ws0 pc ls [] l nc ns := by
  intro a X hP H locs lsA hW hD hS hlo
  obtain ⟨hx, hb, hml, hown, hts, hN, hK, -, -, -, -, -, hret, hlocks, -⟩ := X
  obtain ⟨hQ, h0⟩ := hP
  rw [hQ]
  rw [h0] at hS
  subst hp
  exact W.vret hx hb (hret.trans hr) (fun t ht _ => ⟨⟨f, rfl, trivial, by rw [ht]; exact hW, hD⟩, hS.F ht⟩) hS.2.2 hd hlocks
theorem wn_iload_n {q : Fin 4} {i : Nat} {x : Int32} (hd : decode M.2.1 pc = .ok (.iload_n q, 1)) (hi : (q : Nat) = i) (h : ls[i]? = some (some (.int x))) (kk : Wn M d nc ns c P ws0 (pc + 1) ls (.int x :: st) l k n) : Wn M d nc ns c P ws0 pc ls st l k n :=
  fun a X hP H locs lsA hW hD hS hl => lv_iload_n X.1 X.2.1 hd hi (hl.2.2 i _ h) (kk a X hP H locs lsA hW hD hS hl)
theorem wn_istore_n {q : Fin 4} {i : Nat} {x : Int32} {ls' : List (Option Value)} (hd : decode M.2.1 pc = .ok (.istore_n q, 1)) (hi : (q : Nat) = i) (hn : i < M.2.2.1) (hz : noL ls i = true) (hs : ls.set i (some (.int x)) = ls') (kk : Wn M d nc ns c P ws0 (pc + 1) ls' st l k n) : Wn M d nc ns c P ws0 pc ls (.int x :: st) l k n :=
  fun a X hP H locs lsA hW hD hS hl => lv_istore_n X.1 X.2.1 hd hi hl.has hn rfl (fun lsB hB => kk a X hP H locs lsB hW hD hS (hs ▸ Lok.st1 (v := .int x) hz hB))
theorem wn_inc {i : Nat} {z : Int} {x v : Int32} {ls' : List (Option Value)} (hd : decode M.2.1 pc = .ok (.iinc i z, 3)) (h : ls[i]? = some (some (.int x))) (hv : x + Int32.ofInt z = v) (hn : i < M.2.2.1) (hz : noL ls i = true) (hs : ls.set i (some (.int v)) = ls') (kk : Wn M d nc ns c P ws0 (pc + 3) ls' st l k n) : Wn M d nc ns c P ws0 pc ls st l k n := by
  intro a X hP H locs lsA hW hD hS hl
  obtain ⟨q, hq⟩ := List.getElem?_of_mem (asl_mem (ad := fun q => q) h)
  exact lv_iinc X.1 X.2.1 hd hl.has hq hv hn rfl (fun lsB hB => kk a X hP H locs lsB hW hD hS (hs ▸ Lok.st1 (v := .int v) hz hB))
theorem wn_icmp_ge {x y : Int32} {off : Int} {tgt : Nat} (hd : decode M.2.1 pc = .ok (.if_icmp .ge off, 3)) (ht : (pc : Int) + off = (tgt : Int)) (kt : y ≤ x → Wn M d nc ns c P ws0 tgt ls st l k n) (kf : ¬ y ≤ x → Wn M d nc ns c P ws0 (pc + 3) ls st l k n) : Wn M d nc ns c P ws0 pc ls (.int y :: .int x :: st) l k n :=
  fun a X hP H locs lsA hW hD hS hl => lv_icmp_ge X.1 X.2.1 hd ht (fun h => kt h a X hP H locs lsA hW hD hS hl) (fun h => kf h a X hP H locs lsA hW hD hS hl)
theorem wn_goto {off : Int} {tgt : Nat} (hd : decode M.2.1 pc = .ok (.goto off, 3)) (ht : (pc : Int) + off = (tgt : Int)) (kk : Wn M d nc ns c P ws0 tgt ls st l k n) : Wn M d nc ns c P ws0 pc ls st l k n :=
  fun a X hP H locs lsA hW hD hS hl => lv_goto X.1 X.2.1 hd ht (kk a X hP H locs lsA hW hD hS hl)
theorem wn_alen {i q N : Nat} {f : Nat → Int32} (hd : decode M.2.1 pc = .ok (.arraylength, 1)) (he : l[i]? = some (q, .inl (c.1, N, .inl f))) (kk : Wn M d nc ns c P ws0 (pc + 1) ls (.int (nI N) :: st) l k n) : Wn M d nc ns c P ws0 pc ls (.ref q :: st) l k n :=
  fun a X hP H locs lsA hW hD hS hl => va_alen X.1 X.2.1 X.2.2.2.2.2.2.1 hW (ws0.length + i) 0 (app_get he) rfl rfl hd (kk a X hP H locs lsA hW hD hS hl)
theorem wn_pI {i q N : Nat} {f : Nat → Int32} {x v : Int32} {l' : va_W} (hd : decode M.2.1 pc = .ok (.iastore, 1)) (he : l[i]? = some (q, .inl (c.1, N, .inl f))) (hin : vp_in x N) (hs : l.set i (q, .inl (c.1, N, .inl (upd f x.toNatClampNeg v))) = l') (kk : Wn M d nc ns c P ws0 (pc + 1) ls st l' k n) : Wn M d nc ns c P ws0 pc ls (.int v :: .int x :: .ref q :: st) l k n :=
  fun a X hP H locs lsA hW hD hS hl => va_iast X.1 X.2.1 X.2.2.2.2.2.2.1 hW hD hS (ws0.length + i) 0 (app_get he) rfl hin hd (fun H1 locs1 h1 h2 h3 => kk a X hP H1 locs1 lsA (by rw [app_set, hs] at h1; exact h1) (by rw [app_set, hs] at h2; exact h2) h3 hl)
theorem wn_stat {idx d' : Nat} {N : MD} {As rest : List Value} {l0 l1 : va_W} {post : (Nat → Nat) → va_W} (hd : decode M.2.1 pc = .ok (.invokestatic idx, 3)) (hl : Cond.methodLink M.1.cls idx N.1 ∈ gtb) (hm : MOk N As.length) (hv : Cond.static N.1 ∈ gtb) (hst : st = As.reverse ++ rest) (hl1 : l = l1 ++ l0) (hct : Cc d' N c As l0 0 0 post) (hdd : d' + 1 ≤ d) (hrs : (rest.map fun v => v.category).sum ≤ 8) (hk : k ≤ nc) (hn : n ≤ ns) (kk : ∀ f : Nat → Nat, Wn M d nc ns c P ws0 (pc + 3) ls rest (l1 ++ post f) k n) : Wn M d nc ns c P ws0 pc ls st l k n := by
  intro a X hP H locs lsA hW hD hS hlo
  subst hl1
  rw [← List.append_assoc] at hW hD
  have X2 := X
  obtain ⟨hx, hb, hml, hown, hts, hN, hK, hA, hf1, hf2, hf3, hf4, -⟩ := X2
  have hM := hct (a_l a) (a_D a) (ws0 ++ l1) H.size d' (60 * d') (Nat.le_refl _) (Nat.le_refl _)
  have hG := hm.good
  obtain ⟨m1, m2, m3, m4⟩ := hm
  have hF : ∀ x, va_A ((ws0 ++ l1) ++ l0) H.size x → a_A a x := by
    rintro x (⟨i, e, h⟩ | h)
    · exact hD.2 i (x, e) h
    · exact hA x (Nat.le_trans hS.1 h)
  have hpre : PreS (a_s a) H (va_Pc As (fun U => U.heap.size = H.size ∧ va_P (a_D a) vwCl ((ws0 ++ l1) ++ l0) U.heap ∧ va_K (a_D a) vwCl (T3 c) U ∧ nOK U ∧ va_D (fun _ => True) ((ws0 ++ l1) ++ l0))) As :=
    ⟨fun v U g mk z => ⟨z.1, z.2.1, z.2.2.1, va_K.moved (u := U) (U := U.calling g mk v) (Vm.Alike.refl U.vm) z.2.2.2.1, nOK.same (u := U) (U := U.calling g mk v) rfl z.2.2.2.2.1, z.2.2.2.2.2⟩, fun U hU hWm => ⟨rfl, by rw [hU], by rw [hU]; exact hW, va_K.moved hWm.alike hK, nOK.warm hWm hN, hD.weaken (fun _ _ _ _ => trivial)⟩⟩
  have go : ∀ (f : Nat → Nat) (t : State) (H1 : Heap) (locs1 : List Loc), t.heap = H1 → (a_s a).vm.Alike t.vm → True → (va_P (a_D a) vwCl ((ws0 ++ l1) ++ post f) t.heap ∧ va_D (va_A ((ws0 ++ l1) ++ l0) H.size) ((ws0 ++ l1) ++ post f)) → H.size ≤ H1.size → (∀ x : Nat, x < H.size → ¬ va_A ((ws0 ++ l1) ++ l0) H.size x → H1[x]? = H[x]?) → va_S (a_A a) (a_H0 a) H1 locs1 → W (a_p a) (a_l a) (a_e a) (a_R a) (a_s a) (a_m a) (a_args a) (a_below a) (a_meth a) (a_c a) H1 locs1 (k + 0) (n + 0) (a_Q a) (F0 (a_m a) (pc + 3) lsA rest) := by
    intro f t H1 locs1 e1 _ _ hB _ _ hS1
    obtain ⟨b1, b2⟩ := hB
    rw [e1, List.append_assoc] at b1
    have b3 : va_D (a_A a) ((ws0 ++ l1) ++ post f) := b2.weaken (fun _ x _ z => hF x.1 z)
    rw [List.append_assoc] at b3
    exact kk f a X hP H1 locs1 lsA b1 b3 hS1 hlo
  rw [hst]
  exact va_callv (va_runS (n := As.length) (index := idx) (Ts := gtb) (own := M.1.cls) (bytes := N.2.1) (maxL := N.2.2.1) (ret := N.2.2.2) ⟨hx, hb, hml, hown, hts⟩ hM ⟨callB_of As.length hts hG rfl rfl rfl (hts _ m2) (hts _ hl) m3 ⟨by show d' + 1 ≤ _; omega, by show 8 + (N.2.2.1 + 11) + 60 * d' ≤ _; omega⟩, hts _ hv⟩ hpre rfl rfl hlo.1 rfl (lv_room hrs) hd ⟨by omega, by omega⟩) hS (fun x _ h => hF x h) hF go
theorem arr_ext {cA : ClassId} {N : Nat} {f g : Nat → Int32} (h : ∀ j, j < N → f j = g j) : vp_cell cA (N, .inl f) = vp_cell cA (N, .inl g) := by
  simp only [vp_cell, arrV]
  congr 1
  congr 1
  funext j
  rw [h j.val j.isLt]
theorem wn_ext {q N : Nat} {cA : ClassId} {f g : Nat → Int32} (h : ∀ j, j < N → f j = g j) (kk : Wn M d nc ns c P ws0 pc ls st [(q, .inl (cA, N, .inl g))] k n) : Wn M d nc ns c P ws0 pc ls st [(q, .inl (cA, N, .inl f))] k n := by
  intro a X hP H locs lsA hW hD hS hlo
  refine kk a X hP H locs lsA (fun i x hx => ?_) ⟨fun i j x y hx hy e => ?_, fun i x hx => ?_⟩ hS hlo
  · rcases Nat.lt_or_ge i ws0.length with z | z
    · rw [List.getElem?_append_left z] at hx
      exact hW i x (by rw [List.getElem?_append_left z]; exact hx)
    · rw [List.getElem?_append_right z] at hx
      have hi : i - ws0.length = 0 := by
        have := (List.getElem?_eq_some_iff.mp hx).1
        simp at this
        omega
      rw [hi] at hx
      cases hx
      have h2 := hW i (q, .inl (cA, N, .inl f)) (by rw [List.getElem?_append_right z, hi]; rfl)
      show H[q]? = some (vp_cell cA (N, .inl g))
      rw [← arr_ext h]
      exact h2
  · have addr : ∀ (i : Nat) (x : Nat × va_E), (ws0 ++ [(q, .inl (cA, N, .inl g))])[i]? = some x → ∃ x', (ws0 ++ [(q, .inl (cA, N, .inl f))])[i]? = some x' ∧ x'.1 = x.1 := by
      intro i x hx
      rcases Nat.lt_or_ge i ws0.length with z | z
      · rw [List.getElem?_append_left z] at hx
        exact ⟨x, by rw [List.getElem?_append_left z]; exact hx, rfl⟩
      · rw [List.getElem?_append_right z] at hx
        have hi : i - ws0.length = 0 := by
          have := (List.getElem?_eq_some_iff.mp hx).1
          simp at this
          omega
        rw [hi] at hx
        cases hx
        exact ⟨(q, .inl (cA, N, .inl f)), by rw [List.getElem?_append_right z, hi]; rfl, rfl⟩
    obtain ⟨x', hx', ex⟩ := addr i x hx
    obtain ⟨y', hy', ey⟩ := addr j y hy
    exact hD.1 i j x' y' hx' hy' (by rw [ex, ey, e])
  · rcases Nat.lt_or_ge i ws0.length with z | z
    · rw [List.getElem?_append_left z] at hx
      exact hD.2 i x (by rw [List.getElem?_append_left z]; exact hx)
    · rw [List.getElem?_append_right z] at hx
      have hi : i - ws0.length = 0 := by
        have := (List.getElem?_eq_some_iff.mp hx).1
        simp at this
        omega
      rw [hi] at hx
      cases hx
      exact hD.2 i (q, .inl (cA, N, .inl f)) (by rw [List.getElem?_append_right z, hi]; rfl)
end Grow
/-- Arrays.fill on the cell that was made last -/
theorem cc_fill (c : C3) (q N : Nat) (v : Int32) (f : Nat → Int32) (hN : N < 2 ^ 31) : Cc 0 m_J7_fill_53178 c [.ref q, .int v] [(q, .inl (c.1, N, .inl f))] 0 0 (fun _ => [(q, .inl (c.1, N, .inl (fun _ => v)))]) := by
  refine cc_of [some (.ref q), some (.int v), none, none] 2 (by decide) rfl (Nat.le_of_ble_eq_true rfl) (fun ws0 => ?_)
  have loop : ∀ (m i : Nat) (g : Nat → Int32), i ≤ N → N - i = m → (∀ j, j < i → g j = v) → Wn m_J7_fill_53178 0 0 0 c (PN ws0 (fun _ => [(q, .inl (c.1, N, .inl (fun _ => v)))]) 0 0) ws0 5 [some (.ref q), some (.int v), some (.int (nI i)), some (.int (nI N))] [] [(q, .inl (c.1, N, .inl g))] 0 0 := by
    intro m
    induction m with
    | zero =>
      intro i g hi hm hg
      obtain rfl : i = N := by omega
      refine wn_iload_n (i := 2) dJ7_fill_53178_5 rfl rfl ?_
      refine wn_iload_n (i := 3) dJ7_fill_53178_6 rfl rfl ?_
      refine wn_icmp_ge (tgt := 20) dJ7_fill_53178_7 (by decide) (fun _ => ?_) (fun z => absurd (nI_le (Nat.le_refl i) hN) z)
      refine wn_ext (g := fun _ => v) hg ?_
      exact wn_ret (fun _ => 0) dJ7_fill_53178_20 rfl rfl
    | succ m ih =>
      intro i g hi hm hg
      refine wn_iload_n (i := 2) dJ7_fill_53178_5 rfl rfl ?_
      refine wn_iload_n (i := 3) dJ7_fill_53178_6 rfl rfl ?_
      refine wn_icmp_ge (tgt := 20) dJ7_fill_53178_7 (by decide) (fun z => absurd z (nI_ge (by omega) hN)) (fun _ => ?_)
      refine wn_aload_n (i := 0) dJ7_fill_53178_10 rfl rfl ?_
      refine wn_iload_n (i := 2) dJ7_fill_53178_11 rfl rfl ?_
      refine wn_iload_n (i := 1) dJ7_fill_53178_12 rfl rfl ?_
      refine wn_pI (i := 0) dJ7_fill_53178_13 rfl (vp_in_nI (by omega) hN) rfl ?_
      refine wn_inc (v := nI (i + 1)) dJ7_fill_53178_14 rfl (by rw [nI_succ]; congr 1) (by decide) rfl rfl ?_
      refine wn_goto (tgt := 5) dJ7_fill_53178_17 (by decide) ?_
      refine ih (i + 1) _ (by omega) (by omega) (fun j hj => ?_)
      rw [nI_clamp (by omega)]
      by_cases e : j = i
      · subst e
        exact pk_us
      · rw [pk_un e]
        exact hg j (by omega)
  refine wn_iconst (v := 0) dJ7_fill_53178_0 (by decide +kernel) ?_
  refine wn_istore_n (i := 2) (ls' := [some (.ref q), some (.int v), some (.int 0), none]) dJ7_fill_53178_1 rfl (by decide) rfl rfl ?_
  refine wn_aload_n (i := 0) dJ7_fill_53178_2 rfl rfl ?_
  refine wn_alen (i := 0) dJ7_fill_53178_3 rfl ?_
  refine wn_istore_n (i := 3) (ls' := [some (.ref q), some (.int v), some (.int 0), some (.int (nI N))]) dJ7_fill_53178_4 rfl (by decide) rfl rfl ?_
  exact loop N 0 f (by omega) (by omega) (fun j hj => absurd hj (by omega))
