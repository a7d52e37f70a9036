/-! the judgement: the machine at a frame over the static world -/
abbrev Am : Type := Program × Launch × Env × Room × State × MethodId × Array Value × List Frame × Method × Code × Nat × Nat × (State → Prop) × (Nat → Nat) × (Nat → ClassId) × va_G × List (ClassId × FieldType) × (Nat → Prop) × Heap
abbrev a_p (a : Am) : Program := a.1
abbrev a_l (a : Am) : Launch := a.2.1
abbrev a_e (a : Am) : Env := a.2.2.1
abbrev a_R (a : Am) : Room := a.2.2.2.1
abbrev a_s (a : Am) : State := a.2.2.2.2.1
abbrev a_m (a : Am) : MethodId := a.2.2.2.2.2.1
abbrev a_args (a : Am) : Array Value := a.2.2.2.2.2.2.1
abbrev a_below (a : Am) : List Frame := a.2.2.2.2.2.2.2.1
abbrev a_meth (a : Am) : Method := a.2.2.2.2.2.2.2.2.1
abbrev a_c (a : Am) : Code := a.2.2.2.2.2.2.2.2.2.1
abbrev a_cells (a : Am) : Nat := a.2.2.2.2.2.2.2.2.2.2.1
abbrev a_slots (a : Am) : Nat := a.2.2.2.2.2.2.2.2.2.2.2.1
abbrev a_Q (a : Am) : State → Prop := a.2.2.2.2.2.2.2.2.2.2.2.2.1
abbrev a_ad (a : Am) : Nat → Nat := a.2.2.2.2.2.2.2.2.2.2.2.2.2.1
abbrev a_ca (a : Am) : Nat → ClassId := a.2.2.2.2.2.2.2.2.2.2.2.2.2.2.1
abbrev a_D (a : Am) : va_G := a.2.2.2.2.2.2.2.2.2.2.2.2.2.2.2.1
abbrev a_tys (a : Am) : List (ClassId × FieldType) := a.2.2.2.2.2.2.2.2.2.2.2.2.2.2.2.2.1
abbrev a_A (a : Am) : Nat → Prop := a.2.2.2.2.2.2.2.2.2.2.2.2.2.2.2.2.2.1
abbrev a_H0 (a : Am) : Heap := a.2.2.2.2.2.2.2.2.2.2.2.2.2.2.2.2.2.2
def tyc (t : Nat) : FieldType := match t with
  | 1 => .int
  | 2 => .byte
  | _ => .long
def tyOK (ca : Nat → ClassId) (tys : List (ClassId × FieldType)) : Prop := ∀ k, arT k ≠ 0 → ∃ t0 : Nat, tys[t0]? = some (ca k, tyc (arT k))
def injA (ad : Nat → Nat) : Prop := ∀ i j, i < shp.length → j < shp.length → ad i = ad j → i = j
def Aw (ad : Nat → Nat) (sz : Nat) : Nat → Prop := fun q => (∃ k, k < shp.length ∧ q = ad k) ∨ sz ≤ q
def nOK (U : State) : Prop := ∀ w ∈ ntb, va_Nw w U
theorem nest_of {w : Cond} (h : w ∈ ntb) : isNest w = true := (List.mem_filter.mp h).2
theorem nOK.same {u U : State} (h : u.vm = U.vm) (hN : nOK u) : nOK U := by
  intro w hw
  have h1 := hN w hw
  have h2 := nest_of hw
  cases w <;> first | (simp [isNest] at h2; done) | exact va_Nw.same rfl h h1
theorem nOK.warm {s U : State} (hW : s.WarmedH U.vm) (hN : nOK s) : nOK U := by
  intro w hw
  have h1 := hN w hw
  have h2 := nest_of hw
  cases w <;> first | (simp [isNest] at h2; done) | exact va_Nw.warmF hW h1 | exact va_Nw.warmM hW h1
/-- what stands around a frame of method M with d frames free for calls -/
def Cx (M : MD) (d : Nat) (a : Am) : Prop :=
  (a_p a).tables.exec = Jvm.exec ∧ (a_c a).code = M.2.1 ∧ (a_c a).maxLocals = M.2.2.1 ∧ (a_s a).vm.findClass M.1.cls = some (a_m a).cls ∧ (∀ w ∈ gtb, w.before (a_args a) (a_s a) = true) ∧ nOK (a_s a) ∧ va_K (a_D a) vwCl (a_tys a) (a_s a) ∧ tyOK (a_ca a) (a_tys a) ∧ injA (a_ad a) ∧ (∀ k, k < shp.length → a_A a (a_ad a k)) ∧ (∀ q, (a_H0 a).size ≤ q → a_A a q) ∧ d ≤ (a_R a).frames ∧ 60 * d ≤ (a_R a).locals ∧ a_cells a ≤ (a_R a).cells ∧ a_slots a ≤ (a_R a).slots ∧ (a_meth a).sig.returnType = M.2.2.2 ∧ (a_meth a).locks = false
theorem Cx.D {M : MD} {d : Nat} {a : Am} (X : Cx M d a) (σ : St) : va_D (a_A a) (wld (a_ad a) (a_ca a) σ) := by
  obtain ⟨-, -, -, -, -, -, -, -, hi, hA, -⟩ := X
  have hk : ∀ (i : Nat) (q : Nat × va_E), (wld (a_ad a) (a_ca a) σ)[i]? = some q → i < shp.length ∧ q.1 = a_ad a i := by
    intro i q h
    have hl : i < shp.length := by
      have h2 := (List.getElem?_eq_some_iff.mp h).1
      rwa [wld_len] at h2
    refine ⟨hl, ?_⟩
    rw [wld_get (List.getElem?_eq_getElem hl)] at h
    cases h
    rfl
  refine ⟨fun i j p q hp hq e => ?_, fun k q h => ?_⟩
  · obtain ⟨a1, a2⟩ := hk i p hp
    obtain ⟨b1, b2⟩ := hk j q hq
    exact hi i j a1 b1 (by rw [← a2, ← b2, e])
  · obtain ⟨a1, a2⟩ := hk k q h
    rw [a2]
    exact hA k a1
def Lok (ad : Nat → Nat) (lsA : Array Slot) (nL : Nat) (ls : List (Option Value)) : Prop := lsA.size = nL ∧ lv_wf lsA ∧ ∀ (i : Nat) (v : Value), ls[i]? = some (some v) → lsA[i]? = some (.val (cv ad v))
def Wp (M : MD) (d : Nat) (P : Am → Prop) (pc : Nat) (ls : List (Option Value)) (st : List Value) (σ : St) : Prop :=
  ∀ a : Am, Cx M d a → P a → ∀ (H : Heap) (locs : List Loc) (lsA : Array Slot), va_P (a_D a) vwCl (wld (a_ad a) (a_ca a) σ) H → va_S (a_A a) (a_H0 a) H locs → Lok (a_ad a) lsA M.2.2.1 ls →
    W (a_p a) (a_l a) (a_e a) (a_R a) (a_s a) (a_m a) (a_args a) (a_below a) (a_meth a) (a_c a) H locs (a_cells a) (a_slots a) (a_Q a) (F0 (a_m a) pc lsA (st.map (cv (a_ad a))))
def Qcv (A : Nat → Prop) (D : va_G) (ad : Nat → Nat) (ca : Nat → ClassId) (r : Option Value) (σ' : St) : Array Value → State → Outcome → State → Prop := fun _ st oc t => oc = .returned (r.map (cv ad)) ∧ va_P D vwCl (wld ad ca σ') t.heap ∧ va_F A st t
def Pcv (D : va_G) (ad : Nat → Nat) (ca : Nat → ClassId) (tys : List (ClassId × FieldType)) (sz : Nat) (vs : List Value) (σ : St) : Array Value → State → Prop := va_Pc (vs.map (cv ad)) (fun U => U.heap.size = sz ∧ va_P D vwCl (wld ad ca σ) U.heap ∧ va_K D vwCl tys U ∧ nOK U)
def PR (r : Option Value) (σ' : St) (a : Am) : Prop := a_Q a = MQ (a_below a) (Qcv (a_A a) (a_D a) (a_ad a) (a_ca a) r σ') (a_args a) (a_s a) (a_cells a) (a_slots a) (a_A a) ∧ a_H0 a = (a_s a).heap
def wsM (M : MD) : List Cond := Cond.code M.1 M.2.1 M.2.2.1 M.2.2.2 :: gtb
/-- method M, called with vs in state σ, answers r and leaves σ', with d frames free below it -/
def Ct (d : Nat) (M : MD) (vs : List Value) (σ : St) (r : Option Value) (σ' : St) : Prop :=
  ∀ (l : Launch) (D : va_G) (ad : Nat → Nat) (ca : Nat → ClassId) (tys : List (ClassId × FieldType)) (sz fr lo : Nat), d ≤ fr → 60 * d ≤ lo → injA ad → tyOK ca tys →
    Met l M.1 (wsM M) { frames := fr, cells := 0, slots := 0, locals := lo } (Pcv D ad ca tys sz vs σ) (Qcv (Aw ad sz) D ad ca r σ') 0 0 (Aw ad sz)
def ent : List Value → List (Option Value)
  | [] => []
  | .long x :: vs => some (.long x) :: none :: ent vs
  | .double x :: vs => some (.double x) :: none :: ent vs
  | v :: vs => some v :: ent vs
theorem cv_cat (ad : Nat → Nat) (v : Value) : (cv ad v).category = v.category := by cases v <;> rfl
theorem ent_cons (v : Value) (vs : List Value) : ent (v :: vs) = some v :: ((if v.category = 2 then [none] else []) ++ ent vs) := by cases v <;> rfl
theorem ent_at (ad : Nat → Nat) (vs : List Value) : ∀ (k i : Nat) (v : Value), (ent vs)[i]? = some (some v) → (k + i, cv ad v) ∈ lv_args k (vs.map (cv ad)) := by
  induction vs with
  | nil => intro k i v h; simp [ent] at h
  | cons w vs ih =>
    intro k i v h
    rw [ent_cons] at h
    simp only [List.map_cons, lv_args, List.mem_cons, cv_cat]
    cases i with
    | zero =>
      simp at h
      exact Or.inl (by rw [h]; rfl)
    | succ i =>
      right
      simp only [List.getElem?_cons_succ] at h
      by_cases hc : w.category = 2
      · simp only [hc, if_true] at h ⊢
        cases i with
        | zero => simp at h
        | succ i =>
          have h2 := ih (k + 2) i v (by simpa using h)
          rw [show k + (i + 1 + 1) = k + 2 + i by omega]
          exact h2
      · simp only [hc, if_false] at h ⊢
        have h2 := ih (k + 1) i v (by simpa using h)
        rw [show k + (i + 1) = k + 1 + i by omega]
        exact h2
theorem ent_len (ad : Nat → Nat) (vs : List Value) : (lg_sl (vs.map (cv ad))).length = (ent vs).length := by
  induction vs with
  | nil => rfl
  | cons w vs ih =>
    rw [ent_cons]
    simp only [List.map_cons, lg_sl, List.flatMap_cons, List.length_append, cv_cat]
    have h2 : (List.flatMap (fun v : Value => if v.category = 2 then [Slot.val v, Slot.second] else [Slot.val v]) (vs.map (cv ad))).length = (ent vs).length := ih
    rw [h2]
    by_cases hc : w.category = 2 <;> simp [hc] <;> omega
/-- a contract out of a walk from the entry -/
theorem ct_of {d : Nat} {M : MD} {vs : List Value} {σ σ' : St} {r : Option Value} (ls0 : List (Option Value)) (n : Nat) (hy : plainName M.1.cls = true) (hls : ent vs ++ List.replicate n none = ls0) (hlen : (ent vs).length ≤ M.2.2.1) (k : Wp M d (PR r σ') 0 ls0 [] σ) : Ct d M vs σ r σ' := by
  intro l D ad ca tys sz fr lo hfr hlo hinj hty
  refine Met.ofW (cc := M.2.1) (maxL := M.2.2.1) (ret := M.2.2.2) (ws' := gtb) hy rfl ?_
  intro p e s m args below meth c s₁ B hml hv
  obtain ⟨rfl, hsz, hP, hK, hN⟩ := hv
  have hts := atoms_spec (ws := wsM M) B.pre
  subst hsz
  have hl := lv_entry (vs.map (cv ad)) (n := M.2.2.1) (by rw [ent_len]; exact hlen)
  rw [lg_entry_eq]
  generalize (lg_sl (vs.map (cv ad)) ++ List.replicate (M.2.2.1 - (lg_sl (vs.map (cv ad))).length) Slot.unset).toArray = lsA at hl ⊢
  refine k (p, l, e, (headSpec (wsM M) { frames := fr, cells := 0, slots := 0, locals := lo }).room, s, m, (vs.map (cv ad)).toArray, below, meth, c, 0, 0, _, ad, ca, D, tys, Aw ad s.heap.size, s.heap) ⟨B.exec, B.bytes, hml, findClass_of_methodNamed B.named, fun w hw => hts w (List.mem_cons_of_mem _ hw), hN, hK, hty, hinj, fun k hk => Or.inl ⟨k, hk, rfl⟩, fun q h => Or.inr h, hfr, hlo, Nat.zero_le _, Nat.zero_le _, B.returns, B.notSynchronized⟩ ⟨rfl, rfl⟩ s.heap [] lsA hP va_S.rf ⟨hl.1, hl.2.1, fun i v h => ?_⟩
  have h2 : (ent vs)[i]? = some (some v) := by
    rw [← hls] at h
    rcases Nat.lt_or_ge i (ent vs).length with q | q
    · rwa [List.getElem?_append_left q] at h
    · rw [List.getElem?_append_right q, List.getElem?_replicate] at h
      split at h <;> cases h
  have h3 := ent_at ad vs 0 i v h2
  have h4 := hl.2.2 _ h3
  simpa using h4
