/-! THE ENGINE: a static world of cells (shape 'shp'), its state St, and the judgement Wp (the machine at a frame over that world), a row an instruction -/
abbrev St : Type := (Nat → Nat → Int32) × (Nat → Nat → Int64) × Option Nat
abbrev MD : Type := MethodName × ByteArray × Nat × Option FieldType
def kdO (g j : Nat) : Option Nat := match shp[g]? with
  | some (0, _, ks) => ks[j]?
  | _ => none
def clO (g : Nat) : Nat := match shp[g]? with
  | some (0, ci, _) => ci
  | _ => 99
def arT (k : Nat) : Nat := match shp[k]? with
  | some (t, _, _) => t
  | _ => 0
def arN (k : Nat) : Nat := match shp[k]? with
  | some (_, n, _) => n
  | _ => 0
def rf (g j : Nat) : Nat := match kdO g j with
  | some k => k - 3
  | none => 0
def cv (ad : Nat → Nat) (v : Value) : Value := match v with
  | .ref k => .ref (ad k)
  | v => v
def fv (ad : Nat → Nat) (σ : St) (k j kd : Nat) : Value := match kd with
  | 0 => .int (σ.1 k j)
  | 1 => .long (σ.2.1 k j)
  | 2 => va_rf (σ.2.2.map ad)
  | t + 3 => .ref (ad t)
def cel (ad : Nat → Nat) (ca : Nat → ClassId) (σ : St) (k : Nat) (s : Nat × Nat × List Nat) : va_E := match s.1 with
  | 0 => .inr (s.2.1, s.2.2.mapIdx (fun j kd => fv ad σ k j kd))
  | 1 => .inl (ca k, s.2.1, .inl (σ.1 k))
  | 2 => .inl (ca k, s.2.1, .inl (σ.1 k))
  | _ => .inl (ca k, s.2.1, .inr (.inl (σ.2.1 k)))
def wld (ad : Nat → Nat) (ca : Nat → ClassId) (σ : St) : va_W := shp.mapIdx (fun k s => (ad k, cel ad ca σ k s))
def u2 {α : Type} (f : Nat → Nat → α) (k j : Nat) (v : α) : Nat → Nat → α := fun a b => if a = k ∧ b = j then v else f a b
def sF (σ : St) (k j : Nat) (v : Int32) : St := (u2 σ.1 k j v, σ.2)
def sL (σ : St) (k j : Nat) (v : Int64) : St := (σ.1, u2 σ.2.1 k j v, σ.2.2)
def sD (σ : St) (q : Nat) : St := (σ.1, σ.2.1, some q)
def rw1 {α : Type} (f : Nat → Nat → α) (k : Nat) (g : Nat → α) : Nat → Nat → α := fun a => if a = k then g else f a
def sRow (σ : St) (k : Nat) (g : Nat → Int32) : St := (rw1 σ.1 k g, σ.2)
def sRowL (σ : St) (k : Nat) (g : Nat → Int64) : St := (σ.1, rw1 σ.2.1 k g, σ.2.2)
theorem wld_get {ad : Nat → Nat} {ca : Nat → ClassId} {σ : St} {k : Nat} {s : Nat × Nat × List Nat} (h : shp[k]? = some s) : (wld ad ca σ)[k]? = some (ad k, cel ad ca σ k s) := by
  simp [wld, List.getElem?_mapIdx, h]
theorem wld_len {ad : Nat → Nat} {ca : Nat → ClassId} {σ : St} : (wld ad ca σ).length = shp.length := by simp [wld]
theorem wld_set {ad : Nat → Nat} {ca : Nat → ClassId} {σ σ' : St} {k : Nat} {s : Nat × Nat × List Nat} (h : shp[k]? = some s) (ho : ∀ i s', i ≠ k → shp[i]? = some s' → cel ad ca σ' i s' = cel ad ca σ i s') {E : va_E} (hE : cel ad ca σ' k s = E) : (wld ad ca σ).set k (ad k, E) = wld ad ca σ' := by
  have hk : k < shp.length := (List.getElem?_eq_some_iff.mp h).1
  apply List.ext_getElem?
  intro i
  rw [List.getElem?_set]
  by_cases hi : k = i
  · subst hi
    rw [wld_get (σ := σ') h, hE, wld_len]
    simp [hk]
  · simp only [hi, if_false]
    simp only [wld, List.getElem?_mapIdx]
    cases hs : shp[i]? with
    | none => rfl
    | some s' => simp [ho i s' (fun q => hi q.symm) hs]
theorem kdO_sp {g j kd : Nat} (h : kdO g j = some kd) : ∃ ci ks, shp[g]? = some (0, ci, ks) ∧ ks[j]? = some kd ∧ clO g = ci := by
  unfold kdO at h
  split at h
  · rename_i ci ks hs
    exact ⟨ci, ks, hs, h, by simp [clO, hs]⟩
  · cases h
theorem arT_sp {k t : Nat} (h : arT k = t) (h0 : t ≠ 0) : shp[k]? = some (t, arN k, (shp[k]?.getD (0, 0, [])).2.2) := by
  unfold arT at h
  split at h
  · rename_i t' n ks hs
    subst h
    simp [arN, hs]
  · exact absurd h.symm h0
theorem fv_congr {ad : Nat → Nat} {σ σ' : St} {k j : Nat} (h1 : σ'.1 k j = σ.1 k j) (h2 : σ'.2.1 k j = σ.2.1 k j) (h3 : σ'.2.2 = σ.2.2) (kd : Nat) : fv ad σ' k j kd = fv ad σ k j kd := by
  match kd with
  | 0 => simp only [fv, h1]
  | 1 => simp only [fv, h2]
  | 2 => simp only [fv, h3]
  | t + 3 => rfl
theorem cel_congr {ad : Nat → Nat} {ca : Nat → ClassId} {σ σ' : St} {k : Nat} (h1 : σ'.1 k = σ.1 k) (h2 : σ'.2.1 k = σ.2.1 k) (h3 : σ'.2.2 = σ.2.2) (s : Nat × Nat × List Nat) : cel ad ca σ' k s = cel ad ca σ k s := by
  obtain ⟨t, n, ks⟩ := s
  match t with
  | 0 =>
    simp only [cel]
    congr 3
    funext a b
    exact fv_congr (by rw [h1]) (by rw [h2]) h3 b
  | 1 => simp only [cel, h1]
  | 2 => simp only [cel, h1]
  | t + 3 => simp only [cel, h2]

/-! the writes -/
theorem set_i {ad : Nat → Nat} {ca : Nat → ClassId} {σ : St} {g j ci : Nat} {ks : List Nat} (h : shp[g]? = some (0, ci, ks)) (hk : ks[j]? = some 0) (v : Int32) :
    (wld ad ca σ).set g (ad g, .inr (ci, (ks.mapIdx (fun j kd => fv ad σ g j kd)).set j (.int v))) = wld ad ca (sF σ g j v) := by
  refine wld_set (σ' := sF σ g j v) h (fun i s' hi _ => cel_congr (σ := σ) (σ' := sF σ g j v) (by funext b; simp [sF, u2, hi]) rfl rfl s') ?_
  simp only [cel]
  congr 2
  apply List.ext_getElem?
  intro i
  rw [List.getElem?_set, List.getElem?_mapIdx, List.getElem?_mapIdx]
  by_cases hi : j = i
  · subst hi
    have hl : j < ks.length := (List.getElem?_eq_some_iff.mp hk).1
    rw [hk]
    simp [fv, sF, u2, hl]
  · simp only [hi, if_false]
    cases hs : ks[i]? with
    | none => rfl
    | some kd => simp only [Option.map_some]; exact congrArg some (fv_congr (σ := σ) (σ' := sF σ g j v) (by have q := fun q : i = j => hi q.symm; simp [sF, u2]; exact fun z => absurd z q) rfl rfl kd)
theorem set_l {ad : Nat → Nat} {ca : Nat → ClassId} {σ : St} {g j ci : Nat} {ks : List Nat} (h : shp[g]? = some (0, ci, ks)) (hk : ks[j]? = some 1) (v : Int64) :
    (wld ad ca σ).set g (ad g, .inr (ci, (ks.mapIdx (fun j kd => fv ad σ g j kd)).set j (.long v))) = wld ad ca (sL σ g j v) := by
  refine wld_set (σ' := sL σ g j v) h (fun i s' hi _ => cel_congr (σ := σ) (σ' := sL σ g j v) rfl (by funext b; simp [sL, u2, hi]) rfl s') ?_
  simp only [cel]
  congr 2
  apply List.ext_getElem?
  intro i
  rw [List.getElem?_set, List.getElem?_mapIdx, List.getElem?_mapIdx]
  by_cases hi : j = i
  · subst hi
    have hl : j < ks.length := (List.getElem?_eq_some_iff.mp hk).1
    rw [hk]
    simp [fv, sL, u2, hl]
  · simp only [hi, if_false]
    cases hs : ks[i]? with
    | none => rfl
    | some kd => simp only [Option.map_some]; exact congrArg some (fv_congr (σ := σ) (σ' := sL σ g j v) rfl (by have q := fun q : i = j => hi q.symm; simp [sL, u2]; exact fun z => absurd z q) rfl kd)
/-- the one field that holds a changing reference: of cell 43, place 31 -/
theorem dyn_one : ∀ g, g < shp.length → ∀ j, j < 50 → kdO g j = some 2 → g = 43 ∧ j = 31 := by decide +kernel
theorem dyn_len : ∀ s ∈ shp, s.2.2.length ≤ 50 := by decide +kernel
theorem fv_dyn {ad : Nat → Nat} {σ : St} {q k j kd : Nat} (h : kd ≠ 2) : fv ad (sD σ q) k j kd = fv ad σ k j kd := by
  match kd, h with
  | 0, _ => rfl
  | 1, _ => rfl
  | 2, h => exact absurd rfl h
  | t + 3, _ => rfl
theorem dyn_at {g j ci : Nat} {ks : List Nat} (h : shp[g]? = some (0, ci, ks)) (hk : ks[j]? = some 2) : g = 43 ∧ j = 31 := by
  have hl := dyn_len _ (List.mem_of_getElem? h)
  have hj : j < ks.length := (List.getElem?_eq_some_iff.mp hk).1
  exact dyn_one g (List.getElem?_eq_some_iff.mp h).1 j (by simp only at hl; omega) (by simp [kdO, h, hk])
theorem set_d {ad : Nat → Nat} {ca : Nat → ClassId} {σ : St} {g j ci : Nat} {ks : List Nat} (h : shp[g]? = some (0, ci, ks)) (hk : ks[j]? = some 2) (q : Nat) :
    (wld ad ca σ).set g (ad g, .inr (ci, (ks.mapIdx (fun j kd => fv ad σ g j kd)).set j (.ref (ad q)))) = wld ad ca (sD σ q) := by
  have h43 := dyn_at h hk
  refine wld_set (σ' := sD σ q) h (fun i s' hi hs => ?_) ?_
  · obtain ⟨t, n, ks'⟩ := s'
    match t with
    | 0 =>
      simp only [cel]
      congr 2
      apply List.ext_getElem?
      intro a
      rw [List.getElem?_mapIdx, List.getElem?_mapIdx]
      cases hz : ks'[a]? with
      | none => rfl
      | some kd =>
        simp only [Option.map_some]
        rw [fv_dyn]
        intro e
        subst e
        exact hi ((dyn_at hs hz).1.trans h43.1.symm)
    | 1 => rfl
    | 2 => rfl
    | t + 3 => rfl
  simp only [cel]
  congr 2
  apply List.ext_getElem?
  intro i
  rw [List.getElem?_set, List.getElem?_mapIdx, List.getElem?_mapIdx]
  by_cases hi : j = i
  · subst hi
    have hl : j < ks.length := (List.getElem?_eq_some_iff.mp hk).1
    rw [hk]
    simp [fv, sD, va_rf, hl]
  · simp only [hi, if_false]
    cases hs : ks[i]? with
    | none => rfl
    | some kd =>
      simp only [Option.map_some]
      rw [fv_dyn]
      intro e
      subst e
      exact hi ((h43.2).trans (dyn_at h hs).2.symm)
theorem set_ai {ad : Nat → Nat} {ca : Nat → ClassId} {σ : St} {k t : Nat} (h : arT k = t) (ht : t = 1 ∨ t = 2) (f : Nat → Int32) :
    (wld ad ca σ).set k (ad k, .inl (ca k, arN k, .inl f)) = wld ad ca (sRow σ k f) := by
  refine wld_set (σ' := sRow σ k f) (arT_sp h (by omega)) (fun i s' hi _ => cel_congr (σ := σ) (σ' := sRow σ k f) (by simp [sRow, rw1, hi]) rfl rfl s') ?_
  rcases ht with rfl | rfl <;> simp [cel, sRow, rw1]
theorem set_al {ad : Nat → Nat} {ca : Nat → ClassId} {σ : St} {k : Nat} (h : arT k = 3) (f : Nat → Int64) :
    (wld ad ca σ).set k (ad k, .inl (ca k, arN k, .inr (.inl f))) = wld ad ca (sRowL σ k f) := by
  refine wld_set (σ' := sRowL σ k f) (arT_sp h (by omega)) (fun i s' hi _ => cel_congr (σ := σ) (σ' := sRowL σ k f) rfl (by simp [sRowL, rw1, hi]) rfl s') ?_
  simp [cel, sRowL, rw1]
theorem sRow_upd {σ : St} {k i : Nat} {v : Int32} : sRow σ k (upd (σ.1 k) i v) = sF σ k i v := by
  simp only [sRow, sF]
  congr 1
  funext a b
  by_cases h : a = k
  · subst h
    by_cases hb : b = i <;> simp [rw1, u2, upd, hb]
  · simp [rw1, u2, h]
theorem sRowL_upd {σ : St} {k i : Nat} {v : Int64} : sRowL σ k (vp_updL (σ.2.1 k) i v) = sL σ k i v := by
  simp only [sRowL, sL]
  congr 2
  funext a b
  by_cases h : a = k
  · subst h
    by_cases hb : b = i <;> simp [rw1, u2, vp_updL, hb]
  · simp [rw1, u2, h]
theorem get_o {ad : Nat → Nat} {ca : Nat → ClassId} {σ : St} {g ci : Nat} {ks : List Nat} (h : shp[g]? = some (0, ci, ks)) : (wld ad ca σ)[g]? = some (ad g, .inr (ci, ks.mapIdx (fun j kd => fv ad σ g j kd))) := wld_get h
theorem get_ai {ad : Nat → Nat} {ca : Nat → ClassId} {σ : St} {k t : Nat} (h : arT k = t) (ht : t = 1 ∨ t = 2) : (wld ad ca σ)[k]? = some (ad k, .inl (ca k, arN k, .inl (σ.1 k))) := by
  rw [wld_get (arT_sp h (by omega))]
  rcases ht with rfl | rfl <;> rfl
theorem get_al {ad : Nat → Nat} {ca : Nat → ClassId} {σ : St} {k : Nat} (h : arT k = 3) : (wld ad ca σ)[k]? = some (ad k, .inl (ca k, arN k, .inr (.inl (σ.2.1 k)))) := by
  rw [wld_get (arT_sp h (by omega))]
  rfl
