/-! fields, arrays, calls, answers (written by wip/gen/rows2.py) -/
def cT (ci : Nat) : vw_C := vwCl.getD ci ("", TX0, 0)
def tT (ci : Nat) : Nat → FieldType := match ci with
  | 0 => tyX0
  | 1 => tyX1
  | 2 => tyX2
  | 3 => tyX3
  | 4 => tyX4
  | 5 => tyX5
  | 6 => tyX6
  | 7 => tyX7
  | 8 => tyX8
  | _ => tyX9
theorem cT_at {ci : Nat} (h : ci < 10) : vwCl[ci]? = some ((cT ci).1, (cT ci).2.1, (cT ci).2.2) := by
  match ci, h with
  | 0, _ => rfl
  | 1, _ => rfl
  | 2, _ => rfl
  | 3, _ => rfl
  | 4, _ => rfl
  | 5, _ => rfl
  | 6, _ => rfl
  | 7, _ => rfl
  | 8, _ => rfl
  | 9, _ => rfl
theorem cT_in {ci : Nat} (h : ci < 10) : ∀ w ∈ u_ws (cT ci).1 (cT ci).2.1 (cT ci).2.2, w ∈ gtb := by
  match ci, h with
  | 0, _ => exact inX0
  | 1, _ => exact inX1
  | 2, _ => exact inX2
  | 3, _ => exact inX3
  | 4, _ => exact inX4
  | 5, _ => exact inX5
  | 6, _ => exact inX6
  | 7, _ => exact inX7
  | 8, _ => exact inX8
  | 9, _ => exact inX9
theorem cT_nm {ci : Nat} (h : ci < 10) : ∀ a, a < (cT ci).2.2 → ∀ b, b < (cT ci).2.2 → a ≠ b → ((cT ci).2.1 a).2.1 ≠ ((cT ci).2.1 b).2.1 := by
  match ci, h with
  | 0, _ => exact nmX0
  | 1, _ => exact nmX1
  | 2, _ => exact nmX2
  | 3, _ => exact nmX3
  | 4, _ => exact nmX4
  | 5, _ => exact nmX5
  | 6, _ => exact nmX6
  | 7, _ => exact nmX7
  | 8, _ => exact nmX8
  | 9, _ => exact nmX9
theorem cT_ty {ci : Nat} (h : ci < 10) : ∀ k, k < (cT ci).2.2 → parseFieldDescriptor ((cT ci).2.1 k).2.2.1 = some (tT ci k) := by
  match ci, h with
  | 0, _ => exact tyX0_ok
  | 1, _ => exact tyX1_ok
  | 2, _ => exact tyX2_ok
  | 3, _ => exact tyX3_ok
  | 4, _ => exact tyX4_ok
  | 5, _ => exact tyX5_ok
  | 6, _ => exact tyX6_ok
  | 7, _ => exact tyX7_ok
  | 8, _ => exact tyX8_ok
  | 9, _ => exact tyX9_ok
def FL (own : String) (idx ci j : Nat) : Prop := ci < 10 ∧ j < (cT ci).2.2 ∧ ((cT ci).2.1 j).1 = (cT ci).1 ∧ (Cond.fieldLink own idx (cT ci).1 ((cT ci).2.1 j).2.1 ((cT ci).2.1 j).2.2.1 ∈ gtb ∨ ∃ host : String, Cond.fieldLinkNest own idx (cT ci).1 ((cT ci).2.1 j).2.1 ((cT ci).2.1 j).2.2.1 host ∈ ntb)
theorem va_W_get {M : MD} {d : Nat} {P : Am → Prop} {pc : Nat} {ls : List (Option Value)} {st : List Value} {σ : St} {idx g j ci kd : Nat} {v : Value} (hd : decode M.2.1 pc = .ok (.getfield idx, 3)) (hl : FL M.1.cls idx ci j) (hc : clO g = ci) (hk : kdO g j = some kd) (hv : ∀ ad, fv ad σ g j kd = cv ad v) (k : Wp M d P (pc + 3) ls (v :: st) σ) : Wp M d P pc ls (.ref g :: st) σ := by
  intro a X hP H locs lsA hW hS hlo
  obtain ⟨hci, hj, hsame, hlk⟩ := hl
  obtain ⟨ci', ks, hs, hks, e⟩ := kdO_sp hk
  obtain rfl : ci = ci' := hc.symm.trans e
  have hfs : (ks.mapIdx (fun j kd => fv (a_ad a) σ g j kd))[j]? = some (cv (a_ad a) v) := by rw [List.getElem?_mapIdx, hks, ← hv]; rfl
  have X2 := X
  obtain ⟨hx, hb, hml, hown, hts, hN, hK, -⟩ := X2
  rcases hlk with hlk | ⟨host, hlk⟩
  · exact va_get hx hb hts (cT_in hci) hown hK hW g (get_o hs) (cT_at hci) j hj (hts _ hlk) (fun x h => by rw [← hsame]; exact h) hfs hd (k a X hP H locs lsA hW hS hlo)
  · exact va_getN hx hb hts (cT_in hci) hown hK hW g (get_o hs) (cT_at hci) j hj ((hN _ hlk).use rfl) (fun x h => by rw [← hsame]; exact h) hfs hd (k a X hP H locs lsA hW hS hlo)
theorem wp_getI {M : MD} {d : Nat} {P : Am → Prop} {pc : Nat} {ls : List (Option Value)} {st : List Value} {σ : St} {idx g j ci : Nat} (hd : decode M.2.1 pc = .ok (.getfield idx, 3)) (hl : FL M.1.cls idx ci j) (hc : clO g = ci) (hk : kdO g j = some 0) (k : Wp M d P (pc + 3) ls (.int (σ.1 g j) :: st) σ) : Wp M d P pc ls (.ref g :: st) σ := va_W_get hd hl hc hk (fun _ => rfl) k
theorem wp_getJ {M : MD} {d : Nat} {P : Am → Prop} {pc : Nat} {ls : List (Option Value)} {st : List Value} {σ : St} {idx g j ci : Nat} (hd : decode M.2.1 pc = .ok (.getfield idx, 3)) (hl : FL M.1.cls idx ci j) (hc : clO g = ci) (hk : kdO g j = some 1) (k : Wp M d P (pc + 3) ls (.long (σ.2.1 g j) :: st) σ) : Wp M d P pc ls (.ref g :: st) σ := va_W_get hd hl hc hk (fun _ => rfl) k
theorem wp_getR {M : MD} {d : Nat} {P : Am → Prop} {pc : Nat} {ls : List (Option Value)} {st : List Value} {σ : St} {idx g j ci t : Nat} (hd : decode M.2.1 pc = .ok (.getfield idx, 3)) (hl : FL M.1.cls idx ci j) (hc : clO g = ci) (hk : kdO g j = some (t + 3)) (k : Wp M d P (pc + 3) ls (.ref t :: st) σ) : Wp M d P pc ls (.ref g :: st) σ := va_W_get hd hl hc hk (fun _ => rfl) k
theorem wp_getD {M : MD} {d : Nat} {P : Am → Prop} {pc : Nat} {ls : List (Option Value)} {st : List Value} {σ : St} {idx g j ci q : Nat} (hd : decode M.2.1 pc = .ok (.getfield idx, 3)) (hl : FL M.1.cls idx ci j) (hc : clO g = ci) (hk : kdO g j = some 2) (hq : σ.2.2 = some q) (k : Wp M d P (pc + 3) ls (.ref q :: st) σ) : Wp M d P pc ls (.ref g :: st) σ := va_W_get hd hl hc hk (fun ad => by simp [fv, hq, va_rf, cv]) k
theorem va_W_put {M : MD} {d : Nat} {P : Am → Prop} {pc : Nat} {ls : List (Option Value)} {st : List Value} {σ : St} {idx g j ci kd : Nat} {v : Value} {σ1 : St} (hd : decode M.2.1 pc = .ok (.putfield idx, 3)) (hl : FL M.1.cls idx ci j) (hc : clO g = ci) (hk : kdO g j = some kd) (hfin : ((cT ci).2.1 j).2.2.2 = false) (hn : ∀ ad, narrow (tT ci j) (cv ad v) = cv ad v) (hfit : ∀ ad, fits (tT ci j) (cv ad v) = true)
    (hset : ∀ ad ca ks, shp[g]? = some (0, ci, ks) → ks[j]? = some kd → (wld ad ca σ).set g (ad g, .inr (ci, (ks.mapIdx (fun j kd => fv ad σ g j kd)).set j (cv ad v))) = wld ad ca σ1) (k : Wp M d P (pc + 3) ls st σ1) : Wp M d P pc ls (v :: .ref g :: st) σ := by
  intro a X hP H locs lsA hW hS hlo
  obtain ⟨hci, hj, hsame, hlk⟩ := hl
  obtain ⟨ci', ks, hs, hks, e⟩ := kdO_sp hk
  obtain rfl : ci = ci' := hc.symm.trans e
  have hlen : j < (ks.mapIdx (fun j kd => fv (a_ad a) σ g j kd)).length := by rw [List.length_mapIdx]; exact (List.getElem?_eq_some_iff.mp hks).1
  have hD := X.D σ
  have hse := hset (a_ad a) (a_ca a) ks hs hks
  have X2 := X
  obtain ⟨hx, hb, hml, hown, hts, hN, hK, -⟩ := X2
  rcases hlk with hlk | ⟨host, hlk⟩
  · exact va_put hx hb hts (cT_in hci) (tT ci) (cT_ty hci) (cT_nm hci) hown hK hW hD hS g (get_o hs) (cT_at hci) j hj (hts _ hlk) (fun x h => by rw [← hsame]; exact h) hfin (cT_ty hci j hj) (hn _) (hfit _) hlen hd (fun H1 locs1 h1 _ h3 => k a X hP H1 locs1 lsA (hse ▸ h1) h3 hlo)
  · exact va_putN hx hb hts (cT_in hci) (tT ci) (cT_ty hci) (cT_nm hci) hown hK hW hD hS g (get_o hs) (cT_at hci) j hj ((hN _ hlk).use rfl) (fun x h => by rw [← hsame]; exact h) hfin (cT_ty hci j hj) (hn _) (hfit _) hlen hd (fun H1 locs1 h1 _ h3 => k a X hP H1 locs1 lsA (hse ▸ h1) h3 hlo)
theorem wp_putI {M : MD} {d : Nat} {P : Am → Prop} {pc : Nat} {ls : List (Option Value)} {st : List Value} {σ : St} {idx g j ci : Nat} {v : Int32} (hd : decode M.2.1 pc = .ok (.putfield idx, 3)) (hl : FL M.1.cls idx ci j) (hc : clO g = ci) (hk : kdO g j = some 0) (hfin : ((cT ci).2.1 j).2.2.2 = false) (hty : tT ci j = .int) (k : Wp M d P (pc + 3) ls st (sF σ g j v)) : Wp M d P pc ls (.int v :: .ref g :: st) σ :=
  va_W_put hd hl hc hk hfin (fun _ => by rw [hty]; rfl) (fun _ => by rw [hty]; rfl) (fun ad ca ks h1 h2 => set_i h1 h2 v) k
theorem narrow_z {v : Int32} (h : v = 0 ∨ v = 1) : narrow .boolean (.int v) = .int v ∧ fits .boolean (.int v) = true := by rcases h with rfl | rfl <;> exact ⟨by decide +kernel, by decide +kernel⟩
theorem wp_putZ {M : MD} {d : Nat} {P : Am → Prop} {pc : Nat} {ls : List (Option Value)} {st : List Value} {σ : St} {idx g j ci : Nat} {v : Int32} (hd : decode M.2.1 pc = .ok (.putfield idx, 3)) (hl : FL M.1.cls idx ci j) (hc : clO g = ci) (hk : kdO g j = some 0) (hfin : ((cT ci).2.1 j).2.2.2 = false) (hty : tT ci j = .boolean) (hz : v = 0 ∨ v = 1) (k : Wp M d P (pc + 3) ls st (sF σ g j v)) : Wp M d P pc ls (.int v :: .ref g :: st) σ :=
  va_W_put hd hl hc hk hfin (fun _ => by rw [hty]; exact (narrow_z hz).1) (fun _ => by rw [hty]; exact (narrow_z hz).2) (fun ad ca ks h1 h2 => set_i h1 h2 v) k
theorem wp_putJ {M : MD} {d : Nat} {P : Am → Prop} {pc : Nat} {ls : List (Option Value)} {st : List Value} {σ : St} {idx g j ci : Nat} {v : Int64} (hd : decode M.2.1 pc = .ok (.putfield idx, 3)) (hl : FL M.1.cls idx ci j) (hc : clO g = ci) (hk : kdO g j = some 1) (hfin : ((cT ci).2.1 j).2.2.2 = false) (hty : tT ci j = .long) (k : Wp M d P (pc + 3) ls st (sL σ g j v)) : Wp M d P pc ls (.long v :: .ref g :: st) σ :=
  va_W_put hd hl hc hk hfin (fun _ => by rw [hty]; rfl) (fun _ => by rw [hty]; rfl) (fun ad ca ks h1 h2 => set_l h1 h2 v) k
theorem wp_putD {M : MD} {d : Nat} {P : Am → Prop} {pc : Nat} {ls : List (Option Value)} {st : List Value} {σ : St} {idx g j ci q : Nat} (hd : decode M.2.1 pc = .ok (.putfield idx, 3)) (hl : FL M.1.cls idx ci j) (hc : clO g = ci) (hk : kdO g j = some 2) (hfin : ((cT ci).2.1 j).2.2.2 = false) (hty : tT ci j = .array .int) (k : Wp M d P (pc + 3) ls st (sD σ q)) : Wp M d P pc ls (.ref q :: .ref g :: st) σ :=
  va_W_put hd hl hc hk hfin (fun _ => by rw [hty]; rfl) (fun _ => by rw [hty]; rfl) (fun ad ca ks h1 h2 => set_d h1 h2 q) k
/-! arrays -/
def inB (i : Int32) (n : Nat) : Bool := decide (0 ≤ i) && decide (i.toNatClampNeg < n)
theorem inB_vp {i : Int32} {n : Nat} (h : inB i n = true) : vp_in i n := by
  simp only [inB, Bool.and_eq_true, decide_eq_true_eq] at h
  rintro (q | q)
  · exact absurd h.1 (by rw [Int32.le_iff_toInt_le]; rw [Int32.lt_iff_toInt_lt] at q; omega)
  · omega
def aI (σ : St) (k : Nat) (i : Int32) : Option Int32 := if arT k = 1 ∧ inB i (arN k) = true then some (σ.1 k i.toNatClampNeg) else none
def aB (σ : St) (k : Nat) (i : Int32) : Option Int32 := if arT k = 2 ∧ inB i (arN k) = true then some (σ.1 k i.toNatClampNeg) else none
def aJ (σ : St) (k : Nat) (i : Int32) : Option Int64 := if arT k = 3 ∧ inB i (arN k) = true then some (σ.2.1 k i.toNatClampNeg) else none
def pI (σ : St) (k : Nat) (i v : Int32) : Option St := if arT k = 1 ∧ inB i (arN k) = true then some (sF σ k i.toNatClampNeg v) else none
def pB (σ : St) (k : Nat) (i v : Int32) : Option St := if arT k = 2 ∧ inB i (arN k) = true then some (sF σ k i.toNatClampNeg (vp_nar .byte v)) else none
def pJ (σ : St) (k : Nat) (i : Int32) (v : Int64) : Option St := if arT k = 3 ∧ inB i (arN k) = true then some (sL σ k i.toNatClampNeg v) else none
def aLen (k : Nat) : Option Int32 := if arT k = 1 then some (Int32.ofNat (arN k)) else none
def cpOK (i j n : Int32) (a b : Nat) : Bool := decide (0 ≤ i) && decide (0 ≤ j) && decide (0 ≤ n) && decide (i.toNatClampNeg + n.toNatClampNeg ≤ arN a) && decide (j.toNatClampNeg + n.toNatClampNeg ≤ arN b)
def cpI (σ : St) (a : Nat) (i : Int32) (b : Nat) (j n : Int32) : Option St := if (arT a = 1 ∧ arT b = 1) ∧ cpOK i j n a b = true then some (sRow σ b (va_cpy (σ.1 a) (σ.1 b) i.toNatClampNeg j.toNatClampNeg n.toNatClampNeg)) else none
def cpJ (σ : St) (a : Nat) (i : Int32) (b : Nat) (j n : Int32) : Option St := if (arT a = 3 ∧ arT b = 3) ∧ cpOK i j n a b = true then some (sRowL σ b (va_cpy (σ.2.1 a) (σ.2.1 b) i.toNatClampNeg j.toNatClampNeg n.toNatClampNeg)) else none
theorem ite_sm {c : Prop} [Decidable c] {α : Type} {x : α} {r : α} (h : (if c then some x else none) = some r) : c ∧ x = r := by
  by_cases hc : c
  · rw [if_pos hc] at h
    exact ⟨hc, Option.some.inj h⟩
  · rw [if_neg hc] at h
    cases h
theorem tyOK.at {ca : Nat → ClassId} {tys : List (ClassId × FieldType)} (h : tyOK ca tys) {k t : Nat} (hk : arT k = t) (h0 : t ≠ 0) : ∃ t0 : Nat, tys[t0]? = some (ca k, tyc t) := by
  have h1 := h k (by rw [hk]; exact h0)
  rwa [hk] at h1
theorem wp_aI {M : MD} {d : Nat} {P : Am → Prop} {pc : Nat} {ls : List (Option Value)} {st : List Value} {σ : St} {q : Nat} {i x : Int32} (hd : decode M.2.1 pc = .ok (.iaload, 1)) (h : aI σ q i = some x) (k : Wp M d P (pc + 1) ls (.int x :: st) σ) : Wp M d P pc ls (.int i :: .ref q :: st) σ := by
  intro a X hP H locs lsA hW hS hlo
  obtain ⟨⟨h1, h2⟩, rfl⟩ := ite_sm h
  have X2 := X
  obtain ⟨hx, hb, hml, hown, hts, hN, hK, hT, -⟩ := X2
  obtain ⟨t0, ht⟩ := hT.at h1 (by decide)
  exact va_iald hx hb hK hW q t0 (get_ai h1 (Or.inl rfl)) ht (inB_vp h2) hd (k a X hP H locs lsA hW hS hlo)
theorem wp_aB {M : MD} {d : Nat} {P : Am → Prop} {pc : Nat} {ls : List (Option Value)} {st : List Value} {σ : St} {q : Nat} {i x : Int32} (hd : decode M.2.1 pc = .ok (.baload, 1)) (h : aB σ q i = some x) (k : Wp M d P (pc + 1) ls (.int x :: st) σ) : Wp M d P pc ls (.int i :: .ref q :: st) σ := by
  intro a X hP H locs lsA hW hS hlo
  obtain ⟨⟨h1, h2⟩, rfl⟩ := ite_sm h
  have X2 := X
  obtain ⟨hx, hb, hml, hown, hts, hN, hK, hT, -⟩ := X2
  obtain ⟨t0, ht⟩ := hT.at h1 (by decide)
  exact va_bald hx hb hK hW q t0 (get_ai h1 (Or.inr rfl)) ht (inB_vp h2) hd (k a X hP H locs lsA hW hS hlo)
theorem wp_aJ {M : MD} {d : Nat} {P : Am → Prop} {pc : Nat} {ls : List (Option Value)} {st : List Value} {σ : St} {q : Nat} {i : Int32} {x : Int64} (hd : decode M.2.1 pc = .ok (.laload, 1)) (h : aJ σ q i = some x) (k : Wp M d P (pc + 1) ls (.long x :: st) σ) : Wp M d P pc ls (.int i :: .ref q :: st) σ := by
  intro a X hP H locs lsA hW hS hlo
  obtain ⟨⟨h1, h2⟩, rfl⟩ := ite_sm h
  have X2 := X
  obtain ⟨hx, hb, hml, hown, hts, hN, hK, hT, -⟩ := X2
  obtain ⟨t0, ht⟩ := hT.at h1 (by decide)
  exact va_lald hx hb hK hW q t0 (get_al h1) ht (inB_vp h2) hd (k a X hP H locs lsA hW hS hlo)
theorem wp_pI {M : MD} {d : Nat} {P : Am → Prop} {pc : Nat} {ls : List (Option Value)} {st : List Value} {σ : St} {q : Nat} {i v : Int32} {σ1 : St} (hd : decode M.2.1 pc = .ok (.iastore, 1)) (h : pI σ q i v = some σ1) (k : Wp M d P (pc + 1) ls st σ1) : Wp M d P pc ls (.int v :: .int i :: .ref q :: st) σ := by
  intro a X hP H locs lsA hW hS hlo
  obtain ⟨⟨h1, h2⟩, rfl⟩ := ite_sm h
  have hD := X.D σ
  have X2 := X
  obtain ⟨hx, hb, hml, hown, hts, hN, hK, hT, -⟩ := X2
  obtain ⟨t0, ht⟩ := hT.at h1 (by decide)
  refine va_iast hx hb hK hW hD hS q t0 (get_ai h1 (Or.inl rfl)) ht (inB_vp h2) hd (fun H1 locs1 g1 _ g3 => k a X hP H1 locs1 lsA ?_ g3 hlo)
  rw [set_ai h1 (Or.inl rfl), sRow_upd] at g1
  exact g1
theorem wp_pB {M : MD} {d : Nat} {P : Am → Prop} {pc : Nat} {ls : List (Option Value)} {st : List Value} {σ : St} {q : Nat} {i v : Int32} {σ1 : St} (hd : decode M.2.1 pc = .ok (.bastore, 1)) (h : pB σ q i v = some σ1) (k : Wp M d P (pc + 1) ls st σ1) : Wp M d P pc ls (.int v :: .int i :: .ref q :: st) σ := by
  intro a X hP H locs lsA hW hS hlo
  obtain ⟨⟨h1, h2⟩, rfl⟩ := ite_sm h
  have hD := X.D σ
  have X2 := X
  obtain ⟨hx, hb, hml, hown, hts, hN, hK, hT, -⟩ := X2
  obtain ⟨t0, ht⟩ := hT.at h1 (by decide)
  refine va_bast hx hb hK hW hD hS q t0 (get_ai h1 (Or.inr rfl)) ht (inB_vp h2) hd (fun H1 locs1 g1 _ g3 => k a X hP H1 locs1 lsA ?_ g3 hlo)
  rw [set_ai h1 (Or.inr rfl), sRow_upd] at g1
  exact g1
theorem wp_pJ {M : MD} {d : Nat} {P : Am → Prop} {pc : Nat} {ls : List (Option Value)} {st : List Value} {σ : St} {q : Nat} {i : Int32} {v : Int64} {σ1 : St} (hd : decode M.2.1 pc = .ok (.lastore, 1)) (h : pJ σ q i v = some σ1) (k : Wp M d P (pc + 1) ls st σ1) : Wp M d P pc ls (.long v :: .int i :: .ref q :: st) σ := by
  intro a X hP H locs lsA hW hS hlo
  obtain ⟨⟨h1, h2⟩, rfl⟩ := ite_sm h
  have hD := X.D σ
  have X2 := X
  obtain ⟨hx, hb, hml, hown, hts, hN, hK, hT, -⟩ := X2
  obtain ⟨t0, ht⟩ := hT.at h1 (by decide)
  refine va_last hx hb hK hW hD hS q t0 (get_al h1) ht (inB_vp h2) hd (fun H1 locs1 g1 _ g3 => k a X hP H1 locs1 lsA ?_ g3 hlo)
  rw [set_al h1, sRowL_upd] at g1
  exact g1
theorem wp_aLen {M : MD} {d : Nat} {P : Am → Prop} {pc : Nat} {ls : List (Option Value)} {st : List Value} {σ : St} {q : Nat} {x : Int32} (hd : decode M.2.1 pc = .ok (.arraylength, 1)) (h : aLen q = some x) (k : Wp M d P (pc + 1) ls (.int x :: st) σ) : Wp M d P pc ls (.ref q :: st) σ := by
  intro a X hP H locs lsA hW hS hlo
  obtain ⟨h1, rfl⟩ := ite_sm h
  have X2 := X
  obtain ⟨hx, hb, hml, hown, hts, hN, hK, hT, -⟩ := X2
  obtain ⟨t0, ht⟩ := hT.at h1 (by decide)
  exact va_alen hx hb hK hW q t0 (get_ai h1 (Or.inl rfl)) ht rfl hd (k a X hP H locs lsA hW hS hlo)
def cpW (own : String) (idx : Nat) : Prop := Cond.methodLink own idx arraycopyName ∈ gtb
theorem nneg {i : Int32} (h : 0 ≤ i) : ¬ i < 0 := by rw [Int32.le_iff_toInt_le] at h; rw [Int32.lt_iff_toInt_lt]; omega
theorem cat_map (ad : Nat → Nat) (st : List Value) : ((st.map (cv ad)).map fun v => v.category).sum = (st.map fun v => v.category).sum := by
  rw [List.map_map]
  congr 1
  exact List.map_congr_left (fun v _ => cv_cat ad v)

theorem cp_nat : Cond.native arraycopyName ∈ gtb ∧ Cond.static arraycopyName ∈ gtb ∧ Cond.initialized "java/lang/System" ∈ gtb := ⟨mem_tb 396 (by decide +kernel) rfl, mem_tb 395 (by decide +kernel) rfl, mem_tb 12 (by decide +kernel) rfl⟩
theorem wp_cpI {M : MD} {d : Nat} {P : Am → Prop} {pc : Nat} {ls : List (Option Value)} {st : List Value} {σ : St} {idx q0 q1 : Nat} {i j n : Int32} {σ1 : St} (hd : decode M.2.1 pc = .ok (.invokestatic idx, 3)) (hl : cpW M.1.cls idx) (h : cpI σ q0 i q1 j n = some σ1) (h1d : 1 ≤ d) (hr : (st.map fun v => v.category).sum ≤ 8) (k : Wp M d P (pc + 3) ls st σ1) : Wp M d P pc ls (.int n :: .int j :: .ref q1 :: .int i :: .ref q0 :: st) σ := by
  intro a X hP H locs lsA hW hS hlo
  obtain ⟨⟨⟨h1, h2⟩, h3⟩, rfl⟩ := ite_sm h
  simp only [cpOK, Bool.and_eq_true, decide_eq_true_eq] at h3
  obtain ⟨⟨⟨⟨c1, c2⟩, c3⟩, c4⟩, c5⟩ := h3
  have hD := X.D σ
  have X2 := X
  obtain ⟨hx, hb, hml, hown, hts, hN, hK, hT, -, -, -, hf1, hf2, -⟩ := X2
  obtain ⟨t0, ht⟩ := hT.at h1 (by decide)
  obtain ⟨t1, ht1⟩ := hT.at h2 (by decide)
  have hwords : nativeFrameWords "java/lang/System" "arraycopy" 5 + 11 ≤ 52 := by decide +kernel
  refine va_copyi hx hb (hml.trans hlo.1.symm) hown (hts _ hl) (hts _ cp_nat.1) (hts _ cp_nat.2.1) (hts _ cp_nat.2.2) hK hW hD hS q0 q1 t0 t1 (get_ai h1 (Or.inl rfl)) (get_ai h2 (Or.inl rfl)) ht ht1 rfl (nneg c1) (nneg c2) (nneg c3) c4 c5 (fun _ _ => rfl) (by omega) (by rw [cat_map]; omega) hd (fun H1 locs1 g1 _ g3 => k a X hP H1 locs1 lsA ?_ g3 hlo)
  rw [set_ai h2 (Or.inl rfl)] at g1
  exact g1
theorem wp_cpJ {M : MD} {d : Nat} {P : Am → Prop} {pc : Nat} {ls : List (Option Value)} {st : List Value} {σ : St} {idx q0 q1 : Nat} {i j n : Int32} {σ1 : St} (hd : decode M.2.1 pc = .ok (.invokestatic idx, 3)) (hl : cpW M.1.cls idx) (h : cpJ σ q0 i q1 j n = some σ1) (h1d : 1 ≤ d) (hr : (st.map fun v => v.category).sum ≤ 8) (k : Wp M d P (pc + 3) ls st σ1) : Wp M d P pc ls (.int n :: .int j :: .ref q1 :: .int i :: .ref q0 :: st) σ := by
  intro a X hP H locs lsA hW hS hlo
  obtain ⟨⟨⟨h1, h2⟩, h3⟩, rfl⟩ := ite_sm h
  simp only [cpOK, Bool.and_eq_true, decide_eq_true_eq] at h3
  obtain ⟨⟨⟨⟨c1, c2⟩, c3⟩, c4⟩, c5⟩ := h3
  have hD := X.D σ
  have X2 := X
  obtain ⟨hx, hb, hml, hown, hts, hN, hK, hT, -, -, -, hf1, hf2, -⟩ := X2
  obtain ⟨t0, ht⟩ := hT.at h1 (by decide)
  obtain ⟨t1, ht1⟩ := hT.at h2 (by decide)
  have hwords : nativeFrameWords "java/lang/System" "arraycopy" 5 + 11 ≤ 52 := by decide +kernel
  refine va_copyl hx hb (hml.trans hlo.1.symm) hown (hts _ hl) (hts _ cp_nat.1) (hts _ cp_nat.2.1) (hts _ cp_nat.2.2) hK hW hD hS q0 q1 t0 t1 (get_al h1) (get_al h2) ht ht1 rfl (nneg c1) (nneg c2) (nneg c3) c4 c5 (fun _ _ => rfl) (by omega) (by rw [cat_map]; omega) hd (fun H1 locs1 g1 _ g3 => k a X hP H1 locs1 lsA ?_ g3 hlo)
  rw [set_al h2] at g1
  exact g1
/-! answers -/
theorem wp_iret {M : MD} {d : Nat} {pc : Nat} {ls : List (Option Value)} {σ : St} {v : Int32} {ty : FieldType} (hd : decode M.2.1 pc = .ok (.ireturn, 1)) (hr : M.2.2.2 = some ty) (hn : narrow ty (.int v) = .int v) : Wp M d (PR (some (.int v)) σ) pc ls [.int v] σ := by
  intro a X hP H locs lsA hW hS hlo
  obtain ⟨hx, hb, hml, hown, hts, hN, hK, hT, -, -, -, -, -, -, -, hret, hlocks⟩ := X
  obtain ⟨hQ, h0⟩ := hP
  rw [hQ]
  rw [h0] at hS
  exact W.zret hx hb (hret.trans hr) hn (fun t ht _ => ⟨rfl, by rw [ht]; exact hW, hS.F ht⟩) hS.2.2 hd hlocks
theorem wp_lret {M : MD} {d : Nat} {pc : Nat} {ls : List (Option Value)} {σ : St} {v : Int64} (hd : decode M.2.1 pc = .ok (.lreturn, 1)) (hr : M.2.2.2 = some .long) : Wp M d (PR (some (.long v)) σ) pc ls [.long v] σ := by
  intro a X hP H locs lsA hW hS hlo
  obtain ⟨hx, hb, hml, hown, hts, hN, hK, hT, -, -, -, -, -, -, -, hret, hlocks⟩ := X
  obtain ⟨hQ, h0⟩ := hP
  rw [hQ]
  rw [h0] at hS
  exact W.lret hx hb (hret.trans hr) (fun t ht _ => ⟨rfl, by rw [ht]; exact hW, hS.F ht⟩) hS.2.2 hd hlocks
theorem wp_vret {M : MD} {d : Nat} {pc : Nat} {ls : List (Option Value)} {σ : St} (hd : decode M.2.1 pc = .ok (.return_, 1)) (hr : M.2.2.2 = none) : Wp M d (PR none σ) pc ls [] σ := by
  intro a X hP H locs lsA hW hS hlo
  obtain ⟨hx, hb, hml, hown, hts, hN, hK, hT, -, -, -, -, -, -, -, hret, hlocks⟩ := X
  obtain ⟨hQ, h0⟩ := hP
  rw [hQ]
  rw [h0] at hS
  exact W.vret hx hb (hret.trans hr) (fun t ht _ => ⟨rfl, by rw [ht]; exact hW, hS.F ht⟩) hS.2.2 hd hlocks
theorem wp_aret {M : MD} {d : Nat} {pc : Nat} {ls : List (Option Value)} {σ : St} {q : Nat} {C : String} (hd : decode M.2.1 pc = .ok (.areturn, 1)) (hr : M.2.2.2 = some (.object C)) : Wp M d (PR (some (.ref q)) σ) pc ls [.ref q] σ := by
  intro a X hP H locs lsA hW hS hlo
  obtain ⟨hx, hb, hml, hown, hts, hN, hK, hT, -, -, -, -, -, -, -, hret, hlocks⟩ := X
  obtain ⟨hQ, h0⟩ := hP
  rw [hQ]
  rw [h0] at hS
  exact W.aret hx hb (hret.trans hr) (Or.inl ⟨C, rfl⟩) (Or.inr ⟨_, rfl⟩) (fun t ht _ => ⟨rfl, by rw [ht]; exact hW, hS.F ht⟩) hS.2.2 hd hlocks
/-! calls -/
theorem gtb_good : ∀ w ∈ gtb, (w.onTables && w.keeps) = true ∨ ∃ ty, w = .arrayClass ty := fun w hw => good_of_word (List.mem_filter.mp hw).2
def MOk (N : MD) (n : Nat) : Prop := Cond.code N.1 N.2.1 N.2.2.1 N.2.2.2 ∈ gtb ∧ Cond.initialized N.1.cls ∈ gtb ∧ (N.1.cls ≠ "java/lang/invoke/MethodHandle" ∧ N.1.cls ≠ "java/lang/invoke/VarHandle" ∧ (parseMethodDescriptor N.1.desc).map (fun d => d.parameters.length) = some n) ∧ N.2.2.1 ≤ 41
theorem MOk.good {N : MD} {n : Nat} (h : MOk N n) : GoodIn gtb (wsM N) := by
  intro w hw
  have hm : w ∈ gtb := by
    rcases List.mem_cons.mp hw with rfl | q
    · exact h.1
    · exact q
  exact ⟨hm, gtb_good w hm⟩
def ML (own : String) (idx : Nat) (y : MethodName) : Prop := Cond.methodLink own idx y ∈ gtb ∨ ∃ host : String, Cond.methodLinkNest own idx y host ∈ ntb
def VOk (y : MethodName) (ci : Nat) : Prop := Cond.instanceMethod y ∈ gtb ∧ Cond.selects y.cls y y ∈ gtb ∧ ci < 10 ∧ (cT ci).1 = y.cls
theorem Pcv.blind {D : va_G} {ad : Nat → Nat} {ca : Nat → ClassId} {tys : List (ClassId × FieldType)} {sz : Nat} {vs : List Value} {σ : St} : FrameBlind (Pcv D ad ca tys sz vs σ) :=
  fun v U g mk q => ⟨q.1, q.2.1, q.2.2.1, va_K.moved (u := U) (U := U.calling g mk v) (Vm.Alike.refl U.vm) q.2.2.2.1, nOK.same (u := U) (U := U.calling g mk v) rfl q.2.2.2.2⟩
theorem wp_run {M : MD} {d : Nat} {P : Am → Prop} {pc : Nat} {ls : List (Option Value)} {rest : List Value} {r : Option Value} {σ1 : St} {a : Am} (X : Cx M d a) (hP : P a) {H : Heap} {locs : List Loc} {lsA : Array Slot} {st0 : List Value} {av : Array Value}
    (hr : va_Run (a_p a) (a_l a) (a_e a) (a_R a) (a_s a) (a_m a) (a_args a) (a_below a) (a_meth a) (a_c a) H locs (a_cells a) (a_slots a) 0 0 (F0 (a_m a) pc lsA st0) (rest.map (cv (a_ad a))) (Qcv (Aw (a_ad a) H.size) (a_D a) (a_ad a) (a_ca a) r σ1 av) (Aw (a_ad a) H.size))
    (hS : va_S (a_A a) (a_H0 a) H locs) (hlo : Lok (a_ad a) lsA M.2.2.1 ls) (k : Wp M d P (pc + 3) ls (r.toList ++ rest) σ1) : W (a_p a) (a_l a) (a_e a) (a_R a) (a_s a) (a_m a) (a_args a) (a_below a) (a_meth a) (a_c a) H locs (a_cells a) (a_slots a) (a_Q a) (F0 (a_m a) pc lsA st0) := by
  have X2 := X
  obtain ⟨hx, hb, hml, hown, hts, hN, hK, hT, hin, hA1, hA2, -⟩ := X2
  have hAw : ∀ q, Aw (a_ad a) H.size q → a_A a q := by
    rintro q (⟨j, hj, rfl⟩ | h)
    · exact hA1 j hj
    · exact hA2 q (Nat.le_trans hS.1 h)
  intro T hT X1
  obtain ⟨v, st₀, t, T', L, h0, X', hL, e1, e2, ⟨hv, hp, hz, hk⟩, stp⟩ := hr T hT X1
  cases hv
  rw [h0] at hz hk
  have hS' : va_S (a_A a) (a_H0 a) T'.heap (locs ++ L) := ⟨Nat.le_trans hS.1 (by rw [e1]; exact hz), fun q h1 h2 => by rw [e1, hk q (Nat.lt_of_lt_of_le h1 hS.1) (fun z => h2 (hAw q z))]; exact hS.2.1 q h1 h2, fun q hq => by
      rcases List.mem_append.mp hq with h | h
      · exact hS.2.2 q h
      · exact hAw _ (hL q h)⟩
  have kk := k a X hP T'.heap (locs ++ L) lsA (by rw [e1]; exact hp) hS' hlo
  have e3 : (r.toList ++ rest).map (cv (a_ad a)) = (r.map (cv (a_ad a))).toList ++ rest.map (cv (a_ad a)) := by cases r <;> rfl
  rw [e3] at kk
  obtain ⟨t2, a1, b1⟩ := kk T' rfl X'
  exact ⟨t2, stp t2 a1, b1⟩
theorem wp_cV {M : MD} {d : Nat} {P : Am → Prop} {pc : Nat} {ls : List (Option Value)} {st : List Value} {σ : St} {idx g d' ci : Nat} {N : MD} {As rest : List Value} {r : Option Value} {σ1 : St} (hd : decode M.2.1 pc = .ok (.invokevirtual idx, 3)) (hl : ML M.1.cls idx N.1) (hm : MOk N As.length) (hv : VOk N.1 ci) (hg : clO g = ci) (hst : st = As.reverse ++ .ref g :: rest) (hct : Ct d' N (.ref g :: As) σ r σ1) (hdd : d' + 1 ≤ d) (hrs : (rest.map fun v => v.category).sum ≤ 8) (k : Wp M d P (pc + 3) ls (r.toList ++ rest) σ1) : Wp M d P pc ls st σ := by
  intro a X hP H locs lsA hW hS hlo
  obtain ⟨hi, hsel, hci, hcn⟩ := hv
  have X2 := X
  obtain ⟨hx, hb, hml, hown, hts, hN, hK, hT, hin, hA1, hA2, hf1, hf2, hf3, hf4, -⟩ := X2
  have hsh : ∃ ks, shp[g]? = some (0, ci, ks) := by
    unfold clO at hg
    split at hg
    · rename_i ci' ks hs
      subst hg
      exact ⟨ks, hs⟩
    · omega
  obtain ⟨ks, hks⟩ := hsh
  have hM := hct (a_l a) (a_D a) (a_ad a) (a_ca a) (a_tys a) H.size d' (60 * d') (Nat.le_refl _) (Nat.le_refl _) hin hT
  have hrec := va_recv hK hW (cT_at hci) (get_o hks)
  rw [show ((cT ci).1, (cT ci).2.1, (cT ci).2.2).1 = N.1.cls from hcn] at hrec
  have hG := hm.good
  obtain ⟨m1, m2, m3, m4⟩ := hm
  have hstk : (st.map (cv (a_ad a))) = (As.map (cv (a_ad a))).reverse ++ .ref (a_ad a g) :: rest.map (cv (a_ad a)) := by rw [hst]; simp [cv]
  have hpre : PreV (a_s a) H N.1.cls (a_ad a g) (Pcv (a_D a) (a_ad a) (a_ca a) (a_tys a) H.size (.ref g :: As) σ) (As.map (cv (a_ad a))) := ⟨Pcv.blind, hrec, fun U hU hWm => ⟨rfl, by rw [hU], by rw [hU]; exact hW, va_K.moved hWm.alike hK, nOK.warm hWm hN⟩⟩
  rcases hl with hl | ⟨host, hl⟩
  · refine wp_run X hP (va_runV (n := As.length) (index := idx) (Ts := gtb) (own := M.1.cls) (C := N.1.cls) (bytes := N.2.1) (maxL := N.2.2.1) (ret := N.2.2.2) ⟨hx, hb, hml, hown, hts⟩ hM ⟨callB_of As.length hts hG rfl rfl rfl (hts _ m2) (hts _ hl) m3 ⟨by show d' + 1 ≤ _; omega, by show 8 + (N.2.2.1 + 11) + 60 * d' ≤ _; omega⟩, hts _ hi, hts _ hsel⟩ hpre rfl (by simp) hlo.1 hstk (lv_room (by rw [cat_map]; exact hrs)) hd ⟨by omega, by omega⟩) hS hlo k
  · refine wp_run X hP (va_runVN (n := As.length) (index := idx) (Ts := gtb) (own := M.1.cls) (C := N.1.cls) (host := host) (bytes := N.2.1) (maxL := N.2.2.1) (ret := N.2.2.2) ⟨hx, hb, hml, hown, hts⟩ hM ⟨va_cnB As.length hts hG rfl rfl rfl (hN _ hl) (hts _ m2) m3 ⟨by show d' + 1 ≤ _; omega, by show 8 + (N.2.2.1 + 11) + 60 * d' ≤ _; omega⟩, hts _ hi, hts _ hsel⟩ hpre rfl (by simp) hlo.1 hstk (lv_room (by rw [cat_map]; exact hrs)) hd ⟨by omega, by omega⟩) hS hlo k
theorem wp_cS {M : MD} {d : Nat} {P : Am → Prop} {pc : Nat} {ls : List (Option Value)} {st : List Value} {σ : St} {idx d' : Nat} {N : MD} {As rest : List Value} {r : Option Value} {σ1 : St} (hd : decode M.2.1 pc = .ok (.invokestatic idx, 3)) (hl : ML M.1.cls idx N.1) (hm : MOk N As.length) (hv : Cond.static N.1 ∈ gtb) (hst : st = As.reverse ++ rest) (hct : Ct d' N As σ r σ1) (hdd : d' + 1 ≤ d) (hrs : (rest.map fun v => v.category).sum ≤ 8) (k : Wp M d P (pc + 3) ls (r.toList ++ rest) σ1) : Wp M d P pc ls st σ := by
  intro a X hP H locs lsA hW hS hlo
  have X2 := X
  obtain ⟨hx, hb, hml, hown, hts, hN, hK, hT, hin, hA1, hA2, hf1, hf2, hf3, hf4, -⟩ := X2
  have hM := hct (a_l a) (a_D a) (a_ad a) (a_ca a) (a_tys a) H.size d' (60 * d') (Nat.le_refl _) (Nat.le_refl _) hin hT
  have hG := hm.good
  obtain ⟨m1, m2, m3, m4⟩ := hm
  have hstk : (st.map (cv (a_ad a))) = (As.map (cv (a_ad a))).reverse ++ rest.map (cv (a_ad a)) := by rw [hst]; simp
  have hpre : PreS (a_s a) H (Pcv (a_D a) (a_ad a) (a_ca a) (a_tys a) H.size As σ) (As.map (cv (a_ad a))) := ⟨Pcv.blind, fun U hU hWm => ⟨rfl, by rw [hU], by rw [hU]; exact hW, va_K.moved hWm.alike hK, nOK.warm hWm hN⟩⟩
  rcases hl with hl | ⟨host, hl⟩
  · refine wp_run X hP (va_runS (n := As.length) (index := idx) (Ts := gtb) (own := M.1.cls) (bytes := N.2.1) (maxL := N.2.2.1) (ret := N.2.2.2) ⟨hx, hb, hml, hown, hts⟩ hM ⟨callB_of As.length hts hG rfl rfl rfl (hts _ m2) (hts _ hl) m3 ⟨by show d' + 1 ≤ _; omega, by show 8 + (N.2.2.1 + 11) + 60 * d' ≤ _; omega⟩, hts _ hv⟩ hpre rfl (by simp) hlo.1 hstk (lv_room (by rw [cat_map]; exact hrs)) hd ⟨by omega, by omega⟩) hS hlo k
  · refine wp_run X hP (va_runSN (n := As.length) (index := idx) (Ts := gtb) (own := M.1.cls) (host := host) (bytes := N.2.1) (maxL := N.2.2.1) (ret := N.2.2.2) ⟨hx, hb, hml, hown, hts⟩ hM ⟨va_cnB As.length hts hG rfl rfl rfl (hN _ hl) (hts _ m2) m3 ⟨by show d' + 1 ≤ _; omega, by show 8 + (N.2.2.1 + 11) + 60 * d' ≤ _; omega⟩, hts _ hv, trivial⟩ hpre rfl (by simp) hlo.1 hstk (lv_room (by rw [cat_map]; exact hrs)) hd ⟨by omega, by omega⟩) hS hlo k

