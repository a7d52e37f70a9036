/-! SEARCHING, as functions: the recursion of the model, the machine of the class -/
/-- first cell of fewest values (its place in order + 1, or 0) and how many it has -/
def bst (P : Pz) (g : Gs) : Nat → Nat × Nat
  | 0 => (0, 5)
  | i + 1 => if 2 ≤ pop (g (i % P.W) (i / P.W)) ∧ pop (g (i % P.W) (i / P.W)) < (bst P g i).2 then (i + 1, pop (g (i % P.W) (i / P.W))) else bst P g i
def bsC (P : Pz) (g : Gs) : Nat := (bst P g (P.W * P.H)).1
def bX (P : Pz) (g : Gs) : Nat := (bsC P g - 1) % P.W
def bY (P : Pz) (g : Gs) : Nat := (bsC P g - 1) / P.W
/-- nodes, found, over, the solutions kept -/
abbrev Sa : Type := Nat × Nat × Bool × (Nat → Gs)
def lst (z : Nat) : Nat := if z.testBit 0 then 0 else if z.testBit 1 then 1 else if z.testBit 2 then 2 else 3
def addS (g : Gs) (a : Sa) : Sa := (a.1, a.2.1 + 1, a.2.2.1, if a.2.1 < 2 then (fun k => if k = a.2.1 then (fun x y => lst (g x y)) else a.2.2.2 k) else a.2.2.2)
def incS (a : Sa) : Sa := (a.1 + 1, a.2)
def ovS (a : Sa) : Sa := (a.1, a.2.1, true, a.2.2.2)
def fin (cap : Nat) (a : Sa) : Bool := a.2.2.1 || decide (cap ≤ a.2.1)
def lookV (P : Pz) (cap bud : Nat) (L : Gs → Sa → Sa) (x y : Nat) : Nat → Gs → Sa → Sa
  | 0, _, a => a
  | k + 1, g, a => if fin cap a = true then a else if (g x y).testBit (P.C + 1 - (k + 1)) = true then (if a.1 = bud then ovS a else lookV P cap bud L x y k g (L (setX g x y (2 ^ (P.C + 1 - (k + 1)))) (incS a))) else lookV P cap bud L x y k g a
def nodeF (P : Pz) (cap bud : Nat) (L : Gs → Sa → Sa) (g : Gs) (a : Sa) : Sa := if bsC P g = 0 then addS g a else lookV P cap bud L (bX P g) (bY P g) (P.C + 1) g a
def look (P : Pz) (cap bud : Nat) : Nat → Gs → Sa → Sa
  | 0, _, a => a
  | f + 1, g, a => if (restP P g).1 = true then nodeF P cap bud (look P cap bud f) (restP P g).2.2 a else a
abbrev Fk4 : Type := Gs × Nat × Nat × Nat
def popS : List Fk4 → List Fk4
  | [] => []
  | e :: st => if e.2.2.2 = 0 then popS st else e :: st
/-- the machine: on, the sets, the open choices -/
def mach (P : Pz) (cap bud : Nat) : Nat → Bool → Gs → List Fk4 → Sa → Sa
  | 0, _, _, _, a => a
  | fu + 1, on, g, st, a =>
    let st1 : List Fk4 := if on = true ∧ bsC P g ≠ 0 then (g, bX P g, bY P g, g (bX P g) (bY P g)) :: st else st
    let a1 : Sa := if on = true ∧ bsC P g = 0 then addS g a else a
    if (on = true ∧ bsC P g = 0) ∧ cap ≤ a1.2.1 then a1 else
    match popS st1 with
    | [] => a1
    | e :: r => if a1.1 < bud then mach P cap bud fu (restP P (setX e.1 e.2.1 e.2.2.1 (2 ^ lst e.2.2.2))).1 (restP P (setX e.1 e.2.1 e.2.2.1 (2 ^ lst e.2.2.2))).2.2 ((e.1, e.2.1, e.2.2.1, less e.2.2.2 (lst e.2.2.2)) :: r) (incS a1) else ovS a1
/-- cells that are still open -/
def mcG (P : Pz) (g : Gs) : Nat := smC (fun x y => if 2 ≤ pop (g x y) then 1 else 0) P.W P.H
section Search
variable {P : Pz} {g : Gs} {cap bud : Nat}
theorem bst_le (k : Nat) : (bst P g k).1 ≤ k := by
  induction k with
  | zero => exact Nat.le_refl _
  | succ i ih =>
    rw [bst]
    split
    · exact Nat.le_refl _
    · omega
theorem bst_2 : ∀ k, (bst P g k).1 ≠ 0 → 2 ≤ pop (g (((bst P g k).1 - 1) % P.W) (((bst P g k).1 - 1) / P.W)) := by
  intro k
  induction k with
  | zero => intro h; exact absurd rfl h
  | succ i ih =>
    rw [bst]
    by_cases c : 2 ≤ pop (g (i % P.W) (i / P.W)) ∧ pop (g (i % P.W) (i / P.W)) < (bst P g i).2
    · rw [if_pos c]
      intro _
      exact c.1
    · rw [if_neg c]
      exact ih
theorem bst_0 (h16 : ∀ x y, x < P.W → y < P.H → g x y < 16) (hW : 1 ≤ P.W) : ∀ k, k ≤ P.W * P.H → ((bst P g k).1 = 0 → (bst P g k).2 = 5 ∧ ∀ i, i < k → pop (g (i % P.W) (i / P.W)) < 2) := by
  intro k
  induction k with
  | zero => intro _ _; exact ⟨rfl, fun i h => absurd h (by omega)⟩
  | succ i ih =>
    intro hk
    rw [bst]
    by_cases c : 2 ≤ pop (g (i % P.W) (i / P.W)) ∧ pop (g (i % P.W) (i / P.W)) < (bst P g i).2
    · rw [if_pos c]
      intro h
      exact absurd h (by show ¬ i + 1 = 0; omega)
    · rw [if_neg c]
      intro h
      obtain ⟨a, b⟩ := ih (by omega) h
      refine ⟨a, fun j hj => ?_⟩
      by_cases e : j = i
      · rw [e]
        obtain ⟨w1, w2⟩ := kWH (H := P.H) (k := i) hW (by omega)
        have := pop_le _ (h16 _ _ w1 w2)
        rw [a] at c
        omega
      · exact b j (by omega)
theorem bst_n0 {i : Nat} : ∀ k, i < k → (∀ j, j < k → pop (g (j % P.W) (j / P.W)) ≤ 4) → 2 ≤ pop (g (i % P.W) (i / P.W)) → (bst P g k).1 ≠ 0 := by
  have h5 : ∀ k, (bst P g k).1 = 0 → (bst P g k).2 = 5 := by
    intro k
    induction k with
    | zero => intro _; rfl
    | succ j ih =>
      rw [bst]
      split
      · intro h
        exact absurd h (by show ¬ j + 1 = 0; omega)
      · exact ih
  intro k
  induction k with
  | zero => intro h; omega
  | succ j ih =>
    intro h h4 h2
    rw [bst]
    by_cases c : 2 ≤ pop (g (j % P.W) (j / P.W)) ∧ pop (g (j % P.W) (j / P.W)) < (bst P g j).2
    · rw [if_pos c]
      show j + 1 ≠ 0
      omega
    · rw [if_neg c]
      by_cases e : i = j
      · subst e
        intro z
        rw [h5 i z] at c
        have := h4 i (by omega)
        omega
      · exact ih (by omega) (fun a ha => h4 a (by omega)) h2
theorem bXY (hP : P.ok) (h : bsC P g ≠ 0) : bX P g < P.W ∧ bY P g < P.H ∧ 2 ≤ pop (g (bX P g) (bY P g)) := by
  have h1 : bsC P g ≤ P.W * P.H := bst_le (P := P) (g := g) (P.W * P.H)
  obtain ⟨w1, w2⟩ := kWH (H := P.H) (k := bsC P g - 1) hP.1.1 (by omega)
  exact ⟨w1, w2, bst_2 _ h⟩
theorem mc_sub {g' : Gs} (hP : P.ok) (hg : setsOK P.W P.H P.C g) (hg' : setsOK P.W P.H P.C g') (h : subG P g' g) : mcG P g' ≤ mcG P g := by
  refine smC_mono P.H (fun x y hx hy => ?_)
  have := (pop_sub _ (ok16 hP hg' x y hx hy) _ (ok16 hP hg x y hx hy) (h x y hx hy)).1
  by_cases c : 2 ≤ pop (g' x y)
  · rw [if_pos c, if_pos (by omega)]
    exact Nat.le_refl _
  · rw [if_neg c]
    exact Nat.zero_le _
theorem pop_pow : ∀ v, v < 4 → pop (2 ^ v) = 1 := by decide +kernel
theorem mc_set {x y v : Nat} (hx : x < P.W) (hy : y < P.H) (hv : v < 4) (h2 : 2 ≤ pop (g x y)) : mcG P (setX g x y (2 ^ v)) < mcG P g := by
  refine smC_lt (i := x) (j := y) ?_ hx P.H hy (fun a b ha hb => ?_)
  · show (if 2 ≤ pop (setX g x y (2 ^ v) x y) then 1 else 0) < (if 2 ≤ pop (g x y) then 1 else 0)
    rw [setX_at, pop_pow v hv, if_neg (by decide), if_pos h2]
    decide
  · show (if 2 ≤ pop (setX g x y (2 ^ v) a b) then 1 else 0) ≤ (if 2 ≤ pop (g a b) then 1 else 0)
    unfold setX
    by_cases e : a = x ∧ b = y
    · rw [if_pos e, pop_pow v hv, if_neg (by decide)]
      exact Nat.zero_le _
    · rw [if_neg e]
      exact Nat.le_refl _
theorem mc_le (hP : P.ok) : mcG P g ≤ 144 := by
  have h := smC_le (f := fun x y => if 2 ≤ pop (g x y) then 1 else 0) (fun x y => one_if) P.W P.H
  obtain ⟨⟨-, a⟩, ⟨-, b⟩, -⟩ := hP
  have : P.W * P.H ≤ 12 * 12 := Nat.mul_le_mul a b
  unfold mcG
  omega
theorem mc_pos (hP : P.ok) (h : bsC P g ≠ 0) : 1 ≤ mcG P g := by
  obtain ⟨a, b, c⟩ := bXY hP h
  have := mc_set (g := g) (v := 0) a b (by omega) c
  omega
/-! masks: the values from v on -/
def msk (z v : Nat) : Nat := (z >>> v) <<< v
theorem msk_bit (z v i : Nat) : (msk z v).testBit i = (decide (v ≤ i) && z.testBit i) := by
  unfold msk
  rw [Nat.testBit_shiftLeft, Nat.testBit_shiftRight]
  by_cases c : v ≤ i
  · rw [decide_eq_true (show i ≥ v from c), show v + (i - v) = i by omega]
  · rw [decide_eq_false (show ¬ i ≥ v from c), Bool.false_and, Bool.false_and]
theorem msk_f : ∀ z, z < 16 → msk z 4 = 0 ∧ msk z 0 = z ∧ ∀ v, v < 4 → (z.testBit v = true → (msk z v ≠ 0 ∧ lst (msk z v) = v ∧ less (msk z v) v = msk z (v + 1))) ∧ (z.testBit v = false → msk z v = msk z (v + 1)) := by decide +kernel
theorem msk_C : ∀ C, C < 4 → ∀ z, z < 2 ^ (C + 1) → msk z (C + 1) = 0 := by decide +kernel
theorem fin_no {a : Sa} (h : fin cap a = false) : a.2.2.1 = false ∧ ¬ cap ≤ a.2.1 := by
  unfold fin at h
  rw [Bool.or_eq_false_iff, decide_eq_false_iff_not] at h
  exact h
/-- a step of the machine that is off: only the open choices count -/
theorem mach_off {fu : Nat} {g1 g2 : Gs} {st : List Fk4} {a : Sa} : mach P cap bud fu false g1 st a = mach P cap bud fu false g2 st a := by
  cases fu with
  | zero => rfl
  | succ fu =>
    rw [mach, mach]
    simp only [Bool.false_eq_true, false_and, if_false]
theorem mach_pop {fu : Nat} {g1 : Gs} {e : Fk4} {st : List Fk4} {a : Sa} (h : e.2.2.2 = 0) : mach P cap bud fu false g1 (e :: st) a = mach P cap bud fu false g1 st a := by
  cases fu with
  | zero => rfl
  | succ fu =>
    rw [mach, mach]
    simp only [Bool.false_eq_true, false_and, if_false]
    rw [popS, if_pos h]
/-- the machine runs with what is left of the budget -/
def Mst (P : Pz) (cap bud : Nat) (on : Bool) (g : Gs) (st : List Fk4) (a : Sa) : Sa := mach P cap bud (bud + 1 - a.1) on g st a
theorem mach_off' {g1 g2 : Gs} {st : List Fk4} {a : Sa} : Mst P cap bud false g1 st a = Mst P cap bud false g2 st a := mach_off
theorem Mst_add {st : List Fk4} {a : Sa} (hn : a.1 ≤ bud) (hb : bsC P g = 0) : Mst P cap bud true g st a = if cap ≤ (addS g a).2.1 then addS g a else Mst P cap bud false g st (addS g a) := by
  unfold Mst
  have e : bud + 1 - (addS g a).1 = bud + 1 - a.1 := rfl
  rw [e]
  obtain ⟨fu, hfu⟩ : ∃ fu, bud + 1 - a.1 = fu + 1 := ⟨bud - a.1, by omega⟩
  rw [hfu, mach, mach]
  simp only [hb, ne_eq, not_true, and_false, if_false, true_and, and_self, if_true, Bool.false_eq_true, false_and]
theorem Mst_push {st : List Fk4} {a : Sa} (hn : a.1 ≤ bud) (hb : bsC P g ≠ 0) : Mst P cap bud true g st a = Mst P cap bud false g ((g, bX P g, bY P g, g (bX P g) (bY P g)) :: st) a := by
  unfold Mst
  obtain ⟨fu, hfu⟩ : ∃ fu, bud + 1 - a.1 = fu + 1 := ⟨bud - a.1, by omega⟩
  rw [hfu, mach, mach]
  simp only [hb, ne_eq, not_false_eq_true, and_false, if_false, true_and, and_self, if_true, Bool.false_eq_true, false_and]
theorem Mst_top {x y m : Nat} {g1 : Gs} {st : List Fk4} {a : Sa} (hn : a.1 ≤ bud) (hm : m ≠ 0) : Mst P cap bud false g1 ((g, x, y, m) :: st) a = if a.1 < bud then Mst P cap bud (restP P (setX g x y (2 ^ lst m))).1 (restP P (setX g x y (2 ^ lst m))).2.2 ((g, x, y, less m (lst m)) :: st) (incS a) else ovS a := by
  unfold Mst
  have e : bud + 1 - (incS a).1 = bud - a.1 := by show bud + 1 - (a.1 + 1) = _; omega
  rw [e]
  have hfu : bud + 1 - a.1 = (bud - a.1) + 1 := by omega
  rw [hfu, mach]
  simp only [Bool.false_eq_true, false_and, if_false]
  rw [popS, if_neg hm]
theorem Mst_end {g1 : Gs} {a : Sa} (hn : a.1 ≤ bud) : Mst P cap bud false g1 [] a = a := by
  unfold Mst
  obtain ⟨fu, hfu⟩ : ∃ fu, bud + 1 - a.1 = fu + 1 := ⟨bud - a.1, by omega⟩
  rw [hfu, mach]
  simp only [Bool.false_eq_true, false_and, if_false]
  rfl
theorem addS_n {a : Sa} : (addS g a).1 = a.1 ∧ (addS g a).2.2.1 = a.2.2.1 := ⟨rfl, rfl⟩
/-- nodes only grow, and stay within the budget -/
theorem lookV_n {L : Gs → Sa → Sa} {x y : Nat} (hL : ∀ h b, b.1 ≤ bud → (L h b).1 ≤ bud) : ∀ k g a, a.1 ≤ bud → (lookV P cap bud L x y k g a).1 ≤ bud := by
  intro k
  induction k with
  | zero => intro g a h; exact h
  | succ k ih =>
    intro g a h
    rw [lookV]
    by_cases c1 : fin cap a = true
    · rw [if_pos c1]
      exact h
    · rw [if_neg c1]
      by_cases c2 : (g x y).testBit (P.C + 1 - (k + 1)) = true
      · rw [if_pos c2]
        by_cases c3 : a.1 = bud
        · rw [if_pos c3]
          exact h
        · rw [if_neg c3]
          exact ih g _ (hL _ _ (by show a.1 + 1 ≤ bud; omega))
      · rw [if_neg c2]
        exact ih g a h
theorem look_n : ∀ f g a, a.1 ≤ bud → (look P cap bud f g a).1 ≤ bud := by
  intro f
  induction f with
  | zero => intro g a h; exact h
  | succ f ih =>
    intro g a h
    rw [look]
    by_cases c : (restP P g).1 = true
    · rw [if_pos c]
      unfold nodeF
      by_cases d : bsC P (restP P g).2.2 = 0
      · rw [if_pos d]
        exact h
      · rw [if_neg d]
        exact lookV_n ih _ _ _ h
    · rw [if_neg c]
      exact h
theorem lookV_fin {L : Gs → Sa → Sa} {x y k : Nat} {a : Sa} (h : fin cap a = true) : lookV P cap bud L x y k g a = a := by
  cases k with
  | zero => rfl
  | succ k => rw [lookV, if_pos h]
theorem run_eq (hP : P.ok) : ∀ f, (∀ g st a, setsOK P.W P.H P.C g → mcG P g ≤ f → a.1 ≤ bud → fin cap a = false → Mst P cap bud true g st a = if fin cap (nodeF P cap bud (look P cap bud f) g a) = true then nodeF P cap bud (look P cap bud f) g a else Mst P cap bud false g st (nodeF P cap bud (look P cap bud f) g a)) := by
  intro f
  induction f with
  | zero =>
    intro g st a hg hmc hn hf
    have hb : bsC P g = 0 := by
      by_cases c : bsC P g = 0
      · exact c
      · have := mc_pos hP c
        omega
    unfold nodeF
    rw [if_pos hb, Mst_add hn hb]
    have : fin cap (addS g a) = decide (cap ≤ (addS g a).2.1) := by
      unfold fin
      rw [addS_n.2, (fin_no hf).1, Bool.false_or]
    rw [this]
    by_cases c : cap ≤ (addS g a).2.1
    · rw [if_pos c, if_pos (decide_eq_true c)]
    · rw [if_neg c, if_neg (by rw [decide_eq_false c]; decide)]
  | succ f ih =>
    intro g st a hg hmc hn hf
    unfold nodeF
    by_cases hb : bsC P g = 0
    · rw [if_pos hb, Mst_add hn hb]
      have : fin cap (addS g a) = decide (cap ≤ (addS g a).2.1) := by
        unfold fin
        rw [addS_n.2, (fin_no hf).1, Bool.false_or]
      rw [this]
      by_cases c : cap ≤ (addS g a).2.1
      · rw [if_pos c, if_pos (decide_eq_true c)]
      · rw [if_neg c, if_neg (by rw [decide_eq_false c]; decide)]
    · rw [if_neg hb, Mst_push hn hb]
      obtain ⟨bx, byy, b2⟩ := bXY hP hb
      have hC := hP.2.2.1
      have hz := ok16 hP hg _ _ bx byy
      have hmf := msk_f _ hz
      have hL : ∀ h b, b.1 ≤ bud → (look P cap bud (f + 1) h b).1 ≤ bud := fun h b hb' => look_n (f + 1) h b hb'
      have ev : ∀ k a, k ≤ P.C + 1 → a.1 ≤ bud → fin cap a = false → Mst P cap bud false g ((g, bX P g, bY P g, msk (g (bX P g) (bY P g)) (P.C + 1 - k)) :: st) a = if fin cap (lookV P cap bud (look P cap bud (f + 1)) (bX P g) (bY P g) k g a) = true then lookV P cap bud (look P cap bud (f + 1)) (bX P g) (bY P g) k g a else Mst P cap bud false g st (lookV P cap bud (look P cap bud (f + 1)) (bX P g) (bY P g) k g a) := by
        intro k
        induction k with
        | zero =>
          intro a _ ha hfa
          have nfa : ¬ fin cap a = true := by rw [hfa]; decide
          rw [lookV, if_neg nfa]
          exact mach_pop (msk_C P.C (by omega) _ (hg _ _ bx byy).2)
        | succ k ihk =>
          intro a hk ha hfa
          have nfa : ¬ fin cap a = true := by rw [hfa]; decide
          rw [lookV, if_neg nfa]
          have hv : P.C + 1 - (k + 1) < 4 := by omega
          have hvC : P.C + 1 - (k + 1) < P.C + 1 := by omega
          have hnx : P.C + 1 - (k + 1) + 1 = P.C + 1 - k := by omega
          revert hv hvC hnx
          generalize P.C + 1 - (k + 1) = v
          intro hv hvC hnx
          obtain ⟨m1, m2⟩ := hmf.2.2 v hv
          by_cases c2 : (g (bX P g) (bY P g)).testBit v = true
          · rw [if_pos c2]
            obtain ⟨n1', n2, n3⟩ := m1 c2
            rw [Mst_top ha n1', n2, n3, hnx]
            by_cases c3 : a.1 = bud
            · rw [if_pos c3, if_neg (by omega), if_pos]
              unfold fin ovS
              rfl
            · rw [if_neg c3, if_pos (by omega)]
              have hfi : fin cap (incS a) = false := hfa
              have hni : (incS a).1 ≤ bud := by show a.1 + 1 ≤ bud; omega
              have po := pow_ok (P := P) hvC
              have hok := setX_ok (x := bX P g) (y := bY P g) hg po.1 po.2
              obtain ⟨r1, r2, r3, r4, r5⟩ := restP_spec hP hok
              have hmc2 : mcG P (restP P (setX g (bX P g) (bY P g) (2 ^ v))).2.2 ≤ f := by
                have := mc_sub hP hok r1 r2
                have := mc_set (g := g) (v := v) bx byy hv b2
                omega
              have hlk : look P cap bud (f + 1) (setX g (bX P g) (bY P g) (2 ^ v)) (incS a) = if (restP P (setX g (bX P g) (bY P g) (2 ^ v))).1 = true then nodeF P cap bud (look P cap bud f) (restP P (setX g (bX P g) (bY P g) (2 ^ v))).2.2 (incS a) else incS a := by rw [look]
              have hln := hL (setX g (bX P g) (bY P g) (2 ^ v)) (incS a) hni
              revert hlk hln
              generalize look P cap bud (f + 1) (setX g (bX P g) (bY P g) (2 ^ v)) (incS a) = a2
              intro hlk hln
              by_cases c4 : (restP P (setX g (bX P g) (bY P g) (2 ^ v))).1 = true
              · rw [if_pos c4] at hlk
                rw [c4, ih _ _ (incS a) r1 hmc2 hni hfi, ← hlk]
                cases hfa2 : fin cap a2
                · rw [if_neg (by decide), mach_off' (g2 := g)]
                  exact ihk a2 (by omega) hln hfa2
                · rw [if_pos rfl, lookV_fin hfa2, hfa2, if_pos rfl]
              · rw [if_neg c4] at hlk
                have c4' : (restP P (setX g (bX P g) (bY P g) (2 ^ v))).1 = false := by simpa using c4
                rw [c4', hlk, mach_off' (g2 := g)]
                exact ihk (incS a) (by omega) hni hfi
          · have c2' : (g (bX P g) (bY P g)).testBit v = false := by simpa using c2
            rw [if_neg c2, m2 c2', hnx]
            exact ihk a (by omega) ha hfa
      have e0 := ev (P.C + 1) a (Nat.le_refl _) hn hf
      rw [Nat.sub_self, hmf.2.1] at e0
      exact e0
end Search
