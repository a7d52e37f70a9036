/-! the SETS of the class: rows of words w, the sets m of the cells -/
def cSize (s : St) (W H C : Nat) : Prop := s.1 3 3 = nI W ∧ s.1 3 4 = nI H ∧ s.1 3 5 = nI C ∧ 1 ≤ W ∧ W ≤ 12 ∧ 1 ≤ H ∧ H ≤ 12 ∧ 1 ≤ C ∧ C ≤ 3
def hasWr (w : Nat → Int64) (W H : Nat) (m : Nat → Nat → Nat) : Prop := ∀ l, l < W + H → ∀ i, i < 64 → jb (w l) i = wbit (rowM m H l) (lnOf W H l) i
def setX (m : Nat → Nat → Nat) (x y z : Nat) : Nat → Nat → Nat := fun a b => if a = x ∧ b = y then z else m a b
def updJ (w : Nat → Int64) (l : Nat) (v : Int64) : Nat → Int64 := fun a => if a = l then v else w a
theorem sL_row {s : St} {q l : Nat} {v : Int64} : sL s q l v = sRowL s q (updJ (s.2.1 q) l v) := by
  simp only [sL, sRowL]
  congr 2
  funext a b
  by_cases h : a = q
  · subst h
    by_cases hb : b = l <;> simp [u2, rw1, updJ, hb]
  · simp [u2, rw1, h]
theorem sRowL_row {s : St} {q : Nat} {w : Nat → Int64} : (sRowL s q w).2.1 q = w := by simp [sRowL, rw1]
theorem sRowL_ne {s : St} {q k : Nat} {w : Nat → Int64} (h : k ≠ q) : (sRowL s q w).2.1 k = s.2.1 k := by simp [sRowL, rw1, h]
theorem sRowL_sRowL {s : St} {q : Nat} {w v : Nat → Int64} : sRowL (sRowL s q w) q v = sRowL s q v := by
  simp only [sRowL]
  congr 2
  funext a
  by_cases h : a = q <;> simp [rw1, h]
theorem sRowL_self {s : St} {q : Nat} : sRowL s q (s.2.1 q) = s := by
  obtain ⟨f, g, o⟩ := s
  simp only [sRowL]
  congr 2
  funext a
  by_cases h : a = q <;> simp [rw1, h]
theorem sRowL_F {s : St} {q : Nat} {w : Nat → Int64} : (sRowL s q w).1 = s.1 := rfl
theorem sRowL_o {s : St} {q : Nat} {w : Nat → Int64} : (sRowL s q w).2.2 = s.2.2 := rfl
theorem at12' (v p : Nat) : (12 : Int32) * nI v + nI p = nI (12 * v + p) := at12 v p
/-- the word of a line when cell p gets VALUE v alone -/
theorem fix_bits {x : Int64} {p v i : Nat} (hp : p < 12) (hv : v < 4) (hi : i < 64) (h48 : 48 ≤ i → jb x i = false) : jb ((x &&& (((68736258049 : Int64) <<< ((nI p).toInt64 &&& 63)) ^^^ (-1 : Int64))) ||| ((1 : Int64) <<< ((nI (12 * v + p)).toInt64 &&& 63))) i = if i % 12 = p then decide (i / 12 = v) else jb x i := by
  rw [j_or, j_and, j_xor, j_shl p (by omega) _ hi, j_shl (12 * v + p) (by omega) _ hi, j_cell, j_1, j_m1 i hi]
  by_cases h : i % 12 = p
  · rw [if_pos h]
    by_cases hb : i < 48
    · have h1 : p ≤ i ∧ (i - p = 0 ∨ i - p = 12 ∨ i - p = 24 ∨ i - p = 36) := by omega
      have h2 : (12 * v + p ≤ i ∧ i - (12 * v + p) = 0) ↔ i / 12 = v := by omega
      simp only [h1.1, h1.2, decide_true, Bool.and_true, Bool.true_xor, Bool.not_true, Bool.and_false, Bool.false_or]
      by_cases e : i / 12 = v
      · have := h2.mpr e
        simp [this.1, this.2, e]
      · have := fun q => e (h2.mp q)
        simp only [e, decide_false]
        by_cases z : 12 * v + p ≤ i
        · have : ¬ i - (12 * v + p) = 0 := fun q => this ⟨z, q⟩
          simp [this]
        · simp [z]
    · rw [h48 (by omega)]
      have : ¬ i / 12 = v := by omega
      have z : ¬ i - (12 * v + p) = 0 := by omega
      simp [this, z]
  · rw [if_neg h]
    have h1 : ¬ (p ≤ i ∧ (i - p = 0 ∨ i - p = 12 ∨ i - p = 24 ∨ i - p = 36)) := by omega
    have h2 : ¬ (12 * v + p ≤ i ∧ i - (12 * v + p) = 0) := by omega
    have e1 : (decide (p ≤ i) && decide (i - p = 0 ∨ i - p = 12 ∨ i - p = 24 ∨ i - p = 36)) = false := by
      rw [← Bool.decide_and]
      exact decide_eq_false h1
    have e2 : (decide (12 * v + p ≤ i) && decide (i - (12 * v + p) = 0)) = false := by
      rw [← Bool.decide_and]
      exact decide_eq_false h2
    rw [e1, e2]
    simp
theorem pow_bit (v k : Nat) : (2 ^ v).testBit k = decide (v = k) := Nat.testBit_two_pow
theorem wbit_48 {m : Nat → Nat} {n i : Nat} (h : 48 ≤ i) : wbit m n i = false := by
  have : ¬ i / 12 < 4 := by omega
  simp [wbit, this]
theorem rowM_set {m : Nat → Nat → Nat} {H l x y z p : Nat} : rowM (setX m x y z) H l p = if (l < H ∧ p = x ∧ l = y) ∨ (¬ l < H ∧ l - H = x ∧ p = y) then z else rowM m H l p := by
  unfold rowM setX
  by_cases h : l < H
  · simp [h]
  · simp [h]
theorem fix4 {s : St} {W H C g x y v : Nat} {m : Nat → Nat → Nat} (hz : cSize s W H C) (hc : clO g = 4) (ht : arT (rf g 1) = 3) (hn : arN (rf g 1) = 24) (hx : x < W) (hy : y < H) (hv : v < 4) (hm : hasWr (s.2.1 (rf g 1)) W H m) : ∃ w, f_X4_fix g (nI x) (nI y) (nI v) s = some (sRowL s (rf g 1) w) ∧ hasWr w W H (setX m x y (2 ^ v)) := by
  obtain ⟨z1, z2, z3, z4, z5, z6, z7, z8, z9⟩ := hz
  have hb : ∀ l, l < W + H → ∀ i, i < 64 → 48 ≤ i → jb (s.2.1 (rf g 1) l) i = false := fun l hl i hi h => by rw [hm l hl i hi, wbit_48 h]
  unfold f_X4_fix
  rw [if_neg (fun q => q hc), aJ_nI ht (by omega) (by omega), obs, pJ_nI ht (by omega) (by omega), obs, z2, nI_add, aJ_nI ht (by omega) (by omega), obs, pJ_nI ht (by omega) (by omega), obs, at12', at12', sL_row, sL_row, sRowL_sRowL, sRowL_row]
  refine ⟨_, rfl, fun l hl i hi => ?_⟩
  have e1 : ∀ l', l' ≠ y → updJ (s.2.1 (rf g 1)) y ((s.2.1 (rf g 1) y &&& (((68736258049 : Int64) <<< ((nI x).toInt64 &&& 63)) ^^^ (-1 : Int64))) ||| ((1 : Int64) <<< ((nI (12 * v + x)).toInt64 &&& 63))) l' = s.2.1 (rf g 1) l' := fun l' h => if_neg h
  rw [e1 (H + x) (by omega)]
  have hi12 : i = 12 * (i / 12) + i % 12 := by omega
  by_cases c1 : l = H + x
  · subst c1
    rw [show updJ (updJ (s.2.1 (rf g 1)) y _) (H + x) _ (H + x) = _ from if_pos rfl, fix_bits (by omega) hv hi (hb _ hl i hi), hm _ hl i hi]
    unfold wbit
    rw [rowM_set]
    by_cases c2 : i % 12 = y
    · rw [if_pos c2, if_pos (by omega), pow_bit]
      have c3 : i % 12 < lnOf W H (H + x) := by unfold lnOf; rw [if_neg (by omega)]; omega
      simp only [c3, decide_true, Bool.true_and]
      by_cases c4 : i / 12 = v
      · have : i / 12 < 4 := by omega
        simp [c4, this, hv]
      · have : ¬ v = i / 12 := fun q => c4 q.symm
        simp [c4, this]
    · rw [if_neg c2, if_neg (by omega)]
  · rw [show updJ (updJ (s.2.1 (rf g 1)) y _) (H + x) _ l = updJ (s.2.1 (rf g 1)) y _ l from if_neg c1]
    by_cases c5 : l = y
    · subst c5
      rw [show updJ (s.2.1 (rf g 1)) l _ l = _ from if_pos rfl, fix_bits (by omega) hv hi (hb _ hl i hi), hm _ hl i hi]
      unfold wbit
      rw [rowM_set]
      by_cases c2 : i % 12 = x
      · rw [if_pos c2, if_pos (by omega), pow_bit]
        have c3 : i % 12 < lnOf W H l := by unfold lnOf; rw [if_pos hy]; omega
        simp only [c3, decide_true, Bool.true_and]
        by_cases c4 : i / 12 = v
        · have : i / 12 < 4 := by omega
          simp [c4, this, hv]
        · have : ¬ v = i / 12 := fun q => c4 q.symm
          simp [c4, this]
      · rw [if_neg c2, if_neg (by omega)]
    · rw [e1 l c5, hm _ hl i hi]
      unfold wbit
      rw [rowM_set, if_neg (by omega)]
theorem n11 : (11 : Int32) = nI 11 := by decide +kernel
theorem n22 : (22 : Int32) = nI 22 := by decide +kernel
theorem n33 : (33 : Int32) = nI 33 := by decide +kernel
theorem lt16_bit {z i : Nat} (hz : z < 16) (hi : 4 ≤ i) : z.testBit i = false := Nat.testBit_lt_two_pow (Nat.lt_of_lt_of_le hz (Nat.pow_le_pow_right (n := 2) (by decide) hi))
theorem valuesIn4 {x : Int64} {p z : Nat} {s : St} (hp : p < 12) (hz : z < 16) (hb : ∀ v, v < 4 → jb x (12 * v + p) = z.testBit v) : f_X4_valuesIn x (nI p) s = some (nI z, s) := by
  unfold f_X4_valuesIn
  rw [obs, n11, n22, n33]
  congr 2
  apply b_ext
  intro i hi
  rw [b_and, bj_l2i, j_or, j_or, j_or, j_ushr 11 (by omega), j_ushr 22 (by omega), j_ushr 33 (by omega), j_and, j_and, j_and, j_and, j_ushr p (by omega), j_ushr p (by omega), j_ushr p (by omega), j_ushr p (by omega), j_cell, j_cell, j_cell, j_cell, b_15, b_nI]
  by_cases h : i < 4
  · have h1 := hb i h
    simp only [hi, h, decide_true, Bool.true_and, Bool.and_true]
    match i, h with
    | 0, _ => simp at h1 ⊢; exact h1
    | 1, _ => simp at h1 ⊢; rw [← h1]; congr 1; omega
    | 2, _ => simp at h1 ⊢; rw [← h1]; congr 1; omega
    | 3, _ => simp at h1 ⊢; rw [← h1]; congr 1; omega
  · rw [lt16_bit hz (by omega)]
    simp [h]
theorem row_at {w : Nat → Int64} {W H : Nat} {m : Nat → Nat → Nat} (hm : hasWr w W H m) {x y : Nat} (hx : x < W) (hy : y < H) (hW : W ≤ 12) : ∀ v, v < 4 → jb (w y) (12 * v + x) = (m x y).testBit v := by
  intro v hv
  rw [hm y (by omega) _ (by omega)]
  have e1 : (12 * v + x) % 12 = x := by omega
  have e2 : (12 * v + x) / 12 = v := by omega
  unfold wbit
  rw [e1, e2]
  simp [rowM, lnOf, hy, hx, hv]
theorem col_at {w : Nat → Int64} {W H : Nat} {m : Nat → Nat → Nat} (hm : hasWr w W H m) {x y : Nat} (hx : x < W) (hy : y < H) (hH : H ≤ 12) : ∀ v, v < 4 → jb (w (H + x)) (12 * v + y) = (m x y).testBit v := by
  intro v hv
  rw [hm (H + x) (by omega) _ (by omega)]
  have e1 : (12 * v + y) % 12 = y := by omega
  have e2 : (12 * v + y) / 12 = v := by omega
  unfold wbit
  rw [e1, e2]
  simp [rowM, lnOf, hy, hv, show ¬ H + x < H by omega]
theorem valuesAt4 {s : St} {W H g x y : Nat} {m : Nat → Nat → Nat} (hc : clO g = 4) (ht : arT (rf g 1) = 3) (hn : arN (rf g 1) = 24) (hx : x < W) (hy : y < H) (hW : W ≤ 12) (hH : H ≤ 12) (hm : hasWr (s.2.1 (rf g 1)) W H m) (h16 : m x y < 16) : f_X4_valuesAt g (nI x) (nI y) s = some (nI (m x y), s) := by
  unfold f_X4_valuesAt
  rw [if_neg (fun q => q hc), aJ_nI ht (by omega) (by omega), obs, valuesIn4 (z := m x y) (by omega) h16 (row_at hm hx hy hW), obs]
/-- the word of a line when cell p loses VALUE v -/
theorem drop_bits {x : Int64} {p v i : Nat} (hp : p < 12) (hv : v < 4) (hi : i < 64) : jb (x &&& (((1 : Int64) <<< ((nI (12 * v + p)).toInt64 &&& 63)) ^^^ (-1 : Int64))) i = if i = 12 * v + p then false else jb x i := by
  rw [j_and, j_xor, j_shl (12 * v + p) (by omega) _ hi, j_1, j_m1 i hi]
  by_cases h : i = 12 * v + p
  · rw [if_pos h]
    simp [h]
  · rw [if_neg h]
    have e2 : (decide (12 * v + p ≤ i) && decide (i - (12 * v + p) = 0)) = false := by
      rw [← Bool.decide_and]
      exact decide_eq_false (by omega)
    rw [e2]
    simp
/-- a set without one of its values -/
def less (z v : Nat) : Nat := if z.testBit v then z - 2 ^ v else z
theorem less_bit : ∀ z, z < 16 → ∀ v, v < 4 → ∀ k, k < 4 → (less z v).testBit k = (if k = v then false else z.testBit k) := by decide +kernel
theorem less_lt {z v : Nat} (h : z < 16) : less z v < 16 := by
  unfold less
  split
  · exact Nat.lt_of_le_of_lt (Nat.sub_le _ _) h
  · exact h
theorem drop4 {s : St} {W H C g x y v : Nat} {m : Nat → Nat → Nat} (hz : cSize s W H C) (hc : clO g = 4) (ht : arT (rf g 1) = 3) (hn : arN (rf g 1) = 24) (hx : x < W) (hy : y < H) (hv : v < 4) (h16 : m x y < 16) (hm : hasWr (s.2.1 (rf g 1)) W H m) : ∃ w, f_X4_drop g (nI x) (nI y) (nI v) s = some (sRowL s (rf g 1) w) ∧ hasWr w W H (setX m x y (less (m x y) v)) := by
  obtain ⟨z1, z2, z3, z4, z5, z6, z7, z8, z9⟩ := hz
  unfold f_X4_drop
  rw [if_neg (fun q => q hc), aJ_nI ht (by omega) (by omega), obs, pJ_nI ht (by omega) (by omega), obs, sL_F, z2, nI_add, aJ_nI ht (by omega) (by omega), obs, pJ_nI ht (by omega) (by omega), obs, at12', at12', sL_row, sL_row, sRowL_sRowL, sRowL_row]
  refine ⟨_, rfl, fun l hl i hi => ?_⟩
  have e1 : ∀ l', l' ≠ y → updJ (s.2.1 (rf g 1)) y (s.2.1 (rf g 1) y &&& (((1 : Int64) <<< ((nI (12 * v + x)).toInt64 &&& 63)) ^^^ (-1 : Int64))) l' = s.2.1 (rf g 1) l' := fun l' h => if_neg h
  rw [e1 (H + x) (by omega)]
  by_cases c1 : l = H + x
  · subst c1
    rw [show updJ (updJ (s.2.1 (rf g 1)) y _) (H + x) _ (H + x) = _ from if_pos rfl, drop_bits (by omega) hv hi, hm _ hl i hi]
    unfold wbit
    rw [rowM_set]
    by_cases c2 : i % 12 = y
    · rw [if_pos (c := (H + x < H ∧ i % 12 = x ∧ H + x = y) ∨ (¬ H + x < H ∧ H + x - H = x ∧ i % 12 = y)) (by omega)]
      by_cases c4 : i / 12 < 4
      · rw [less_bit _ h16 v hv _ c4]
        by_cases c5 : i = 12 * v + y
        · rw [if_pos c5, if_pos (by omega)]
          simp
        · rw [if_neg c5, if_neg (by omega)]
          have : rowM m H (H + x) (i % 12) = m x y := by simp [rowM, c2, show ¬ H + x < H by omega]
          rw [this]
      · rw [if_neg (by omega)]
        simp [c4]
    · rw [if_neg (by omega), if_neg (by omega)]
  · rw [show updJ (updJ (s.2.1 (rf g 1)) y _) (H + x) _ l = updJ (s.2.1 (rf g 1)) y _ l from if_neg c1]
    by_cases c5 : l = y
    · subst c5
      rw [show updJ (s.2.1 (rf g 1)) l _ l = _ from if_pos rfl, drop_bits (by omega) hv hi, hm _ hl i hi]
      unfold wbit
      rw [rowM_set]
      by_cases c2 : i % 12 = x
      · rw [if_pos (c := (l < H ∧ i % 12 = x ∧ l = l) ∨ (¬ l < H ∧ l - H = x ∧ i % 12 = l)) (by omega)]
        by_cases c4 : i / 12 < 4
        · rw [less_bit _ h16 v hv _ c4]
          by_cases c6 : i = 12 * v + x
          · rw [if_pos c6, if_pos (by omega)]
            simp
          · rw [if_neg c6, if_neg (by omega)]
            have : rowM m H l (i % 12) = m x l := by simp [rowM, c2, hy]
            rw [this]
        · rw [if_neg (by omega)]
          simp [c4]
      · rw [if_neg (by omega), if_neg (by omega)]
    · rw [e1 l c5, hm _ hl i hi]
      unfold wbit
      rw [rowM_set, if_neg (by omega)]
