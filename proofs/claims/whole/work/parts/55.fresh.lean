/-! FIRST SETS: fill, tell, become; the model's first; fresh, set -/
def fullB (n c i : Nat) : Bool := decide (i % 12 < n) && decide (i / 12 < c)
theorem ones : ∀ n, n ≤ 12 → ((1 : Int64) <<< ((nI n).toInt64 &&& 63)) - 1 = lN (2 ^ n - 1) := by decide +kernel
theorem full_step {n v i : Nat} {a : Int64} (hn : n ≤ 12) (hv : v < 4) (hi : i < 64) (ha : jb a i = fullB n v i) : jb (a ||| (lN (2 ^ n - 1) <<< ((nI (12 * v)).toInt64 &&& 63))) i = fullB n (v + 1) i := by
  rw [j_or, ha, j_shl (12 * v) (by omega) _ hi, j_lN, Nat.testBit_two_pow_sub_one]
  unfold fullB
  have h64 : i - 12 * v < 64 := by omega
  simp only [h64, decide_true, Bool.true_and]
  by_cases h1 : i % 12 < n
  · simp only [h1, decide_true, Bool.true_and]
    by_cases h2 : i / 12 < v
    · have : i / 12 < v + 1 := by omega
      simp [h2, this]
    · by_cases h3 : i / 12 = v
      · have e1 : 12 * v ≤ i := by omega
        have e2 : i - 12 * v < n := by omega
        have e3 : i / 12 < v + 1 := by omega
        simp [e1, e2, e3]
      · have e3 : ¬ i / 12 < v + 1 := by omega
        have e4 : ¬ i - 12 * v < n := by omega
        simp [h2, e3, e4]
  · simp only [h1, decide_false, Bool.false_and, Bool.false_or]
    by_cases h2 : 12 * v ≤ i
    · have : ¬ i - 12 * v < n := by omega
      simp [this]
    · simp [h2]
theorem cellsOf0 {s : St} {W H C l : Nat} (hz : cSize s W H C) (hl : l < 24) : f_X0_cellsOf 3 (nI l) s = some (nI (lnOf W H l), s) := by
  obtain ⟨z1, z2, z3, z4, z5, z6, z7, z8, z9⟩ := hz
  unfold f_X0_cellsOf lnOf
  rw [if_neg (fun q => q rfl), z1, z2]
  by_cases h : l < H
  · rw [if_neg (nI_ge h (by omega)), if_pos h]
  · rw [if_pos (nI_le (by omega) (by omega)), if_neg h]
theorem clines {s : St} {W H C : Nat} (hz : cSize s W H C) : f_X0_lines 3 s = some (nI (W + H), s) := by
  unfold f_X0_lines
  rw [if_neg (fun q => q rfl), hz.1, hz.2.1, nI_add]
theorem fill32 {g W H C l n : Nat} {K : Int32 → St → Option St} {s : St} (hz : cSize s W H C) (ht : arT (rf g 1) = 3) (hn : arN (rf g 1) = 24) (hl : l < 24) (hn12 : n ≤ 12) : ∀ (k v fu : Nat) (a : Int64), C + 1 - v = k → v ≤ C + 1 → k < fu → (∀ i, i < 64 → jb a i = fullB n v i) → ∃ b, f_X4_fill_32 g K fu (nI l) (lN (2 ^ n - 1)) a (nI v) s = K (nI l + 1) (sL s (rf g 1) l b) ∧ ∀ i, i < 64 → jb b i = fullB n (C + 1) i := by
  have z3 := hz.2.2.1
  have z9 := hz.2.2.2.2.2.2.2.2
  intro k
  induction k with
  | zero =>
    intro v fu a h1 h2 h3 ha
    obtain ⟨fu, rfl⟩ : ∃ z, fu = z + 1 := ⟨fu - 1, by omega⟩
    obtain rfl : v = C + 1 := by omega
    refine ⟨a, ?_, ha⟩
    unfold f_X4_fill_32
    rw [z3, if_pos (nI_lt (by omega) (by omega)), pJ_nI ht (by omega) (by omega), obs]
  | succ k ih =>
    intro v fu a h1 h2 h3 ha
    obtain ⟨fu, rfl⟩ : ∃ z, fu = z + 1 := ⟨fu - 1, by omega⟩
    unfold f_X4_fill_32
    rw [z3, if_neg (nI_nlt (by omega) (by omega)), n12, pk_mul, nI_1]
    exact ih (v + 1) fu _ (by omega) (by omega) (by omega) (fun i hi => full_step hn12 (by omega) hi (ha i hi))
def allV (C : Nat) : Nat → Nat → Nat := fun _ _ => 2 ^ (C + 1) - 1
theorem full_w {W H C l i : Nat} (hC : C ≤ 3) : fullB (lnOf W H l) (C + 1) i = wbit (rowM (allV C) H l) (lnOf W H l) i := by
  unfold fullB wbit
  have : rowM (allV C) H l (i % 12) = 2 ^ (C + 1) - 1 := by unfold rowM allV; split <;> rfl
  rw [this, Nat.testBit_two_pow_sub_one]
  by_cases h : i / 12 < C + 1
  · have : i / 12 < 4 := by omega
    simp [h, this]
  · simp [h]
theorem fill4 {s : St} {W H C g : Nat} (hz : cSize s W H C) (hc : clO g = 4) (ht : arT (rf g 1) = 3) (hn : arN (rf g 1) = 24) : ∃ w, f_X4_fill g s = some (sRowL s (rf g 1) w) ∧ hasWr w W H (allV C) := by
  have hz' := hz
  obtain ⟨z1, z2, z3, z4, z5, z6, z7, z8, z9⟩ := hz'
  have loop : ∀ (k l fu : Nat) (w : Nat → Int64), W + H - l = k → l ≤ W + H → k < fu → (∀ l', l' < l → ∀ i, i < 64 → jb (w l') i = wbit (rowM (allV C) H l') (lnOf W H l') i) → ∃ w', f_X4_fill_2 g fu (nI l) (sRowL s (rf g 1) w) = some (sRowL s (rf g 1) w') ∧ hasWr w' W H (allV C) := by
    intro k
    induction k with
    | zero =>
      intro l fu w h1 h2 h3 hw
      obtain ⟨fu, rfl⟩ : ∃ z, fu = z + 1 := ⟨fu - 1, by omega⟩
      obtain rfl : l = W + H := by omega
      refine ⟨w, ?_, hw⟩
      unfold f_X4_fill_2
      rw [clines (s := sRowL s (rf g 1) w) hz, obs, if_pos (show nI (W + H) ≤ nI (W + H) from nI_le (Nat.le_refl _) (by omega))]
    | succ k ih =>
      intro l fu w h1 h2 h3 hw
      obtain ⟨fu, rfl⟩ : ∃ z, fu = z + 1 := ⟨fu - 1, by omega⟩
      unfold f_X4_fill_2
      have hln : lnOf W H l ≤ 12 := by unfold lnOf; split <;> omega
      rw [clines (s := sRowL s (rf g 1) w) hz, obs, if_neg (show ¬ nI (W + H) ≤ nI l from nI_ge (by omega) (by omega)), cellsOf0 (s := sRowL s (rf g 1) w) hz (by omega), obs, ones _ hln]
      obtain ⟨b, e1, e2⟩ := fill32 (K := f_X4_fill_2 g fu) (s := sRowL s (rf g 1) w) (l := l) (n := lnOf W H l) hz ht hn (by omega) hln (C + 1) 0 FU 0 (by omega) (by omega) (by unfold FU; omega) (fun i hi => by rw [j_0]; simp [fullB])
      rw [← n0] at e1
      rw [e1, nI_1, sL_row, sRowL_sRowL, sRowL_row]
      refine ih (l + 1) fu _ (by omega) (by omega) (by omega) (fun l' hl' i hi => ?_)
      by_cases e : l' = l
      · subst e
        rw [show updJ w l' b l' = b from if_pos rfl, e2 i hi, full_w z9]
      · rw [show updJ w l b l' = w l' from if_neg e]
        exact hw l' (by omega) i hi
  obtain ⟨w', e1, e2⟩ := loop (W + H) 0 FU (s.2.1 (rf g 1)) (by omega) (by omega) (by unfold FU; omega) (fun l' h => absurd h (by omega))
  refine ⟨w', ?_, e2⟩
  unfold f_X4_fill
  rw [if_neg (fun q => q hc), n0]
  rw [sRowL_self] at e1
  exact e1
/-- sets m, but where the grid's row f has a value: that alone -/
def tellM (f : Nat → Int32) (m : Nat → Nat → Nat) : Nat → Nat → Nat := fun x y => if f (12 * y + x) = -1 then m x y else 2 ^ (f (12 * y + x)).toNatClampNeg
def tellTo (f : Nat → Int32) (m : Nat → Nat → Nat) (x0 y0 : Nat) : Nat → Nat → Nat := fun x y => if y < y0 ∨ (y = y0 ∧ x < x0) then tellM f m x y else m x y
theorem hasWr_congr {w : Nat → Int64} {W H : Nat} {m m' : Nat → Nat → Nat} (h : hasWr w W H m) (e : ∀ x y, x < W → y < H → m' x y = m x y) : hasWr w W H m' := by
  intro l hl i hi
  rw [h l hl i hi]
  unfold wbit
  by_cases c : i % 12 < lnOf W H l
  · have : rowM m' H l (i % 12) = rowM m H l (i % 12) := by
      unfold rowM
      unfold lnOf at c
      split
      · rename_i q
        rw [if_pos q] at c
        exact e _ _ c q
      · rename_i q
        rw [if_neg q] at c
        exact e _ _ (by omega) c
    rw [this]
  · simp [c]
theorem tell4 {s : St} {W H C g a : Nat} {m : Nat → Nat → Nat} (hz : cSize s W H C) (hc : clO g = 4) (ht : arT (rf g 1) = 3) (hn : arN (rf g 1) = 24) (ha : clO a = 2) (hta : arT (rf a 0) = 1) (hna : arN (rf a 0) = 144) (hg : ∀ c, c < 144 → gVal C (s.1 (rf a 0) c)) (hm : hasWr (s.2.1 (rf g 1)) W H m) : ∃ w, f_X4_tell g a s = some (sRowL s (rf g 1) w) ∧ hasWr w W H (tellM (s.1 (rf a 0)) m) := by
  have hz' := hz
  obtain ⟨z1, z2, z3, z4, z5, z6, z7, z8, z9⟩ := hz'
  -- a row of cells
  have inner : ∀ (k x fu : Nat) (K : Int32 → St → Option St) (y : Nat) (w : Nat → Int64), y < H → W - x = k → x ≤ W → k < fu → hasWr w W H (tellTo (s.1 (rf a 0)) m x y) → ∃ w', f_X4_tell_15 g a K fu (nI y) (nI x) (sRowL s (rf g 1) w) = K (nI y + 1) (sRowL s (rf g 1) w') ∧ hasWr w' W H (tellTo (s.1 (rf a 0)) m W y) := by
    intro k
    induction k with
    | zero =>
      intro x fu K y w hy h1 h2 h3 hw
      obtain ⟨fu, rfl⟩ : ∃ z, fu = z + 1 := ⟨fu - 1, by omega⟩
      obtain rfl : x = W := by omega
      refine ⟨w, ?_, hw⟩
      unfold f_X4_tell_15
      rw [sRowL_F, z1, if_pos (nI_le (Nat.le_refl _) (by omega))]
    | succ k ih =>
      intro x fu K y w hy h1 h2 h3 hw
      obtain ⟨fu, rfl⟩ : ∃ z, fu = z + 1 := ⟨fu - 1, by omega⟩
      unfold f_X4_tell_15
      rw [sRowL_F, z1, if_neg (nI_ge (by omega) (by omega)), at2 ha hta hna (by omega) (by omega), obs]
      have next : ∀ w', hasWr w' W H (tellTo (s.1 (rf a 0)) m (x + 1) y) → ∃ w'', f_X4_tell_48 g a K (f_X4_tell_15 g a K fu) (nI y) (nI x) (sRowL s (rf g 1) w') = K (nI y + 1) (sRowL s (rf g 1) w'') ∧ hasWr w'' W H (tellTo (s.1 (rf a 0)) m W y) := by
        intro w' hw'
        unfold f_X4_tell_48
        rw [nI_1]
        exact ih (x + 1) fu K y w' hy (by omega) (by omega) (by omega) hw'
      by_cases hv : s.1 (rf a 0) (12 * y + x) = -1
      · rw [if_pos (show ((sRowL s (rf g 1) w).1 (rf a 0) (12 * y + x), sRowL s (rf g 1) w).1 = -1 from hv)]
        refine next w (hasWr_congr hw (fun p q hp hq => ?_))
        unfold tellTo
        by_cases c : p = x ∧ q = y
        · obtain ⟨rfl, rfl⟩ := c
          rw [if_pos (by omega), if_neg (by omega)]
          exact if_pos hv
        · by_cases c2 : q < y ∨ (q = y ∧ p < x)
          · rw [if_pos (by omega), if_pos c2]
          · rw [if_neg (by omega), if_neg c2]
      · rw [if_neg (show ¬ ((sRowL s (rf g 1) w).1 (rf a 0) (12 * y + x), sRowL s (rf g 1) w).1 = -1 from hv)]
        obtain ⟨v, hvC, ev⟩ : ∃ v, v ≤ C ∧ s.1 (rf a 0) (12 * y + x) = nI v := by
          rcases hg (12 * y + x) (by omega) with q | q
          · exact absurd q hv
          · exact q
        obtain ⟨w1, e1, e2⟩ := fix4 (s := sRowL s (rf g 1) w) (v := v) (x := x) (y := y) (m := tellTo (s.1 (rf a 0)) m x y) hz hc ht hn (by omega) hy (by omega) (by rw [sRowL_row]; exact hw)
        show ∃ w', Option.bind (f_X4_fix g (nI x) (nI y) (s.1 (rf a 0) (12 * y + x)) (sRowL s (rf g 1) w)) _ = _ ∧ _
        rw [ev, e1, obs, sRowL_sRowL]
        refine next w1 (hasWr_congr e2 (fun p q hp hq => ?_))
        unfold tellTo setX
        by_cases c : p = x ∧ q = y
        · obtain ⟨rfl, rfl⟩ := c
          rw [if_pos (by omega), if_pos ⟨rfl, rfl⟩]
          unfold tellM
          rw [if_neg hv, ev, nI_clamp (by omega)]
        · rw [if_neg c]
          dsimp only
          by_cases c2 : q < y ∨ (q = y ∧ p < x)
          · rw [if_pos (by omega), if_pos c2]
          · rw [if_neg (by omega), if_neg c2]
  have outer : ∀ (k y fu : Nat) (w : Nat → Int64), H - y = k → y ≤ H → k < fu → hasWr w W H (tellTo (s.1 (rf a 0)) m 0 y) → ∃ w', f_X4_tell_2 g a fu (nI y) (sRowL s (rf g 1) w) = some (sRowL s (rf g 1) w') ∧ hasWr w' W H (tellM (s.1 (rf a 0)) m) := by
    intro k
    induction k with
    | zero =>
      intro y fu w h1 h2 h3 hw
      obtain ⟨fu, rfl⟩ : ∃ z, fu = z + 1 := ⟨fu - 1, by omega⟩
      obtain rfl : y = H := by omega
      refine ⟨w, ?_, hasWr_congr hw (fun p q hp hq => ?_)⟩
      · unfold f_X4_tell_2
        rw [sRowL_F, z2, if_pos (nI_le (Nat.le_refl _) (by omega))]
      · unfold tellTo
        rw [if_pos (Or.inl hq)]
    | succ k ih =>
      intro y fu w h1 h2 h3 hw
      obtain ⟨fu, rfl⟩ : ∃ z, fu = z + 1 := ⟨fu - 1, by omega⟩
      unfold f_X4_tell_2
      rw [sRowL_F, z2, if_neg (nI_ge (by omega) (by omega)), n0]
      obtain ⟨w1, e1, e2⟩ := inner W 0 FU (f_X4_tell_2 g a fu) y w (by omega) (by omega) (by omega) (by unfold FU; omega) hw
      rw [e1, nI_1]
      refine ih (y + 1) fu w1 (by omega) (by omega) (by omega) (hasWr_congr e2 (fun p q hp hq => ?_))
      unfold tellTo
      by_cases c : q < y + 1
      · rw [if_pos (by omega), if_pos (by omega)]
      · rw [if_neg (by omega), if_neg (by omega)]
  obtain ⟨w', e1, e2⟩ := outer H 0 FU (s.2.1 (rf g 1)) (by omega) (by omega) (by unfold FU; omega) (hasWr_congr hm (fun p q hp hq => by unfold tellTo; rw [if_neg (by omega)]))
  refine ⟨w', ?_, e2⟩
  unfold f_X4_tell
  rw [if_neg (fun q => q hc), if_neg (fun q => q ha), n0]
  rw [sRowL_self] at e1
  exact e1
/-- FIRST SETS of a row of GIVENS -/
def firstM (f : Nat → Int32) (C : Nat) : Nat → Nat → Nat := tellM f (allV C)
theorem become4 {s : St} {W H C g a : Nat} (hz : cSize s W H C) (hc : clO g = 4) (ht : arT (rf g 1) = 3) (hn : arN (rf g 1) = 24) (ha : clO a = 2) (hta : arT (rf a 0) = 1) (hna : arN (rf a 0) = 144) (hg : ∀ c, c < 144 → gVal C (s.1 (rf a 0) c)) : ∃ w, f_X4_become g a s = some (sRowL s (rf g 1) w) ∧ hasWr w W H (firstM (s.1 (rf a 0)) C) := by
  obtain ⟨w1, e1, e2⟩ := fill4 hz hc ht hn
  obtain ⟨w2, e3, e4⟩ := tell4 (s := sRowL s (rf g 1) w1) (m := allV C) hz hc ht hn ha hta hna hg (by rw [sRowL_row]; exact e2)
  refine ⟨w2, ?_, e4⟩
  unfold f_X4_become
  rw [if_neg (fun q => q hc), if_neg (fun q => q ha), e1, obs, e3, obs, sRowL_sRowL]
/-! the model's first -/
theorem allI : ∀ C, C ≤ 3 → ((1 : Int32) <<< ((nI C + 1) &&& 31)) - 1 = nI (2 ^ (C + 1) - 1) := by decide +kernel
theorem oneI : ∀ v, v ≤ 3 → (1 : Int32) <<< (nI v &&& 31) = nI (2 ^ v) := by decide +kernel
def fstN (f : Nat → Int32) (C j : Nat) : Nat := if f j = -1 then 2 ^ (C + 1) - 1 else 2 ^ (f j).toNatClampNeg
theorem firstM_at (f : Nat → Int32) (C x y : Nat) : firstM f C x y = fstN f C (12 * y + x) := rfl
theorem first9 {s : St} {C q : Nat} (h3 : s.1 43 3 = nI C) (hC : C ≤ 3) (hq : q ≠ 47) (hq2 : q ≠ 43) (ht : arT q = 1) (hn : 144 ≤ arN q) (hn2 : arN q < 2 ^ 31) (hg : ∀ c, c < 144 → gVal C (s.1 47 c)) : f_X9_first q 0 s = some (sRow s q (fun j => if j < 144 then nI (fstN (s.1 47) C j) else s.1 q j)) := by
  have loop : ∀ (k i fu : Nat) (r : Nat → Int32), 144 - i = k → i ≤ 144 → k < fu → f_X9_first_2 q fu 0 (nI i) (sRow s q r) = some (sRow s q (fun j => if i ≤ j ∧ j < 144 then nI (fstN (s.1 47) C j) else r j)) := by
    intro k
    induction k with
    | zero =>
      intro i fu r h1 h2 h3
      obtain ⟨fu, rfl⟩ : ∃ z, fu = z + 1 := ⟨fu - 1, by omega⟩
      unfold f_X9_first_2
      rw [if_pos (show (144 : Int32) ≤ nI i from nI_le (a := 144) (by omega) (by omega))]
      congr 2
      funext j
      rw [if_neg (by omega)]
    | succ k ih =>
      intro i fu r h1 h2 h4
      obtain ⟨fu, rfl⟩ : ∃ z, fu = z + 1 := ⟨fu - 1, by omega⟩
      unfold f_X9_first_2
      have a47 : aI (sRow s q r) 47 (nI i) = some (s.1 47 i) := by rw [aI_nI rfl (by show i < 144; omega) (by decide), sRow_get, if_neg (fun z => hq z.symm)]
      have e43 : (sRow s q r).1 43 3 = nI C := by rw [sRow_get, if_neg (fun z => hq2 z.symm)]; exact h3
      rw [if_neg (show ¬ (144 : Int32) ≤ nI i from nI_ge (b := 144) (by omega) (by omega)), a47, obs]
      have fin : f_X9_first_44 q (f_X9_first_2 q fu) 0 (nI i) (nI (fstN (s.1 47) C i)) (0 + nI i) q (sRow s q r) = some (sRow s q (fun j => if i ≤ j ∧ j < 144 then nI (fstN (s.1 47) C j) else r j)) := by
        unfold f_X9_first_44
        rw [Int32.zero_add, pI_nI ht (by omega) hn2, obs, nI_1]
        have e : sF (sRow s q r) q i (nI (fstN (s.1 47) C i)) = sRow s q (fun j => if j = i then nI (fstN (s.1 47) C i) else r j) := by
          rw [← sRow_upd]
          simp only [sRow_get, if_true]
          simp only [sRow]
          congr 1
          funext a
          by_cases h : a = q
          · simp only [rw1, h, if_true]
            rfl
          · simp [rw1, h]
        rw [e, ih (i + 1) fu _ (by omega) (by omega) (by omega)]
        congr 2
        funext j
        by_cases h5 : j = i
        · subst h5
          rw [if_neg (by omega), if_pos rfl, if_pos (by omega)]
        · rw [if_neg h5]
          by_cases h6 : i + 1 ≤ j ∧ j < 144
          · rw [if_pos h6, if_pos (by omega)]
          · rw [if_neg h6, if_neg (by omega)]
      by_cases hv : s.1 47 i = -1
      · rw [if_pos hv, e43, allI C hC]
        have : fstN (s.1 47) C i = 2 ^ (C + 1) - 1 := if_pos hv
        rw [← this]
        exact fin
      · rw [if_neg hv, obs]
        obtain ⟨v, hv1, hv2⟩ : ∃ v, v ≤ C ∧ s.1 47 i = nI v := by
          rcases hg i (by omega) with z | z
          · exact absurd z hv
          · exact z
        have : fstN (s.1 47) C i = 2 ^ v := by unfold fstN; rw [if_neg hv, hv2, nI_clamp (by omega)]
        rw [hv2, oneI v (by omega), ← this]
        exact fin
  have e : sRow s q (s.1 q) = s := by
    obtain ⟨f, g⟩ := s
    simp only [sRow]
    congr 1
    funext a
    by_cases h : a = q <;> simp [rw1, h]
  have h := loop 144 0 FU (s.1 q) (by omega) (by omega) (by decide)
  rw [e] at h
  unfold f_X9_first
  rw [show (0 : Int32) = nI 0 from n0] at h ⊢
  rw [h]
  congr 2
  funext j
  simp
def frM (t : St) (q C : Nat) : St := sRow t q (fun j => if j < 144 then nI (fstN (t.1 47) C j) else t.1 q j)
theorem fstN_ok {f : Nat → Int32} {C j : Nat} (hC : C ≤ 3) (hg : gVal C (f j)) : 1 ≤ fstN f C j ∧ fstN f C j < 2 ^ (C + 1) := by
  unfold fstN
  have p1 : 1 ≤ 2 ^ C := Nat.one_le_two_pow
  have p2 : 2 ^ (C + 1) = 2 * 2 ^ C := by rw [Nat.pow_succ]; omega
  by_cases h : f j = -1
  · rw [if_pos h]
    omega
  · rw [if_neg h]
    rcases hg with z | ⟨n, hn, e⟩
    · exact absurd z h
    · rw [e, nI_clamp (by omega)]
      exact ⟨Nat.one_le_two_pow, Nat.pow_lt_pow_right (by decide) (by omega)⟩
theorem iSize.c {s : St} {W H C : Nat} (h : iSize s W H C) (hW : 1 ≤ W) : cSize s W H C := by
  obtain ⟨h1, h2, h3, -, -, -, h7⟩ := h
  unfold iSz at h7
  exact ⟨h1, h2, h3, by omega, by omega, by omega, by omega, by omega, by omega⟩
theorem hasP8 {s : St} {W H C : Nat} (hz : iSize s W H C) : f_X8_hasPuzzle s = some (if W = 0 then 0 else 1, s) := by
  have hle := hz.2.2.2.2.2.2.le
  unfold f_X8_hasPuzzle
  rw [hz.1]
  by_cases h : W = 0
  · subst h
    rfl
  · rw [if_neg h, if_neg (nI_nle (by omega) (by omega))]
theorem st_fresh {s : St} (hI : Inv s) : Step f_X8_fresh f_X9_fresh s := by
  obtain ⟨h1, h2, W, H, C, hz, hs, hf, hr⟩ := id hI
  have hle := hz.2.2.2.2.2.2.le
  by_cases hW : W = 0
  · refine ⟨0, s, sF s 43 0 0, ?_, ?_, hI.thrown⟩
    · unfold f_X8_fresh; rw [hasP8 hz, if_pos hW, obs, if_pos rfl]
    · unfold f_X9_fresh; rw [obs, is9 hz.thrown, if_pos hW, obs, if_pos rfl]
  obtain ⟨hrn, hg, hm⟩ := hr (by omega)
  obtain ⟨w, e1, e2⟩ := become4 (g := 29) (a := 12) (hz.c (by omega)) rfl rfl rfl rfl rfl rfl (fun c hc => (hg.1 c hc).2)
  have g47 : ∀ c, c < 144 → gVal C (s.1 47 c) := fun c hc => by rw [← (hg.1 c hc).1]; exact (hg.1 c hc).2
  have e9 := first9 (s := sF (sF (sRowL s 30 w) 0 12 1) 43 0 0) (C := C) (q := 49) hz.2.2.2.2.2.1 hle.2.2 (by decide) (by decide) rfl (by decide) (by decide) g47
  refine ⟨1, sF (sRowL s 30 w) 0 12 1, sF (frM (sF (sF (sRowL s 30 w) 0 12 1) 43 0 0) 49 C) 43 10 1, ?_, ?_, ?_⟩
  · unfold f_X8_fresh; rw [hasP8 hz, if_neg hW, obs, if_neg nz, e1, obs, obs]; rfl
  · unfold f_X9_fresh; rw [obs, is9 (s := sF (sF (sRowL s 30 w) 0 12 1) 43 0 0) (W := W) (H := H) (C := C) hz, if_neg hW, obs, if_neg nz, e9, obs, obs]; rfl
  · have sz : iSize (sF (frM (sF (sF (sRowL s 30 w) 0 12 1) 43 0 0) 49 C) 43 10 1) W H C := hz
    refine ⟨h1, h2, W, H, C, sz, ⟨rfl, Or.inr ⟨rfl, by omega, firstM (s.1 13) C, fun x y hx hy => ?_, e2, fun x y hx hy => ?_⟩⟩, hf, fun _ => ⟨hrn, hg, hm⟩⟩
    · rw [firstM_at]
      exact fstN_ok hle.2.2 (hg.1 _ (by omega)).2
    · rw [firstM_at]
      have hc : 12 * y + x < 144 := by omega
      rw [sF_ne (by decide), frM, sRow_get, if_pos rfl, Nat.zero_add, if_pos hc]
      congr 1
      unfold fstN
      have : (sF (sF (sRowL s 30 w) 0 12 1) 43 0 0).1 47 (12 * y + x) = s.1 13 (12 * y + x) := ((hg.1 _ hc).1).symm
      rw [this]
theorem lt16 {C z : Nat} (hC : C ≤ 3) (h : z < 2 ^ (C + 1)) : z < 16 := Nat.lt_of_lt_of_le h (show 2 ^ (C + 1) ≤ 2 ^ 4 from Nat.pow_le_pow_right (by decide) (by omega))
theorem st_set {s : St} (hI : Inv s) (x y : Int32) : Step (f_X8_set x y) (f_X9_set x y) s := by
  obtain ⟨h1, h2, W, H, C, hz, hs, hf, hr⟩ := id hI
  have hle := hz.2.2.2.2.2.2.le
  obtain ⟨q1, q2⟩ := hs
  rcases q2 with q2 | ⟨q2, hW, g, k1, k2, k3⟩
  · refine ⟨-1, s, sF s 43 0 0, ?_, ?_, hI.thrown⟩
    · unfold f_X8_set; rw [if_pos q2]
    · unfold f_X9_set
      rw [obs]
      rcases cell_or W H x y hle.1 hle.2.1 with h | ⟨i, j, hi, hj, rfl, rfl⟩
      · rw [isCell9_no hz.thrown h, obs, if_pos rfl]
      · rw [isCell9_yes hz.thrown hi hj, obs, if_neg nz, if_pos (show (sF s 43 0 0).1 43 10 = 0 by rw [sF_nj (by decide), ← q1]; exact q2)]
  have n8 : ¬ s.1 0 12 = 0 := by rw [q2]; decide
  rcases cell_or W H x y hle.1 hle.2.1 with h | ⟨i, j, hi, hj, rfl, rfl⟩
  · refine ⟨-1, s, sF s 43 0 0, ?_, ?_, hI.thrown⟩
    · unfold f_X8_set; rw [if_neg n8, isCell8_no hz h, obs, if_pos rfl]
    · unfold f_X9_set; rw [obs, isCell9_no hz.thrown h, obs, if_pos rfl]
  · have hk := k1 i j hi hj
    refine ⟨nI (g i j), s, sF s 43 0 0, ?_, ?_, hI.thrown⟩
    · unfold f_X8_set; rw [if_neg n8, isCell8_yes hz hi hj, obs, if_neg nz, valuesAt4 (g := 29) (m := g) rfl rfl rfl hi hj hle.1 hle.2.1 k2 (lt16 hle.2.2 hk.2), obs]
    · unfold f_X9_set
      rw [obs, isCell9_yes hz.thrown hi hj, obs, if_neg nz, if_neg (show ¬ (sF s 43 0 0).1 43 10 = 0 by rw [sF_nj (by decide), ← q1]; exact n8), at12, aI_nI rfl (by show _ < 144; omega) (by decide), obs, sF_ne (by decide)]
      have := k3 i j hi hj
      rw [Nat.zero_add] at this
      rw [this]
