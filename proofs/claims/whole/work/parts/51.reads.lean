/-! the cells that the invariant speaks of; calls that only read -/
def vis (a b : Nat) : Bool := [0, 1, 2, 3, 4, 5, 6, 12, 13, 14, 15, 33, 35, 37, 44, 45, 46, 47, 48, 49, 50, 51].contains a || (a == 43 && [1, 2, 3, 10, 11, 12, 13, 16, 19].contains b)
def eqV (s s' : St) : Prop := (∀ a b, vis a b = true → s'.1 a b = s.1 a b) ∧ ∀ b, s'.2.1 30 b = s.2.1 30 b
theorem eqV.rfl' {s : St} : eqV s s := ⟨fun _ _ _ => rfl, fun _ => rfl⟩
theorem eqV.trans {s t u : St} (h : eqV s t) (g : eqV t u) : eqV s u := ⟨fun a b v => (g.1 a b v).trans (h.1 a b v), fun b => (g.2 b).trans (h.2 b)⟩
theorem eqV.sF {s t : St} (h : eqV s t) {k j : Nat} {v : Int32} (hv : vis k j = false) : eqV s (sF t k j v) := by
  refine ⟨fun a b q => ?_, h.2⟩
  rw [sF_get, if_neg, h.1 a b q]
  rintro ⟨rfl, rfl⟩
  rw [hv] at q
  cases q
theorem Inv.eqV {s s' : St} (hI : Inv s) (h : eqV s s') : Inv s' := by
  have e : ∀ a, [0, 1, 2, 3, 4, 5, 6, 12, 13, 14, 15, 33, 35, 37, 44, 45, 46, 47, 48, 49, 50, 51].contains a = true → s'.1 a = s.1 a := fun a ha => by
    funext b
    exact h.1 a b (by simp only [vis, ha, Bool.true_or])
  have e43 : ∀ b, [1, 2, 3, 10, 11, 12, 13, 16, 19].contains b = true → s'.1 43 b = s.1 43 b := fun b hb => h.1 43 b (by simp only [vis, hb]; rfl)
  simp only [Inv, iTape, iSize, iSets, iFound, iRuns, iGrid, hasW, hasM, e 0 rfl, e 1 rfl, e 2 rfl, e 3 rfl, e 4 rfl, e 5 rfl, e 6 rfl, e 12 rfl, e 13 rfl, e 14 rfl, e 15 rfl, e 33 rfl, e 35 rfl, e 37 rfl, e 44 rfl, e 45 rfl, e 46 rfl, e 47 rfl, e 48 rfl, e 49 rfl, e 50 rfl, e 51 rfl, e43 1 rfl, e43 2 rfl, e43 3 rfl, e43 10 rfl, e43 11 rfl, e43 12 rfl, e43 13 rfl, e43 16 rfl, e43 19 rfl, h.2]
  exact hI
theorem Inv.thrown {s : St} (h : Inv s) : Inv (sF s 43 0 0) := h.eqV (eqV.rfl'.sF rfl)
theorem obs {α β : Type} {x : α} {f : α → Option β} : Option.bind (some x) f = f x := rfl
theorem st_fault {s : St} (hI : Inv s) : Step f_X8_fault f_X9_fault s := by
  refine ⟨_, _, _, rfl, ?_, hI.thrown⟩
  show some ((sF s 43 0 0).1 43 19, _) = _
  rw [sF_nj (by decide), hI.2.1]
theorem st_nodes {s : St} (hI : Inv s) : Step f_X8_nodes f_X9_nodes s := by
  obtain ⟨h1, h2, W, H, C, hz, hs, hf, hr⟩ := id hI
  refine ⟨s.1 33 3, s, sF s 43 0 0, rfl, ?_, hI.thrown⟩
  show some ((sF s 43 0 0).1 43 12, _) = _
  rw [sF_nj (by decide), hf.1]
/-! cells and lines -/
def noCell (W H : Nat) (x y : Int32) : Prop := x.toInt < 0 ∨ (W : Int) ≤ x.toInt ∨ y.toInt < 0 ∨ (H : Int) ≤ y.toInt
theorem cell_or (W H : Nat) (x y : Int32) (hW : W ≤ 12) (hH : H ≤ 12) : noCell W H x y ∨ ∃ i j, i < W ∧ j < H ∧ x = nI i ∧ y = nI j := by
  rcases arg_in x W (by omega) with (h | h) | ⟨i, hi, ex⟩
  · exact Or.inl (Or.inl h)
  · exact Or.inl (Or.inr (Or.inl h))
  rcases arg_in y H (by omega) with (h | h) | ⟨j, hj, ey⟩
  · exact Or.inl (Or.inr (Or.inr (Or.inl h)))
  · exact Or.inl (Or.inr (Or.inr (Or.inr h)))
  · exact Or.inr ⟨i, j, hi, hj, ex, ey⟩
theorem iSz.le {W H C : Nat} (h : iSz W H C) : W ≤ 12 ∧ H ≤ 12 ∧ C ≤ 3 := by unfold iSz at h; omega
theorem isCell8_no {s : St} {W H C : Nat} (hz : iSize s W H C) {x y : Int32} (h : noCell W H x y) : f_X8_isCell x y s = some (0, s) := by
  obtain ⟨h1, h2, h3, h4, h5, h6, h7⟩ := hz
  have hle := h7.le
  unfold f_X8_isCell noCell at *
  simp only [h1, h2, nI_lt0, nI_le' (show W < 2 ^ 31 by omega), nI_le' (show H < 2 ^ 31 by omega)]
  split
  · rfl
  split
  · rfl
  split
  · rfl
  split
  · rfl
  omega
theorem isCell8_yes {s : St} {W H C : Nat} (hz : iSize s W H C) {i j : Nat} (hi : i < W) (hj : j < H) : f_X8_isCell (nI i) (nI j) s = some (1, s) := by
  obtain ⟨h1, h2, h3, h4, h5, h6, h7⟩ := hz
  have hle := h7.le
  unfold f_X8_isCell
  simp only [h1, h2, nI_lt0, nI_le' (show W < 2 ^ 31 by omega), nI_le' (show H < 2 ^ 31 by omega), nI_toInt (show i < 2 ^ 31 by omega), nI_toInt (show j < 2 ^ 31 by omega)]
  rw [if_neg (by omega), if_neg (by omega), if_neg (by omega), if_neg (by omega)]
theorem is9 {s : St} {W H C : Nat} (hz : iSize s W H C) : f_X9_is s = some (if W = 0 then 0 else 1, s) := by
  obtain ⟨h1, h2, h3, h4, h5, h6, h7⟩ := hz
  have hle := h7.le
  unfold f_X9_is
  simp only [h4, n0, nI_leI (show W < 2 ^ 31 by omega) (show 0 < 2 ^ 31 by omega)]
  by_cases h : W = 0
  · rw [if_pos (by omega), if_pos h]
  · rw [if_neg (by omega), if_neg h]
theorem in9 {s : St} {a b c : Int32} : f_X9_in a b c s = some (if a.toInt < b.toInt ∨ c.toInt < a.toInt then 0 else 1, s) := by
  unfold f_X9_in
  simp only [Int32.lt_iff_toInt_lt]
  by_cases h1 : a.toInt < b.toInt
  · rw [if_pos h1, if_pos (Or.inl h1)]
  rw [if_neg h1]
  by_cases h2 : c.toInt < a.toInt
  · rw [if_pos h2, if_pos (Or.inr h2)]
  · rw [if_neg h2, if_neg (by omega)]
theorem in9y {s : St} {a b c : Int32} (h1 : b.toInt ≤ a.toInt) (h2 : a.toInt ≤ c.toInt) : f_X9_in a b c s = some (1, s) := by rw [in9, if_neg (by omega)]
theorem in9n {s : St} {a b c : Int32} (h : a.toInt < b.toInt ∨ c.toInt < a.toInt) : f_X9_in a b c s = some (0, s) := by rw [in9, if_pos h]
theorem nz {t : St} : ¬ ((1 : Int32), t).1 = 0 := by intro h; exact absurd (show (1 : Int32) = 0 from h) (by decide)
theorem t0 : (0 : Int32).toInt = 0 := rfl
theorem t1 : (1 : Int32).toInt = 1 := by decide +kernel
theorem isCell9_no {s : St} {W H C : Nat} (hz : iSize s W H C) {x y : Int32} (h : noCell W H x y) : f_X9_isCell x y s = some (0, s) := by
  have hI := is9 hz
  obtain ⟨h1, h2, h3, h4, h5, h6, h7⟩ := hz
  have hle := h7.le
  unfold f_X9_isCell noCell at *
  rw [hI, obs]
  by_cases hW : W = 0
  · simp only [hW, if_true]
  have hH : 1 ≤ H := by unfold iSz at h7; omega
  simp only [hW, if_false]
  rw [if_neg (by decide), in9, obs]
  simp only [h4, h5, t0, nI_sub1 (show 1 ≤ W by omega), nI_sub1 hH, nI_toInt (show W - 1 < 2 ^ 31 by omega)]
  by_cases c1 : x.toInt < 0 ∨ ((W - 1 : Nat) : Int) < x.toInt
  · rw [if_pos c1, if_pos rfl]
  rw [if_neg c1, if_neg (by decide), in9, obs]
  simp only [t0, nI_toInt (show H - 1 < 2 ^ 31 by omega)]
  have c2 : y.toInt < 0 ∨ ((H - 1 : Nat) : Int) < y.toInt := by omega
  rw [if_pos c2, if_pos rfl]
theorem isCell9_yes {s : St} {W H C : Nat} (hz : iSize s W H C) {i j : Nat} (hi : i < W) (hj : j < H) : f_X9_isCell (nI i) (nI j) s = some (1, s) := by
  have hI := is9 hz
  obtain ⟨h1, h2, h3, h4, h5, h6, h7⟩ := hz
  have hle := h7.le
  unfold f_X9_isCell
  rw [hI, obs, if_neg (show ¬ W = 0 by omega), if_neg nz, h4, nI_sub1 (by omega), in9y (by rw [t0, nI_toInt (by omega)]; omega) (by rw [nI_toInt (by omega), nI_toInt (by omega)]; omega), obs, if_neg nz, h5, nI_sub1 (by omega), in9y (by rw [t0, nI_toInt (by omega)]; omega) (by rw [nI_toInt (by omega), nI_toInt (by omega)]; omega), obs, if_neg nz]
theorem iSize.thrown {s : St} {W H C : Nat} (h : iSize s W H C) : iSize (sF s 43 0 0) W H C := h
theorem at2 {s : St} {g x y : Nat} (hc : clO g = 2) (ht : arT (rf g 0) = 1) (hn : arN (rf g 0) = 144) (hx : x < 12) (hy : y < 12) : f_X2_at g (nI x) (nI y) s = some (s.1 (rf g 0) (12 * y + x), s) := by
  unfold f_X2_at
  rw [if_neg (fun q => q hc), at12, aI_nI ht (by omega) (by omega), obs]
theorem st_given {s : St} (hI : Inv s) (x y : Int32) : Step (f_X8_given x y) (f_X9_given x y) s := by
  obtain ⟨h1, h2, W, H, C, hz, hs, hf, hr⟩ := id hI
  have hle := hz.2.2.2.2.2.2.le
  rcases cell_or W H x y hle.1 hle.2.1 with h | ⟨i, j, hi, hj, rfl, rfl⟩
  · refine ⟨-1, s, sF s 43 0 0, ?_, ?_, hI.thrown⟩
    · unfold f_X8_given; rw [isCell8_no hz h, obs, if_pos rfl]
    · unfold f_X9_given; rw [obs, isCell9_no hz.thrown h, obs, if_pos rfl]
  · have hg := (hr (by omega)).2.1
    refine ⟨s.1 13 (12 * j + i), s, sF s 43 0 0, ?_, ?_, hI.thrown⟩
    · unfold f_X8_given; rw [isCell8_yes hz hi hj, obs, if_neg nz, at2 rfl rfl rfl (by omega) (by omega), obs]; rfl
    · unfold f_X9_given; rw [obs, isCell9_yes hz.thrown hi hj, obs, if_neg nz, at12, aI_nI rfl (by show _ < 144; omega) (by decide), obs]
      rw [sF_ne (by decide), (hg.1 (12 * j + i) (by omega)).1]
theorem st_marked {s : St} (hI : Inv s) (x y : Int32) : Step (f_X8_marked x y) (f_X9_marked x y) s := by
  obtain ⟨h1, h2, W, H, C, hz, hs, hf, hr⟩ := id hI
  have hle := hz.2.2.2.2.2.2.le
  rcases cell_or W H x y hle.1 hle.2.1 with h | ⟨i, j, hi, hj, rfl, rfl⟩
  · refine ⟨-1, s, sF s 43 0 0, ?_, ?_, hI.thrown⟩
    · unfold f_X8_marked; rw [isCell8_no hz h, obs, if_pos rfl]
    · unfold f_X9_marked; rw [obs, isCell9_no hz.thrown h, obs, if_pos rfl]
  · have hg := (hr (by omega)).2.2
    refine ⟨s.1 15 (12 * j + i), s, sF s 43 0 0, ?_, ?_, hI.thrown⟩
    · unfold f_X8_marked; rw [isCell8_yes hz hi hj, obs, if_neg nz, at2 rfl rfl rfl (by omega) (by omega), obs]; rfl
    · unfold f_X9_marked; rw [obs, isCell9_yes hz.thrown hi hj, obs, if_neg nz, at12, aI_nI rfl (by show _ < 144; omega) (by decide), obs]
      rw [sF_ne (by decide), (hg.1 (12 * j + i) (by omega)).1]
theorem lines8 {s : St} {W H C : Nat} (hz : iSize s W H C) : f_X0_lines 3 s = some (nI (W + H), s) := by
  obtain ⟨h1, h2, -⟩ := hz
  unfold f_X0_lines
  rw [if_neg (fun q => q rfl), h1, h2, nI_add]
theorem lines9 {s : St} {W H C : Nat} (hz : iSize s W H C) : f_X9_lines s = some (nI (W + H), s) := by
  obtain ⟨-, -, -, h4, h5, -⟩ := hz
  unfold f_X9_lines
  rw [h4, h5, nI_add]
def noLine (n : Nat) (x : Int32) : Prop := x.toInt < 0 ∨ (n : Int) ≤ x.toInt
theorem isLine8_no {s : St} {W H C : Nat} (hz : iSize s W H C) {x : Int32} (h : noLine (W + H) x) : f_X8_isLine x s = some (0, s) := by
  have hle := hz.2.2.2.2.2.2.le
  unfold f_X8_isLine
  simp only [nI_lt0]
  by_cases c : x.toInt < 0
  · rw [if_pos c]
  · rw [if_neg c, lines8 hz, obs]
    rw [if_pos (show nI (W + H) ≤ x from (nI_le' (by omega)).mpr (by unfold noLine at h; omega))]
theorem isLine8_yes {s : St} {W H C : Nat} (hz : iSize s W H C) {l : Nat} (h : l < W + H) : f_X8_isLine (nI l) s = some (1, s) := by
  have hle := hz.2.2.2.2.2.2.le
  unfold f_X8_isLine
  rw [if_neg (nI_pos (by omega)), lines8 hz, obs]
  rw [if_neg (show ¬ nI (W + H) ≤ nI l from nI_ge h (by omega))]
theorem isLine9_no {s : St} {W H C : Nat} (hz : iSize s W H C) {x : Int32} (h : noLine (W + H) x) : f_X9_isLine x s = some (0, s) := by
  have hle := hz.2.2.2.2.2.2.le
  unfold f_X9_isLine
  rw [is9 hz, obs]
  by_cases hW : W = 0
  · rw [if_pos hW, if_pos rfl]
  rw [if_neg hW, if_neg nz, lines9 hz, obs]
  rw [show ((nI (W + H), s) : Int32 × St).1 - 1 = nI (W + H - 1) from nI_sub1 (by omega), in9n (by rw [t0, nI_toInt (by omega)]; unfold noLine at h; omega), obs, if_pos rfl]
theorem isLine9_yes {s : St} {W H C : Nat} (hz : iSize s W H C) {l : Nat} (h : l < W + H) (hW : 1 ≤ W) : f_X9_isLine (nI l) s = some (1, s) := by
  have hle := hz.2.2.2.2.2.2.le
  unfold f_X9_isLine
  rw [is9 hz, obs, if_neg (show ¬ W = 0 by omega), if_neg nz, lines9 hz, obs]
  rw [show ((nI (W + H), s) : Int32 × St).1 - 1 = nI (W + H - 1) from nI_sub1 (by omega), in9y (by rw [t0, nI_toInt (by omega)]; omega) (by rw [nI_toInt (by omega), nI_toInt (by omega)]; omega), obs, if_neg nz]
theorem line_or {W H C : Nat} (h : iSz W H C) (x : Int32) : noLine (W + H) x ∨ ∃ l, l < W + H ∧ 1 ≤ W ∧ x = nI l := by
  have hle := h.le
  rcases arg_in x (W + H) (by omega) with q | ⟨j, hj, e⟩
  · exact Or.inl q
  · exact Or.inr ⟨j, hj, by unfold iSz at h; omega, e⟩
theorem lengthOf0 {s : St} {g l k : Nat} (hc : clO g = 0) (ht : arT (rf g 1) = 1) (hn : arN (rf g 1) = 288) (h : 12 * l + k < 288) : f_X0_lengthOf g (nI l) (nI k) s = some (s.1 (rf g 1) (12 * l + k), s) := by
  unfold f_X0_lengthOf
  rw [if_neg (fun q => q hc), at12, aI_nI ht (by omega) (by omega), obs]
theorem colourOf0 {s : St} {g l k : Nat} (hc : clO g = 0) (ht : arT (rf g 2) = 1) (hn : arN (rf g 2) = 288) (h : 12 * l + k < 288) : f_X0_colourOf g (nI l) (nI k) s = some (s.1 (rf g 2) (12 * l + k), s) := by
  unfold f_X0_colourOf
  rw [if_neg (fun q => q hc), at12, aI_nI ht (by omega) (by omega), obs]
theorem st_run {s : St} (hI : Inv s) (x y z : Int32) : Step (f_X8_run x y z) (f_X9_run x y z) s := by
  obtain ⟨h1, h2, W, H, C, hz, hs, hf, hr⟩ := id hI
  have hle := hz.2.2.2.2.2.2.le
  rcases line_or hz.2.2.2.2.2.2 x with h | ⟨l, hl, hW, rfl⟩
  · refine ⟨-1, s, sF s 43 0 0, ?_, ?_, hI.thrown⟩
    · unfold f_X8_run; rw [isLine8_no hz h, obs, if_pos rfl]
    · unfold f_X9_run; rw [obs, isLine9_no hz.thrown h, obs, if_pos rfl]
  obtain ⟨⟨cn, len, col, hrn, -⟩, -, -⟩ := hr hW
  obtain ⟨q1, q2, q3, q4, q5⟩ := hrn l hl
  have a4 : aI s 4 (nI l) = some (nI (cn l)) := by rw [aI_nI rfl (by show _ < 24; omega) (by decide), q2]
  have a44 : aI (sF s 43 0 0) 44 (nI l) = some (nI (cn l)) := by rw [aI_nI rfl (by show _ < 24; omega) (by decide), sF_ne (by decide), q3]
  have m1 : ¬ nI (cn l) = -1 := fun q => by have := congrArg Int32.toInt q; rw [nI_toInt (by omega), m1_toInt] at this; omega
  have e8 : f_X8_run (nI l) y z s = if y = -1 then some (nI (cn l), s) else if y < 0 then some (-1, s) else if y < nI (cn l) then (if z = 0 then Option.bind (f_X0_lengthOf 3 (nI l) y s) fun r8 => some (r8.1, r8.2) else if z = 1 then Option.bind (f_X0_colourOf 3 (nI l) y s) fun r10 => some (r10.1, r10.2) else some (-1, s)) else some (-1, s) := by
    unfold f_X8_run
    rw [isLine8_yes hz hl, obs, if_neg nz]
    simp only [a4, obs]
  have e9 : f_X9_run (nI l) y z s = if y = -1 then some (nI (cn l), sF s 43 0 0) else Option.bind (f_X9_in y 0 (nI (cn l) - 1) (sF s 43 0 0)) fun r6 => if r6.1 = 0 then some (-1, r6.2) else Option.bind (f_X9_in z 0 1 r6.2) fun r8 => if r8.1 = 0 then some (-1, r8.2) else if z = 0 then Option.bind (aI r8.2 45 (((12 : Int32) * nI l) + y)) fun x12 => some (x12, r8.2) else Option.bind (aI r8.2 46 (((12 : Int32) * nI l) + y)) fun x11 => some (x11, r8.2) := by
    unfold f_X9_run
    rw [obs, isLine9_yes hz.thrown hl hW, obs, if_neg nz]
    simp only [a44, obs]
  by_cases hy : y = -1
  · exact ⟨nI (cn l), s, sF s 43 0 0, by rw [e8, if_pos hy], by rw [e9, if_pos hy], hI.thrown⟩
  rw [if_neg hy] at e8 e9
  rcases arg_in y (cn l) (by omega) with h | ⟨k, hk, rfl⟩
  · refine ⟨-1, s, sF s 43 0 0, ?_, ?_, hI.thrown⟩
    · rw [e8]
      by_cases c : y < 0
      · rw [if_pos c]
      · have c2 : ¬ y < nI (cn l) := by
          rw [lt_nI (by omega)]
          rw [nI_lt0] at c
          omega
        rw [if_neg c, if_neg c2]
    · rw [e9]
      by_cases c0 : cn l = 0
      · rw [c0, show nI 0 - 1 = -1 by decide +kernel, in9n (by rw [t0, m1_toInt]; omega), obs, if_pos rfl]
      · rw [nI_sub1 (by omega), in9n (by rw [t0, nI_toInt (by omega)]; omega), obs, if_pos rfl]
  obtain ⟨-, -, w1, w2, w3, w4⟩ := q5 k hk
  have b1 : ¬ nI k < 0 := nI_pos (by omega)
  have b2 : nI k < nI (cn l) := nI_lt hk (by omega)
  rw [if_neg b1, if_pos b2, lengthOf0 rfl rfl rfl (by omega), colourOf0 rfl rfl rfl (by omega), obs, obs] at e8
  rw [nI_sub1 (by omega), in9y (by rw [t0, nI_toInt (by omega)]; omega) (by rw [nI_toInt (by omega), nI_toInt (by omega)]; omega), obs, if_neg nz, at12] at e9
  by_cases z0 : z = 0
  · subst z0
    refine ⟨nI (len l k), s, sF s 43 0 0, ?_, ?_, hI.thrown⟩
    · rw [e8, if_pos rfl]
      exact congrArg (fun v => some (v, s)) w1
    · rw [e9, in9y (by decide) (by decide), obs, if_neg nz, if_pos rfl, aI_nI rfl (by show _ < 288; omega) (by decide), obs, sF_ne (by decide), w2]
  by_cases z1 : z = 1
  · subst z1
    refine ⟨nI (col l k), s, sF s 43 0 0, ?_, ?_, hI.thrown⟩
    · rw [e8, if_neg z0, if_pos rfl]
      exact congrArg (fun v => some (v, s)) w3
    · rw [e9, in9y (by decide) (by decide), obs, if_neg nz, if_neg z0, aI_nI rfl (by show _ < 288; omega) (by decide), obs, sF_ne (by decide), w4]
  · refine ⟨-1, s, sF s 43 0 0, ?_, ?_, hI.thrown⟩
    · rw [e8, if_neg z0, if_neg z1]
    · have e0 : ¬ z.toInt = 0 := fun q => z0 (Int32.toInt_inj.mp (q.trans t0.symm))
      have e1 : ¬ z.toInt = 1 := fun q => z1 (Int32.toInt_inj.mp (q.trans t1.symm))
      rw [e9, in9n (by rw [t0, t1]; omega), obs, if_pos rfl]
theorem kept1 {s : St} {g : Nat} {x : Int32} {n : Nat} (hc : clO g = 1) (h : s.1 g 2 = nI n) (hn : n < 2 ^ 31) : f_X1_isKept g x s = some (if 0 ≤ x.toInt ∧ x.toInt < 2 ∧ x.toInt < (n : Int) then 1 else 0, s) := by
  unfold f_X1_isKept
  rw [if_neg (fun q => q hc)]
  simp only [h, nI_lt0, Int32.le_iff_toInt_le, nI_toInt hn, show (2 : Int32).toInt = 2 by decide +kernel]
  split
  · rw [if_neg (by omega)]
  split
  · rw [if_neg (by omega)]
  split
  · rw [if_neg (by omega)]
  · rw [if_pos (by omega)]
