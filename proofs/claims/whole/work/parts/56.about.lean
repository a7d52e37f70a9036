/-! counting: many, bitCount of small sets, countSingles; about -/
def pop (z : Nat) : Nat := (if z.testBit 0 then 1 else 0) + (if z.testBit 1 then 1 else 0) + (if z.testBit 2 then 1 else 0) + (if z.testBit 3 then 1 else 0)
theorem many1 {n k : Nat} {x v : Int32} {s : St} (hk : k < 4) : f_X9_many_4 (n + 1) x v (nI k) s = f_X9_many_4 n x (v + ((x >>> (nI k &&& 31)) &&& 1)) (nI (k + 1)) s := by
  rw [f_X9_many_4, if_neg (show ¬ (4 : Int32) ≤ nI k from nI_ge (b := 4) hk (by omega)), nI_1]
theorem many_v : ∀ z, z < 16 → (0 : Int32) + ((nI z >>> (nI 0 &&& 31)) &&& 1) + ((nI z >>> (nI 1 &&& 31)) &&& 1) + ((nI z >>> (nI 2 &&& 31)) &&& 1) + ((nI z >>> (nI 3 &&& 31)) &&& 1) = nI (pop z) := by decide +kernel
theorem many9 {z : Nat} {s : St} (hz : z < 16) : f_X9_many (nI z) s = some (nI (pop z), s) := by
  unfold f_X9_many
  rw [show FU = (4091 + 1 + 1 + 1 + 1 + 1) from rfl, show f_X9_many_4 (4091 + 1 + 1 + 1 + 1 + 1) (nI z) 0 0 s = f_X9_many_4 (4091 + 1 + 1 + 1 + 1 + 1) (nI z) 0 (nI 0) s from rfl, many1 (by omega), many1 (by omega), many1 (by omega), many1 (by omega), f_X9_many_4, if_pos (show (4 : Int32) ≤ nI 4 by decide), many_v z hz]
def bcV (a : Int32) : Int32 :=
  let x1 := a - (((a.toUInt32 >>> ((1 : Int32).toUInt32 &&& Int32.toUInt32 31)).toInt32) &&& (1431655765 : Int32))
  let x2 := (x1 &&& (858993459 : Int32)) + (((x1.toUInt32 >>> ((2 : Int32).toUInt32 &&& Int32.toUInt32 31)).toInt32) &&& (858993459 : Int32))
  let x3 := (x2 + ((x2.toUInt32 >>> ((4 : Int32).toUInt32 &&& Int32.toUInt32 31)).toInt32)) &&& (252645135 : Int32)
  let x4 := x3 + ((x3.toUInt32 >>> ((8 : Int32).toUInt32 &&& Int32.toUInt32 31)).toInt32)
  let x5 := x4 + ((x4.toUInt32 >>> ((16 : Int32).toUInt32 &&& Int32.toUInt32 31)).toInt32)
  x5 &&& 63
theorem bitC {a : Int32} {s : St} : f_J6_bitCount_0f7a4 a s = some (bcV a, s) := rfl
theorem bcV_pop : ∀ z, z < 16 → bcV (nI z) = nI (pop z) := by decide +kernel
theorem bitC16 {z : Nat} {s : St} (hz : z < 16) : f_J6_bitCount_0f7a4 (nI z) s = some (nI (pop z), s) := by rw [bitC, bcV_pop z hz]
theorem pop_le : ∀ z, z < 16 → pop z ≤ 4 := by decide +kernel
/-! sums -/
theorem smL_congr {f g : Nat → Nat} : ∀ n, (∀ j, j < n → f j = g j) → smL f n = smL g n := by
  intro n
  induction n with
  | zero => intro _; rfl
  | succ n ih =>
    intro h
    rw [smL, smL, ih (fun j hj => h j (by omega)), h n (by omega)]
theorem smL_zero {f : Nat → Nat} : ∀ n, (∀ j, j < n → f j = 0) → smL f n = 0 := by
  intro n h
  rw [smL_congr n h, smL_0]
theorem smL_add (f : Nat → Nat) (a : Nat) : ∀ b, smL f (a + b) = smL f a + smL (fun j => f (a + j)) b := by
  intro b
  induction b with
  | zero => rfl
  | succ b ih =>
    rw [show a + (b + 1) = (a + b) + 1 by omega, smL, ih, smL]
    omega
theorem smL_le {f : Nat → Nat} {c : Nat} (h : ∀ j, f j ≤ c) : ∀ n, smL f n ≤ c * n := by
  intro n
  induction n with
  | zero => exact Nat.le_refl _
  | succ n ih =>
    rw [smL, Nat.mul_succ]
    have := h n
    omega
/-- the cells in order -/
def smC (f : Nat → Nat → Nat) (W : Nat) : Nat → Nat
  | 0 => 0
  | y + 1 => smC f W y + smL (fun x => f x y) W
theorem smC_le {f : Nat → Nat → Nat} (h : ∀ x y, f x y ≤ 1) (W : Nat) : ∀ n, smC f W n ≤ W * n := by
  intro n
  induction n with
  | zero => exact Nat.le_refl _
  | succ n ih =>
    have := smL_le (f := fun x => f x n) (c := 1) (fun x => h x n) W
    rw [smC, Nat.mul_succ]
    omega
theorem sm144 {f : Nat → Nat} {g : Nat → Nat → Nat} {W H : Nat} (hW : W ≤ 12) (hin : ∀ x y, x < W → y < H → f (12 * y + x) = g x y) (hout : ∀ x y, x < 12 → (W ≤ x ∨ H ≤ y) → f (12 * y + x) = 0) : ∀ n, smL f (12 * n) = smC g W (min n H) := by
  intro n
  induction n with
  | zero => simp [smL, smC]
  | succ n ih =>
    rw [show 12 * (n + 1) = 12 * n + 12 by omega, smL_add, ih]
    by_cases h : n < H
    · rw [show min (n + 1) H = n + 1 by omega, show min n H = n by omega, smC]
      congr 1
      have e := smL_add (fun j => f (12 * n + j)) W (12 - W)
      rw [show W + (12 - W) = 12 by omega] at e
      rw [e, smL_zero (12 - W) (fun j hj => by
        have := hout (W + j) n (by omega) (Or.inl (by omega))
        simpa using this), Nat.add_zero]
      exact smL_congr W (fun j hj => hin j n hj h)
    · rw [show min (n + 1) H = min n H by omega, smL_zero 12 (fun j hj => hout j n hj (Or.inr (by omega))), Nat.add_zero]
theorem one_if {p : Prop} [Decidable p] : (if p then (1 : Nat) else 0) ≤ 1 := by split <;> omega
theorem countS {s : St} {W H C g : Nat} {m : Nat → Nat → Nat} (hz : cSize s W H C) (hc : clO g = 4) (ht : arT (rf g 1) = 3) (hn : arN (rf g 1) = 24) (h16 : ∀ x y, x < W → y < H → m x y < 16) (hm : hasWr (s.2.1 (rf g 1)) W H m) : f_X4_countSingles g s = some (nI (smC (fun x y => if pop (m x y) = 1 then 1 else 0) W H), s) := by
  obtain ⟨z1, z2, z3, z4, z5, z6, z7, z8, z9⟩ := hz
  have inner : ∀ (k x fu : Nat) (K : Int32 → Int32 → St → Option (Int32 × St)) (y v : Nat), y < H → W - x = k → x ≤ W → k < fu → f_X4_countSingles_17 g K fu (nI v) (nI y) (nI x) s = K (nI (v + smL (fun j => if pop (m (x + j) y) = 1 then 1 else 0) (W - x))) (nI y + 1) s := by
    intro k
    induction k with
    | zero =>
      intro x fu K y v hy h1 h2 h3
      obtain ⟨fu, rfl⟩ : ∃ z, fu = z + 1 := ⟨fu - 1, by omega⟩
      obtain rfl : x = W := by omega
      rw [f_X4_countSingles_17, z1, if_pos (nI_le (Nat.le_refl _) (by omega)), Nat.sub_self]
      rfl
    | succ k ih =>
      intro x fu K y v hy h1 h2 h3
      obtain ⟨fu, rfl⟩ : ∃ z, fu = z + 1 := ⟨fu - 1, by omega⟩
      rw [f_X4_countSingles_17, z1, if_neg (nI_ge (by omega) (by omega)), valuesAt4 hc ht hn (by omega) hy (by omega) (by omega) hm (h16 x y (by omega) hy), obs, bitC16 (h16 x y (by omega) hy), obs]
      have e := smL_add (fun j => if pop (m (x + j) y) = 1 then 1 else 0) 1 (W - (x + 1))
      rw [show 1 + (W - (x + 1)) = W - x by omega] at e
      rw [e]
      have e1 : smL (fun j => if pop (m (x + j) y) = 1 then 1 else 0) 1 = if pop (m x y) = 1 then 1 else 0 := by simp [smL]
      have e2 : (fun j => if pop (m (x + (1 + j)) y) = 1 then 1 else 0) = (fun j => if pop (m (x + 1 + j) y) = 1 then (1 : Nat) else 0) := by
        funext j
        rw [show x + (1 + j) = x + 1 + j by omega]
      rw [e1, e2]
      have hp := pop_le _ (h16 x y (by omega) hy)
      by_cases c : pop (m x y) = 1
      · rw [if_pos (show ((nI (pop (m x y)), s) : Int32 × St).1 = 1 by rw [c]; rfl), if_pos c, f_X4_countSingles_47, nI_1, nI_1, ih (x + 1) fu K y (v + 1) hy (by omega) (by omega) (by omega), Nat.add_assoc]
      · rw [if_neg (show ¬ ((nI (pop (m x y)), s) : Int32 × St).1 = 1 from fun q => c (nI_inj (by omega) (by omega) (q.trans n1))), if_neg c, f_X4_countSingles_47, Int32.add_zero, nI_1, ih (x + 1) fu K y v hy (by omega) (by omega) (by omega), Nat.zero_add]
  have outer : ∀ (k y fu : Nat), H - y = k → y ≤ H → k < fu → f_X4_countSingles_4 g fu (nI (smC (fun x y => if pop (m x y) = 1 then 1 else 0) W y)) (nI y) s = some (nI (smC (fun x y => if pop (m x y) = 1 then 1 else 0) W H), s) := by
    intro k
    induction k with
    | zero =>
      intro y fu h1 h2 h3
      obtain ⟨fu, rfl⟩ : ∃ z, fu = z + 1 := ⟨fu - 1, by omega⟩
      obtain rfl : y = H := by omega
      rw [f_X4_countSingles_4, z2, if_pos (nI_le (Nat.le_refl _) (by omega))]
    | succ k ih =>
      intro y fu h1 h2 h3
      obtain ⟨fu, rfl⟩ : ∃ z, fu = z + 1 := ⟨fu - 1, by omega⟩
      rw [f_X4_countSingles_4, z2, if_neg (nI_ge (by omega) (by omega)), n0, inner W 0 FU _ y _ (by omega) (by omega) (by omega) (by unfold FU; omega), nI_1]
      have := ih (y + 1) fu (by omega) (by omega) (by omega)
      rw [smC] at this
      simp only [Nat.zero_add, Nat.sub_zero]
      exact this
  unfold f_X4_countSingles
  rw [if_neg (fun q => q hc)]
  exact outer H 0 FU (by omega) (by omega) (by unfold FU; omega)
theorem runMany9 {s : St} {W H C : Nat} {cn : Nat → Nat} (hz : iSize s W H C) (hc : ∀ l, l < W + H → cn l ≤ 12 ∧ s.1 44 l = nI (cn l)) : f_X9_runMany s = some (nI (smL cn (W + H)), s) := by
  have hle := hz.2.2.2.2.2.2.le
  have loop : ∀ (k l fu : Nat), W + H - l = k → l ≤ W + H → k < fu → f_X9_runMany_4 fu (nI (smL cn l)) (nI l) s = some (nI (smL cn (W + H)), s) := by
    intro k
    induction k with
    | zero =>
      intro l fu h1 h2 h3
      obtain ⟨fu, rfl⟩ : ∃ z, fu = z + 1 := ⟨fu - 1, by omega⟩
      obtain rfl : l = W + H := by omega
      rw [f_X9_runMany_4, lines9 hz, obs, if_pos (show nI (W + H) ≤ nI (W + H) from nI_le (Nat.le_refl _) (by omega))]
    | succ k ih =>
      intro l fu h1 h2 h3
      obtain ⟨fu, rfl⟩ : ∃ z, fu = z + 1 := ⟨fu - 1, by omega⟩
      rw [f_X9_runMany_4, lines9 hz, obs, if_neg (show ¬ nI (W + H) ≤ nI l from nI_ge (by omega) (by omega)), aI_nI rfl (by show l < 24; omega) (by decide), obs, (hc l (by omega)).2, nI_add, nI_1]
      exact ih (l + 1) fu (by omega) (by omega) (by omega)
  exact loop (W + H) 0 FU (by omega) (by omega) (by unfold FU; omega)
/-- what the model's about counts at a cell -/
def indA (s : St) (W H : Nat) (g : Nat → Nat → Nat) (a : Int32) (c : Nat) : Nat :=
  if c % 12 < W ∧ c / 12 < H then
    (if a = 5 then (if s.1 47 c = -1 then 0 else 1) else if a = 6 then (if s.1 48 c = -1 then 0 else 1) else if a = 7 then (if s.1 43 10 = 0 then 0 else if pop (g (c % 12) (c / 12)) = 1 then 1 else 0) else 0)
  else 0
theorem about_step {s : St} {W H C : Nat} {g : Nat → Nat → Nat} (hz : iSize s W H C) (hg : ¬ s.1 43 10 = 0 → (∀ x y, x < W → y < H → g x y < 16) ∧ hasM s 49 0 W H g) {a : Int32} {n v c : Nat} (hc : c < 144) : f_X9_about_18 (n + 1) a (nI v) (nI c) s = f_X9_about_18 n a (nI (v + indA s W H g a c)) (nI (c + 1)) s := by
  have hle := hz.2.2.2.2.2.2.le
  have d57 : ¬ (5 : Int32) = 6 := by decide
  have d67 : ¬ (6 : Int32) = 7 := by decide
  have d577 : ¬ (5 : Int32) = 7 := by decide
  conv => lhs; rw [f_X9_about_18]
  rw [if_neg (show ¬ (144 : Int32) ≤ nI c from nI_ge (b := 144) hc (by omega)), n12, pk_rem (by omega) (by omega) (by omega), pk_div (by omega) (by omega) (by omega)]
  by_cases hin : c % 12 < W ∧ c / 12 < H
  · rw [isCell9_yes hz hin.1 hin.2, obs, if_neg nz]
    unfold indA
    rw [if_pos hin]
    by_cases h5 : a = 5
    · subst h5
      rw [if_pos rfl, if_pos rfl, aI_nI rfl (by show c < 144; exact hc) (by decide), obs]
      by_cases hv : s.1 47 c = -1
      · rw [if_pos hv, if_pos hv, f_X9_about_64, f_X9_about_66, if_neg d57, f_X9_about_90, if_neg d577, f_X9_about_124, Int32.add_zero, nI_1]; rfl
      · rw [if_neg hv, if_neg hv, f_X9_about_64, f_X9_about_66, if_neg d57, f_X9_about_90, if_neg d577, f_X9_about_124, nI_1, nI_1]
    rw [if_neg h5, if_neg h5, f_X9_about_66]
    by_cases h6 : a = 6
    · subst h6
      rw [if_pos rfl, if_pos rfl, aI_nI rfl (by show c < 144; exact hc) (by decide), obs]
      by_cases hv : s.1 48 c = -1
      · rw [if_pos hv, if_pos hv, f_X9_about_88, f_X9_about_90, if_neg d67, f_X9_about_124, Int32.add_zero, nI_1]; rfl
      · rw [if_neg hv, if_neg hv, f_X9_about_88, f_X9_about_90, if_neg d67, f_X9_about_124, nI_1, nI_1]
    rw [if_neg h6, if_neg h6, f_X9_about_90]
    by_cases h7 : a = 7
    · subst h7
      rw [if_pos rfl, if_pos rfl]
      by_cases hs : s.1 43 10 = 0
      · rw [if_pos hs, if_pos hs, f_X9_about_121, f_X9_about_122, f_X9_about_124, Int32.add_zero, nI_1]; rfl
      · rw [if_neg hs, if_neg hs]
        obtain ⟨k1, k2⟩ := hg hs
        have e := k2 (c % 12) (c / 12) hin.1 hin.2
        rw [Nat.zero_add, show 12 * (c / 12) + c % 12 = c by omega] at e
        have k16 := k1 (c % 12) (c / 12) hin.1 hin.2
        have hp := pop_le _ k16
        rw [aI_nI rfl (by show c < 144; exact hc) (by decide), obs, e, many9 k16, obs]
        by_cases c1 : pop (g (c % 12) (c / 12)) = 1
        · rw [if_pos (show ((nI (pop (g (c % 12) (c / 12))), s) : Int32 × St).1 = 1 by rw [c1]; rfl), if_pos c1, f_X9_about_122, f_X9_about_124, nI_1, nI_1]
        · rw [if_neg (show ¬ ((nI (pop (g (c % 12) (c / 12))), s) : Int32 × St).1 = 1 from fun q => c1 (nI_inj (by omega) (by omega) (q.trans n1))), if_neg c1, f_X9_about_121, f_X9_about_122, f_X9_about_124, Int32.add_zero, nI_1]; rfl
    · rw [if_neg h7, if_neg h7, f_X9_about_124, nI_1]; rfl
  · rw [isCell9_no hz (by rw [noCell, nI_toInt (by omega), nI_toInt (by omega)]; omega), obs, if_pos rfl, f_X9_about_124, nI_1]
    unfold indA
    rw [if_neg hin]
    rfl
theorem about_loop {s : St} {W H C : Nat} {g : Nat → Nat → Nat} (hz : iSize s W H C) (hg : ¬ s.1 43 10 = 0 → (∀ x y, x < W → y < H → g x y < 16) ∧ hasM s 49 0 W H g) {a : Int32} : ∀ (k c n : Nat), 144 - c = k → c ≤ 144 → f_X9_about_18 (n + k) a (nI (smL (indA s W H g a) c)) (nI c) s = f_X9_about_18 n a (nI (smL (indA s W H g a) 144)) (nI 144) s := by
  intro k
  induction k with
  | zero =>
    intro c n h1 h2
    obtain rfl : c = 144 := by omega
    rfl
  | succ k ih =>
    intro c n h1 h2
    rw [show n + (k + 1) = (n + k) + 1 by omega, about_step hz hg (by omega)]
    exact ih (c + 1) n (by omega) (by omega)
theorem cntG_sm {f : Nat → Int32} : ∀ n, cntG f n = smL (fun c => if f c = -1 then 0 else 1) n := by
  intro n
  induction n with
  | zero => rfl
  | succ n ih => rw [cntG, smL, ih]
theorem grid_cnt {s : St} {W H C o k m : Nat} (h : iGrid s W H C o k m) {f : Nat → Nat} (hf : ∀ c, c < 144 → f c = if c % 12 < W ∧ c / 12 < H then (if s.1 m c = -1 then 0 else 1) else 0) : smL f 144 = cntG (s.1 k) 144 := by
  rw [cntG_sm]
  refine smL_congr 144 (fun c hc => ?_)
  rw [hf c hc, (h.1 c hc).1]
  by_cases q : c % 12 < W ∧ c / 12 < H
  · rw [if_pos q]
  · rw [if_neg q]
    have e := h.2.1 (c % 12) (c / 12) (by omega) (by omega) (by omega)
    rw [show 12 * (c / 12) + c % 12 = c by omega, (h.1 c hc).1] at e
    rw [if_pos e]
theorem nI_lit {a : Int32} {n : Nat} (h : a = nI n) : a = nI n := h
theorem st_about {s : St} (hI : Inv s) (a : Int32) : Step (f_X8_about a) (f_X9_about a) s := by
  obtain ⟨h1, h2, W, H, C, hz, hs, hf, hr⟩ := id hI
  have hle := hz.2.2.2.2.2.2.le
  by_cases hW : W = 0
  · refine ⟨-1, s, sF s 43 0 0, ?_, ?_, hI.thrown⟩
    · unfold f_X8_about; rw [hasP8 hz, if_pos hW, obs, if_pos rfl]
    · unfold f_X9_about; rw [obs, is9 hz.thrown, if_pos hW, obs, if_pos rfl]
  obtain ⟨⟨cn, len, col, hrn, htot⟩, hg, hm⟩ := hr (by omega)
  -- the sets, if there are some
  obtain ⟨g, hgs⟩ : ∃ g : Nat → Nat → Nat, ¬ s.1 43 10 = 0 → (∀ x y, x < W → y < H → g x y < 16) ∧ hasM s 49 0 W H g ∧ hasWr (s.2.1 30) W H g := by
    obtain ⟨q1, q2⟩ := hs
    rcases q2 with q2 | ⟨q2, hW, g, k1, k2, k3⟩
    · exact ⟨fun _ _ => 0, fun q => absurd (q1.symm.trans q2) q⟩
    · exact ⟨g, fun _ => ⟨fun x y hx hy => lt16 hle.2.2 (k1 x y hx hy).2, k3, k2⟩⟩
  have hgs' : ¬ (sF s 43 0 0).1 43 10 = 0 → (∀ x y, x < W → y < H → g x y < 16) ∧ hasM (sF s 43 0 0) 49 0 W H g := fun q => ⟨(hgs q).1, (hgs q).2.1⟩
  have e8 : f_X8_about a s = if a = 0 then some (nI W, s) else if a = 1 then some (nI H, s) else if a = 2 then some (nI C, s) else if a = 3 then some (nI (W + H), s) else if a = 4 then some (nI (smL cn (W + H)), s) else if a = 5 then some (s.1 12 1, s) else if a = 6 then some (s.1 14 1, s) else if a = 7 then (if s.1 0 12 = 0 then some (0, s) else Option.bind (f_X4_countSingles 29 s) fun r13 => some (r13.1, r13.2)) else some (-1, s) := by
    unfold f_X8_about
    rw [hasP8 hz, if_neg hW, obs, if_neg nz, lines8 hz, obs]
    simp only [hz.1, hz.2.1, hz.2.2.1, htot]
  have e9 : f_X9_about a s = f_X9_about_18 (3952) a (nI (smL (indA (sF s 43 0 0) W H g a) 144)) (nI 144) (sF s 43 0 0) := by
    unfold f_X9_about
    rw [obs, is9 hz.thrown, if_neg hW, obs, if_neg nz]
    exact about_loop hz.thrown hgs' 144 0 3952 (by omega) (by omega)
  rw [f_X9_about_18, if_pos (show (144 : Int32) ≤ nI 144 by decide), lines9 hz.thrown, obs, runMany9 (cn := cn) hz.thrown (fun l hl => ⟨(hrn l hl).1, (hrn l hl).2.2.1⟩), obs] at e9
  simp only [hz.thrown.2.2.2.1, hz.thrown.2.2.2.2.1, hz.thrown.2.2.2.2.2.1] at e9
  have fin : ∀ r, f_X8_about a s = some (r, s) → f_X9_about a s = some (r, sF s 43 0 0) → Step (f_X8_about a) (f_X9_about a) s := fun r q1 q2 => ⟨r, s, sF s 43 0 0, q1, q2, hI.thrown⟩
  by_cases c0 : a = 0
  · exact fin (nI W) (by rw [e8, if_pos c0]) (by rw [e9, if_pos c0])
  rw [if_neg c0] at e8 e9
  by_cases c1 : a = 1
  · exact fin (nI H) (by rw [e8, if_pos c1]) (by rw [e9, if_pos c1])
  rw [if_neg c1] at e8 e9
  by_cases c2 : a = 2
  · exact fin (nI C) (by rw [e8, if_pos c2]) (by rw [e9, if_pos c2])
  rw [if_neg c2] at e8 e9
  by_cases c3 : a = 3
  · exact fin (nI (W + H)) (by rw [e8, if_pos c3]) (by rw [e9, if_pos c3])
  rw [if_neg c3] at e8 e9
  by_cases c4 : a = 4
  · exact fin (nI (smL cn (W + H))) (by rw [e8, if_pos c4]) (by rw [e9, if_pos c4])
  rw [if_neg c4] at e8 e9
  by_cases c5 : a = 5
  · rw [if_pos c5] at e8 e9
    refine fin (s.1 12 1) e8 ?_
    rw [e9, hg.2.2, grid_cnt hg (fun c hc => by unfold indA; rw [if_pos c5]; rfl)]
  rw [if_neg c5] at e8 e9
  by_cases c6 : a = 6
  · rw [if_pos c6] at e8 e9
    refine fin (s.1 14 1) e8 ?_
    rw [e9, hm.2.2, grid_cnt hm (fun c hc => by unfold indA; rw [if_neg c5, if_pos c6]; rfl)]
  rw [if_neg c6] at e8 e9
  by_cases c7 : a = 7
  · rw [if_pos c7] at e8 e9
    by_cases hh : s.1 0 12 = 0
    · rw [if_pos hh] at e8
      refine fin 0 e8 ?_
      rw [e9, smL_zero 144 (fun c hc => ?_)]
      · rfl
      · unfold indA
        rw [if_neg c5, if_neg c6, if_pos c7, if_pos (show (sF s 43 0 0).1 43 10 = 0 from hs.1.symm.trans hh)]
        split <;> rfl
    · have hh' : ¬ s.1 43 10 = 0 := fun q => hh (hs.1.trans q)
      obtain ⟨k1, k2, k3⟩ := hgs hh'
      rw [if_neg hh, countS (g := 29) (hz.c (by omega)) rfl rfl rfl k1 k3, obs] at e8
      refine fin _ e8 ?_
      have := sm144 (f := indA (sF s 43 0 0) W H g a) (g := fun x y => if pop (g x y) = 1 then 1 else 0) (W := W) (H := H) hle.1 (fun x y hx hy => ?_) (fun x y hx hxy => ?_) 12
      · rw [e9]
        rw [show min 12 H = H by omega] at this
        exact congrArg (fun z => some (nI z, sF s 43 0 0)) this
      · unfold indA
        rw [show (12 * y + x) % 12 = x by omega, show (12 * y + x) / 12 = y by omega, if_pos ⟨hx, hy⟩, if_neg c5, if_neg c6, if_pos c7, if_neg (show ¬ (sF s 43 0 0).1 43 10 = 0 from hh')]
      · unfold indA
        rw [if_neg (by omega)]
  rw [if_neg c7] at e8 e9
  exact fin (-1) e8 e9
