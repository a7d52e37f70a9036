/-! the model's search -/
def JFr (d : Nat) (s s' : St) : Prop := (∀ a, a ≠ 58 → a ≠ 59 → a ≠ 61 → a ≠ 62 → a ≠ 43 → s'.1 a = s.1 a) ∧ (∀ b, b ≠ 32 → b ≠ 33 → b ≠ 37 → b ≠ 41 → b ≠ 44 → b ≠ 45 → s'.1 43 b = s.1 43 b) ∧ (∀ a b, ¬ (a = 43 ∧ b = 36) → s'.2.1 a b = s.2.1 a b) ∧ ∀ j, j < 144 * d → s'.1 61 j = s.1 61 j
theorem JFr.rfl' {d : Nat} {s : St} : JFr d s s := ⟨fun _ _ _ _ _ _ => rfl, fun _ _ _ _ _ _ _ => rfl, fun _ _ _ => rfl, fun _ _ => rfl⟩
theorem JFr.trans {d : Nat} {s t u : St} (h : JFr d s t) (g : JFr d t u) : JFr d s u := ⟨fun a a1 a2 a3 a4 a5 => (g.1 a a1 a2 a3 a4 a5).trans (h.1 a a1 a2 a3 a4 a5), fun b b1 b2 b3 b4 b5 b6 => (g.2.1 b b1 b2 b3 b4 b5 b6).trans (h.2.1 b b1 b2 b3 b4 b5 b6), fun a b c => (g.2.2.1 a b c).trans (h.2.2.1 a b c), fun j hj => (g.2.2.2 j hj).trans (h.2.2.2 j hj)⟩
theorem JFr.up {d e : Nat} {s t : St} (h : JFr e s t) (hd : d ≤ e) : JFr d s t := ⟨h.1, h.2.1, h.2.2.1, fun j hj => h.2.2.2 j (by omega)⟩
theorem TFr.l {d : Nat} {s s' : St} (h : TFr 61 (144 * d) s s') : JFr d s s' := ⟨fun a a1 a2 a3 _ a5 => h.1 a a1 a2 a3 a5, fun b b1 b2 b3 _ _ _ => h.2.1 b b1 b2 b3, h.2.2.1, fun j hj => h.2.2.2 j (Or.inl hj)⟩
theorem JFr.s62 {d j : Nat} {s : St} {v : Int32} : JFr d s (sF s 62 j v) := ⟨fun a _ _ _ h _ => sF_ne h, fun _ _ _ _ _ _ _ => by rw [sF_ne (by decide)], fun _ _ _ => rfl, fun _ _ => by rw [sF_ne (by decide)]⟩
theorem JFr.s61 {d j : Nat} {s : St} {v : Int32} (hj : 144 * d ≤ j) : JFr d s (sF s 61 j v) := ⟨fun a _ _ h _ _ => sF_ne h, fun _ _ _ _ _ _ _ => by rw [sF_ne (by decide)], fun _ _ _ => rfl, fun i hi => sF_nj (by omega)⟩
theorem JFr.s43 {d j : Nat} {s : St} {v : Int32} (h : j = 41 ∨ j = 44 ∨ j = 45) : JFr d s (sF s 43 j v) := ⟨fun a _ _ _ _ e => sF_ne e, fun b _ _ _ b1 b2 b3 => sF_nj (by omega), fun _ _ _ => rfl, fun i hi => by rw [sF_ne (by decide)]⟩
def mfd (P : Pz) (cap bud : Nat) (s : St) (a : Sa) : Prop := s.1 43 41 = nI a.1 ∧ s.1 43 42 = nI bud ∧ s.1 43 43 = nI cap ∧ s.1 43 44 = nI a.2.1 ∧ s.1 43 45 = (if a.2.2.1 = true then 1 else 0) ∧ a.2.1 ≤ cap ∧ ∀ k, k < 2 → k < a.2.1 → ∀ x y, x < P.W → y < P.H → s.1 62 (144 * k + (12 * y + x)) = nI (a.2.2.2 k x y)
section Look9
variable {P : Pz} {cap bud : Nat}
theorem mfd.fr {s s' : St} {a : Sa} (h : mfd P cap bud s a) (e : ∀ b, 41 ≤ b → b ≤ 45 → s'.1 43 b = s.1 43 b) (e2 : s'.1 62 = s.1 62) : mfd P cap bud s' a := by
  unfold mfd
  rw [e 41 (by omega) (by omega), e 42 (by omega) (by omega), e 43 (by omega) (by omega), e 44 (by omega) (by omega), e 45 (by omega) (by omega), e2]
  exact h
theorem Mz.l {d : Nat} {s s' : St} (h : Mz s P) (f : JFr d s s') : Mz s' P := by
  unfold Mz
  rw [f.1 44 (by decide) (by decide) (by decide) (by decide) (by decide), f.1 45 (by decide) (by decide) (by decide) (by decide) (by decide), f.1 46 (by decide) (by decide) (by decide) (by decide) (by decide), f.2.1 1 (by decide) (by decide) (by decide) (by decide) (by decide) (by decide), f.2.1 2 (by decide) (by decide) (by decide) (by decide) (by decide) (by decide), f.2.1 3 (by decide) (by decide) (by decide) (by decide) (by decide) (by decide)]
  exact h
theorem Mz.is {s : St} (h : Mz s P) : f_X9_is s = some (1, s) := by
  obtain ⟨⟨W1, W2⟩, ⟨H1, H2⟩, -⟩ := id h.1
  unfold f_X9_is
  rw [h.2.1, if_neg (nI_nle (by omega) (by omega))]
theorem Mz.cell {s : St} (h : Mz s P) {x y : Nat} (hx : x < 12) (hy : y < 12) : f_X9_isCell (nI x) (nI y) s = some (if x < P.W ∧ y < P.H then 1 else 0, s) := by
  obtain ⟨⟨W1, W2⟩, ⟨H1, H2⟩, -⟩ := id h.1
  unfold f_X9_isCell
  rw [h.is, obs, if_neg nz, h.2.1, nI_sub1 W1]
  by_cases c1 : x < P.W
  · rw [in9y (by rw [t0, nI_toInt (by omega)]; omega) (by rw [nI_toInt (by omega), nI_toInt (by omega)]; omega), obs, if_neg nz, h.2.2.1, nI_sub1 H1]
    by_cases c2 : y < P.H
    · rw [in9y (by rw [t0, nI_toInt (by omega)]; omega) (by rw [nI_toInt (by omega), nI_toInt (by omega)]; omega), obs, if_neg nz, if_pos ⟨c1, c2⟩]
    · rw [in9n (by rw [nI_toInt (show P.H - 1 < 2 ^ 31 by omega), nI_toInt (show y < 2 ^ 31 by omega)]; omega), obs, if_pos rfl, if_neg (fun z => c2 z.2)]
  · rw [in9n (by rw [nI_toInt (show P.W - 1 < 2 ^ 31 by omega), nI_toInt (show x < 2 ^ 31 by omega)]; omega), obs, if_pos rfl, if_neg (fun z => c1 z.1)]
theorem allOne9 {q base : Nat} {g : Gs} {s : St} (hq : qOK q base) (hm : Mz s P) (hg : setsOK P.W P.H P.C g) (hh : hasM s q base P.W P.H g) : ∀ (k i fu : Nat), i + k = P.W * P.H → k < fu → ((∀ j, i ≤ j → j < P.W * P.H → pop (g (j % P.W) (j / P.W)) = 1) → f_X9_allOne_2 q fu (nI base) (nI i) s = some (1, s)) ∧ ((∃ j, i ≤ j ∧ j < P.W * P.H ∧ pop (g (j % P.W) (j / P.W)) ≠ 1) → f_X9_allOne_2 q fu (nI base) (nI i) s = some (0, s)) := by
  obtain ⟨⟨W1, W2⟩, ⟨H1, H2⟩, -⟩ := id hm.1
  have hWH : P.W * P.H ≤ 12 * 12 := Nat.mul_le_mul W2 H2
  intro k
  induction k with
  | zero =>
    intro i fu h1 h2
    obtain ⟨fu, rfl⟩ : ∃ z, fu = z + 1 := ⟨fu - 1, by omega⟩
    refine ⟨fun _ => ?_, fun ⟨j, j1, j2, _⟩ => absurd j1 (by omega)⟩
    rw [f_X9_allOne_2, hm.2.1, hm.2.2.1, pk_mul, if_pos (nI_le (by omega) (by omega))]
  | succ k ih =>
    intro i fu h1 h2
    obtain ⟨fu, rfl⟩ : ∃ z, fu = z + 1 := ⟨fu - 1, by omega⟩
    have hi : i < P.W * P.H := by omega
    obtain ⟨w1, w2⟩ := kWH (H := P.H) (k := i) W1 hi
    have hz := ok16 hm.1 hg _ _ w1 w2
    have hpl := pop_le _ hz
    obtain ⟨q1, q2, q3, q4⟩ := hq
    have hexp : f_X9_allOne_2 q (fu + 1) (nI base) (nI i) s = if nI (pop (g (i % P.W) (i / P.W))) = (1 : Int32) then f_X9_allOne_2 q fu (nI base) (nI (i + 1)) s else some (0, s) := by
      rw [f_X9_allOne_2, hm.2.1, hm.2.2.1, pk_mul, if_neg (nI_ge hi (by omega)), hm.inOrd hi, obs]
      show Option.bind (aI s q (nI base + nI (12 * (i / P.W) + i % P.W))) _ = _
      rw [nI_add, aI_nI q1 (by omega) q4, obs, hh _ _ w1 w2, many9 hz, obs, nI_1]
    obtain ⟨i1, i2⟩ := ih (i + 1) fu (by omega) (by omega)
    by_cases c : pop (g (i % P.W) (i / P.W)) = 1
    · rw [if_pos (by rw [c]; rfl)] at hexp
      rw [hexp]
      refine ⟨fun h => i1 (fun j j1 j2 => h j (by omega) j2), fun ⟨j, j1, j2, j3⟩ => i2 ⟨j, ?_, j2, j3⟩⟩
      rcases Nat.lt_or_ge i j with h | h
      · exact h
      · exact absurd (by rw [show j = i by omega]; exact c) j3
    · rw [if_neg (fun e => c (nI_inj (by omega) (by omega) (e.trans n1)))] at hexp
      exact ⟨fun h => absurd (h i (Nat.le_refl _) hi) c, fun _ => hexp⟩
theorem allOne9' {q base : Nat} {g : Gs} {s : St} (hq : qOK q base) (hm : Mz s P) (hg : setsOK P.W P.H P.C g) (hh : hasM s q base P.W P.H g) : f_X9_allOne q (nI base) s = some (if bsC P g = 0 then 1 else 0, s) := by
  obtain ⟨⟨W1, W2⟩, ⟨H1, H2⟩, -⟩ := id hm.1
  have hWH : P.W * P.H ≤ 12 * 12 := Nat.mul_le_mul W2 H2
  have h16 := ok16 hm.1 hg
  obtain ⟨e1, e2⟩ := allOne9 hq hm hg hh (P.W * P.H) 0 FU (by omega) (by unfold FU; omega)
  unfold f_X9_allOne
  rw [show (0 : Int32) = nI 0 from rfl]
  by_cases c : bsC P g = 0
  · rw [if_pos c]
    refine e1 (fun j _ j2 => ?_)
    obtain ⟨w1, w2⟩ := kWH (H := P.H) (k := j) W1 j2
    have := (bst_0 h16 W1 (P.W * P.H) (Nat.le_refl _) c).2 j j2
    have := pop_1 _ (h16 _ _ w1 w2) (hg _ _ w1 w2).1
    omega
  · rw [if_neg c]
    have h1 : bsC P g ≤ P.W * P.H := bst_le (P := P) (g := g) (P.W * P.H)
    have h2 := bst_2 (P := P) (g := g) (P.W * P.H) c
    refine e2 ⟨bsC P g - 1, Nat.zero_le _, by omega, ?_⟩
    unfold bsC
    omega
theorem bst_snd {g : Gs} : ∀ k, ((bst P g k).1 = 0 → (bst P g k).2 = 5) ∧ ((bst P g k).1 ≠ 0 → (bst P g k).2 = pop (g (((bst P g k).1 - 1) % P.W) (((bst P g k).1 - 1) / P.W))) := by
  intro k
  induction k with
  | zero => exact ⟨fun _ => rfl, fun h => absurd rfl h⟩
  | succ i ih =>
    rw [bst]
    split
    · exact ⟨fun h => absurd h (by show ¬ i + 1 = 0; omega), fun _ => rfl⟩
    · exact ih
theorem branch9 {base : Nat} {g : Gs} {s : St} (hq : qOK 61 base) (hm : Mz s P) (hg : setsOK P.W P.H P.C g) (hh : hasM s 61 base P.W P.H g) : ∀ (k i fu : Nat), i + k = P.W * P.H → k < fu → f_X9_branch_4 fu (nI base) (codeB P (bst P g i).1) (nI i) s = some (codeB P (bsC P g), s) := by
  obtain ⟨⟨W1, W2⟩, ⟨H1, H2⟩, -⟩ := id hm.1
  have hWH : P.W * P.H ≤ 12 * 12 := Nat.mul_le_mul W2 H2
  intro k
  induction k with
  | zero =>
    intro i fu h1 h2
    obtain ⟨fu, rfl⟩ : ∃ z, fu = z + 1 := ⟨fu - 1, by omega⟩
    obtain rfl : i = P.W * P.H := by omega
    rw [f_X9_branch_4, hm.2.1, hm.2.2.1, pk_mul, if_pos (nI_le (Nat.le_refl _) (by omega))]
    rfl
  | succ k ih =>
    intro i fu h1 h2
    obtain ⟨fu, rfl⟩ : ∃ z, fu = z + 1 := ⟨fu - 1, by omega⟩
    have hi : i < P.W * P.H := by omega
    obtain ⟨w1, w2⟩ := kWH (H := P.H) (k := i) W1 hi
    have hz := ok16 hm.1 hg _ _ w1 w2
    have hpl := pop_le _ hz
    obtain ⟨q1, q2, q3, q4⟩ := id hq
    have ihn := ih (i + 1) fu (by omega) (by omega)
    rw [bst] at ihn
    have hble : (bst P g i).1 ≤ i := bst_le i
    obtain ⟨s1, s2⟩ := bst_snd (P := P) (g := g) i
    have hcn := codeB_n (P := P) (b := (bst P g i).1) hm.1 (by omega)
    have hexp : f_X9_branch_4 (fu + 1) (nI base) (codeB P (bst P g i).1) (nI i) s = if nI (pop (g (i % P.W) (i / P.W))) ≤ (1 : Int32) then f_X9_branch_4 fu (nI base) (codeB P (bst P g i).1) (nI (i + 1)) s else if codeB P (bst P g i).1 = (-1 : Int32) then f_X9_branch_4 fu (nI base) (nI (12 * (i / P.W) + i % P.W)) (nI (i + 1)) s else Option.bind (aI s 61 (nI base + codeB P (bst P g i).1)) fun x7 => Option.bind (f_X9_many x7 s) fun r8 => if r8.1 ≤ nI (pop (g (i % P.W) (i / P.W))) then f_X9_branch_68 (f_X9_branch_4 fu) (nI base) (codeB P (bst P g i).1) (nI i) r8.2 else f_X9_branch_65 (f_X9_branch_4 fu) (nI base) (nI i) (nI (12 * (i / P.W) + i % P.W)) r8.2 := by
      rw [f_X9_branch_4, hm.2.1, hm.2.2.1, pk_mul, if_neg (nI_ge hi (by omega)), hm.inOrd hi, obs]
      show Option.bind (aI s 61 (nI base + nI (12 * (i / P.W) + i % P.W))) _ = _
      rw [nI_add, aI_nI q1 (by omega) q4, obs, hh _ _ w1 w2, many9 hz, obs, f_X9_branch_65, f_X9_branch_68, f_X9_branch_68, nI_1]
    rw [hexp]
    have hcode : codeB P (i + 1) = nI (12 * (i / P.W) + i % P.W) := by
      unfold codeB
      rw [if_neg (by omega), show i + 1 - 1 = i from rfl]
    by_cases c1 : 2 ≤ pop (g (i % P.W) (i / P.W))
    · rw [if_neg (show ¬ nI (pop (g (i % P.W) (i / P.W))) ≤ (1 : Int32) from nI_ge (b := pop (g (i % P.W) (i / P.W))) (a := 1) (by omega) (by omega))]
      by_cases c2 : (bst P g i).1 = 0
      · rw [if_pos (hcn.mpr c2)]
        rw [if_pos ⟨c1, by rw [s1 c2]; omega⟩] at ihn
        rw [← hcode]
        exact ihn
      · rw [if_neg (fun e => c2 (hcn.mp e))]
        obtain ⟨x1, x2⟩ := kWH (H := P.H) (k := (bst P g i).1 - 1) W1 (by omega)
        have hz2 := ok16 hm.1 hg _ _ x1 x2
        have hpl2 := pop_le _ hz2
        have hcb : codeB P (bst P g i).1 = nI (12 * (((bst P g i).1 - 1) / P.W) + ((bst P g i).1 - 1) % P.W) := by
          unfold codeB
          rw [if_neg c2]
        have e7 : aI s 61 (nI base + codeB P (bst P g i).1) = some (nI (g (((bst P g i).1 - 1) % P.W) (((bst P g i).1 - 1) / P.W))) := by
          rw [hcb, nI_add, aI_nI q1 (by omega) q4, hh _ _ x1 x2]
        rw [e7, obs, many9 hz2, obs, ← s2 c2]
        rw [← s2 c2] at hpl2
        by_cases c3 : pop (g (i % P.W) (i / P.W)) < (bst P g i).2
        · rw [if_neg (nI_ge c3 (by omega)), f_X9_branch_65, f_X9_branch_68, nI_1, ← hcode]
          rw [if_pos ⟨c1, c3⟩] at ihn
          exact ihn
        · rw [if_pos (nI_le (by omega) (by omega)), f_X9_branch_68, nI_1]
          rw [if_neg (fun z => c3 z.2)] at ihn
          exact ihn
    · rw [if_pos (show nI (pop (g (i % P.W) (i / P.W))) ≤ (1 : Int32) from nI_le (b := 1) (by omega) (by omega))]
      rw [if_neg (fun z => c1 z.1)] at ihn
      exact ihn
theorem least9 {z : Nat} {s : St} (h1 : 1 ≤ z) (hz : z < 16) : f_X9_least (nI z) s = some (nI (lst z), s) := by
  have one : ∀ n v, v < 4 → f_X9_least_2 (n + 1) (nI z) (nI v) s = if z.testBit v = true then some (nI v, s) else f_X9_least_2 n (nI z) (nI (v + 1)) s := by
    intro n v hv
    rw [f_X9_least_2, bit_and z hz v hv, nI_1]
    by_cases c : z.testBit v = true
    · rw [if_pos c, if_neg (by decide), if_pos c]
    · rw [if_neg c, if_pos rfl, if_neg c]
  have h3 : ∀ z, z < 16 → 1 ≤ z → z.testBit 0 ≠ true → z.testBit 1 ≠ true → z.testBit 2 ≠ true → z.testBit 3 = true := by decide +kernel
  unfold f_X9_least lst
  rw [show FU = 4092 + 1 + 1 + 1 + 1 from rfl]
  show f_X9_least_2 (4092 + 1 + 1 + 1 + 1) (nI z) (nI 0) s = _
  rw [one _ 0 (by omega), one _ 1 (by omega), one _ 2 (by omega), one _ 3 (by omega)]
  by_cases c0 : z.testBit 0 = true
  · rw [if_pos c0, if_pos c0]
  · rw [if_neg c0, if_neg c0]
    by_cases c1 : z.testBit 1 = true
    · rw [if_pos c1, if_pos c1]
    · rw [if_neg c1, if_neg c1]
      by_cases c2 : z.testBit 2 = true
      · rw [if_pos c2, if_pos c2]
      · rw [if_neg c2, if_neg c2, if_pos (h3 z hz h1 c0 c1 c2)]
/-- a solution is written down -/
theorem look33 {L : Int32 → St → Option St} {d : Nat} {g : Gs} (hd : d ≤ 145) (hg : setsOK P.W P.H P.C g) {f : Nat} (hf2 : f < 2) : ∀ (k i fu : Nat) (s : St), i + k = 144 → k < fu → Mz s P → hasM s 61 (144 * d) P.W P.H g → s.1 43 44 = nI f → ∃ s', f_X9_look_33 L fu (nI (144 * d)) (nI i) s = f_X9_look_99 L s' ∧ JFr d s s' ∧ s'.1 43 = s.1 43 ∧ (∀ j, ¬ (144 * f + i ≤ j ∧ j < 144 * f + 144) → s'.1 62 j = s.1 62 j) ∧ ∀ x y, x < P.W → y < P.H → i ≤ 12 * y + x → s'.1 62 (144 * f + (12 * y + x)) = nI (lst (g x y)) := by
  intro k
  induction k with
  | zero =>
    intro i fu s h1 h2 hm hh h44
    obtain ⟨fu, rfl⟩ : ∃ z, fu = z + 1 := ⟨fu - 1, by omega⟩
    obtain ⟨⟨W1, W2⟩, ⟨H1, H2⟩, -⟩ := id hm.1
    refine ⟨s, ?_, JFr.rfl', rfl, fun _ _ => rfl, fun x y hx hy h => absurd h (by omega)⟩
    rw [f_X9_look_33, if_pos (show (144 : Int32) ≤ nI i from nI_le (a := 144) (by omega) (by omega))]
  | succ k ih =>
    intro i fu s h1 h2 hm hh h44
    obtain ⟨fu, rfl⟩ : ∃ z, fu = z + 1 := ⟨fu - 1, by omega⟩
    obtain ⟨⟨W1, W2⟩, ⟨H1, H2⟩, -⟩ := id hm.1
    have hcell := hm.cell (x := i % 12) (y := i / 12) (by omega) (by omega)
    have hdm : 12 * (i / 12) + i % 12 = i := by omega
    have key : ∃ v, f_X9_look_33 L (fu + 1) (nI (144 * d)) (nI i) s = f_X9_look_33 L fu (nI (144 * d)) (nI (i + 1)) (sF s 62 (144 * f + i) v) ∧ (i % 12 < P.W → i / 12 < P.H → v = nI (lst (g (i % 12) (i / 12)))) := by
      rw [f_X9_look_33, if_neg (show ¬ (144 : Int32) ≤ nI i from nI_ge (b := 144) (by omega) (by omega)), h44, if_neg (show ¬ (2 : Int32) ≤ nI f from nI_ge (b := 2) hf2 (by omega)), n12, pk_rem (by omega) (by omega) (by omega), pk_div (by omega) (by omega) (by omega), hcell, obs]
      by_cases c : i % 12 < P.W ∧ i / 12 < P.H
      · have hz := ok16 hm.1 hg _ _ c.1 c.2
        rw [if_pos c, if_neg nz]
        refine ⟨nI (lst (g (i % 12) (i / 12))), ?_, fun _ _ => rfl⟩
        show Option.bind (aI s 61 (nI (144 * d) + nI i)) _ = _
        have hv : s.1 61 (144 * d + i) = nI (g (i % 12) (i / 12)) := by
          have := hh _ _ c.1 c.2
          rw [hdm] at this
          exact this
        rw [nI_add, aI_nI rfl (by show 144 * d + i < 21024; omega) (by decide), obs, hv]
        show Option.bind (f_X9_least (nI (g (i % 12) (i / 12))) s) _ = _
        rw [least9 (hg _ _ c.1 c.2).1 hz, obs, f_X9_look_92, n144, pk_mul, nI_add, pI_nI rfl (by show 144 * f + i < 288; omega) (by decide), obs, nI_1]
      · rw [if_neg c, if_pos rfl]
        refine ⟨0, ?_, fun z1 z2 => absurd ⟨z1, z2⟩ c⟩
        rw [f_X9_look_92, n144, pk_mul, nI_add, pI_nI rfl (by show 144 * f + i < 288; omega) (by decide), obs, nI_1]
    obtain ⟨v, k1, k2⟩ := key
    obtain ⟨s', e1, e2, e3, e4, e5⟩ := ih (i + 1) fu (sF s 62 (144 * f + i) v) (by omega) (by omega) (hm.l (d := d) JFr.s62) (by unfold hasM; rw [sF_ne (by decide)]; exact hh) (by rw [sF_ne (by decide)]; exact h44)
    refine ⟨s', k1.trans e1, JFr.s62.trans e2, by rw [e3, sF_ne (by decide)], fun j hj => ?_, fun x y hx hy h => ?_⟩
    · rw [e4 j (by omega), sF_nj (by omega)]
    · by_cases c : i = 12 * y + x
      · have a1 : i % 12 = x := by omega
        have a2 : i / 12 = y := by omega
        rw [a1, a2] at k2
        rw [e4 _ (by omega), ← c, sF_at, k2 hx hy]
      · exact e5 x y hx hy (by omega)
theorem look33' {L : Int32 → St → Option St} {d : Nat} {g : Gs} {s : St} {a : Sa} (hd : d ≤ 145) (hg : setsOK P.W P.H P.C g) (hm : Mz s P) (hh : hasM s 61 (144 * d) P.W P.H g) (hf : mfd P cap bud s a) (hfc : a.2.1 < cap) (hcap : cap ≤ 50) : ∃ s', f_X9_look_33 L FU (nI (144 * d)) 0 s = some s' ∧ JFr d s s' ∧ mfd P cap bud s' (addS g a) := by
  obtain ⟨f1, f2, f3, f4, f5, f6, f7⟩ := hf
  by_cases c : a.2.1 < 2
  · obtain ⟨t, e1, e2, e3, e4, e5⟩ := look33 (L := L) hd hg c 144 0 FU s (by omega) (by unfold FU; omega) hm hh f4
    refine ⟨sF t 43 44 (nI (a.2.1 + 1)), ?_, e2.trans (JFr.s43 (Or.inr (Or.inl rfl))), ?_⟩
    · show f_X9_look_33 L FU (nI (144 * d)) (nI 0) s = _
      rw [e1, f_X9_look_99, obs, e3, f4, nI_1]
    · refine ⟨by rw [sF_nj (by decide), e3]; exact f1, by rw [sF_nj (by decide), e3]; exact f2, by rw [sF_nj (by decide), e3]; exact f3, by rw [sF_at]; rfl, by rw [sF_nj (by decide), e3]; exact f5, by show a.2.1 + 1 ≤ cap; omega, fun k k1 k2 x y hx hy => ?_⟩
      obtain ⟨⟨W1, W2⟩, ⟨H1, H2⟩, -⟩ := id hm.1
      have k2' : k < a.2.1 + 1 := k2
      rw [sF_ne (by decide)]
      unfold addS
      rw [if_pos c]
      show _ = nI ((if k = a.2.1 then (fun x y => lst (g x y)) else a.2.2.2 k) x y)
      by_cases ek : k = a.2.1
      · rw [if_pos ek, ek]
        exact e5 x y hx hy (Nat.zero_le _)
      · rw [if_neg ek, e4 _ (by omega)]
        exact f7 k k1 (by omega) x y hx hy
  · refine ⟨sF s 43 44 (nI (a.2.1 + 1)), ?_, JFr.s43 (Or.inr (Or.inl rfl)), ?_⟩
    · rw [show FU = 4095 + 1 from rfl, f_X9_look_33, if_neg (by decide), f4, if_pos (show (2 : Int32) ≤ nI a.2.1 from nI_le (a := 2) (by omega) (by omega)), f_X9_look_99, obs, f4, nI_1]
    · refine ⟨by rw [sF_nj (by decide)]; exact f1, by rw [sF_nj (by decide)]; exact f2, by rw [sF_nj (by decide)]; exact f3, by rw [sF_at]; rfl, by rw [sF_nj (by decide)]; exact f5, by show a.2.1 + 1 ≤ cap; omega, fun k k1 k2 x y hx hy => ?_⟩
      rw [sF_ne (by decide)]
      unfold addS
      rw [if_neg c]
      exact f7 k k1 (by omega) x y hx hy
/-- the sets are copied to the next level -/
theorem copy195 {K119 : Int32 → Int32 → Int32 → Int32 → St → Option St} {L : Int32 → St → Option St} {d : Nat} {v1 v3 v4 : Int32} (hd : d ≤ 144) : ∀ (k i fu : Nat) (s : St), i + k = 144 → k < fu → ∃ s' fu', f_X9_look_195 K119 L fu v1 (nI (144 * d)) v3 v4 (nI i) s = f_X9_look_195 K119 L (fu' + 1) v1 (nI (144 * d)) v3 v4 (nI 144) s' ∧ JFr (d + 1) s s' ∧ s'.1 43 = s.1 43 ∧ s'.1 62 = s.1 62 ∧ ∀ j, j < 144 → s'.1 61 (144 * (d + 1) + j) = if i ≤ j then s.1 61 (144 * d + j) else s.1 61 (144 * (d + 1) + j) := by
  intro k
  induction k with
  | zero =>
    intro i fu s h1 h2
    obtain ⟨fu, rfl⟩ : ∃ z, fu = z + 1 := ⟨fu - 1, by omega⟩
    obtain rfl : i = 144 := by omega
    exact ⟨s, fu, rfl, JFr.rfl', rfl, rfl, fun j hj => by rw [if_neg (by omega)]⟩
  | succ k ih =>
    intro i fu s h1 h2
    obtain ⟨fu, rfl⟩ : ∃ z, fu = z + 1 := ⟨fu - 1, by omega⟩
    have e144 : nI (144 * d) + (144 : Int32) + nI i = nI (144 * (d + 1) + i) := by rw [n144, nI_add, nI_add]; rfl
    rw [f_X9_look_195, if_neg (show ¬ (144 : Int32) ≤ nI i from nI_ge (b := 144) (by omega) (by omega)), nI_add, aI_nI rfl (by show 144 * d + i < 21024; omega) (by decide), obs, e144, pI_nI rfl (by show 144 * (d + 1) + i < 21024; omega) (by decide), obs, nI_1]
    obtain ⟨s', fu', e1, e2, e3, e4, e5⟩ := ih (i + 1) fu (sF s 61 (144 * (d + 1) + i) (s.1 61 (144 * d + i))) (by omega) (by omega)
    refine ⟨s', fu', e1, (JFr.s61 (by omega)).trans e2, by rw [e3, sF_ne (by decide)], by rw [e4, sF_ne (by decide)], fun j hj => ?_⟩
    rw [e5 j hj]
    by_cases c1 : i + 1 ≤ j
    · rw [if_pos c1, if_pos (by omega), sF_nj (by omega)]
    · rw [if_neg c1]
      by_cases c2 : j = i
      · rw [c2, sF_at, if_pos (Nat.le_refl _)]
      · rw [sF_nj (by omega), if_neg (by omega)]
theorem look119 {L : Int32 → St → Option St} {d f : Nat} {g : Gs} {x y : Nat} (hd : d + mcG P g ≤ 144) (hx : x < P.W) (hy : y < P.H) (h2p : 2 ≤ pop (g x y)) (hg : setsOK P.W P.H P.C g) (hcap : cap ≤ 50) (hbud : bud ≤ 1000) (hL : ∀ (s : St) (g : Gs) (a : Sa), Mz s P → setsOK P.W P.H P.C g → hasM s 61 (144 * (d + 1)) P.W P.H g → d + 1 + mcG P g ≤ 144 → mfd P cap bud s a → a.1 ≤ bud → fin cap a = false → ∃ s', L (nI (d + 1)) s = some s' ∧ JFr (d + 1) s s' ∧ mfd P cap bud s' (look P cap bud f g a)) : ∀ (k fu : Nat) (s : St) (a : Sa), k ≤ P.C + 1 → k < fu → Mz s P → hasM s 61 (144 * d) P.W P.H g → mfd P cap bud s a → a.1 ≤ bud → ∃ s', f_X9_look_119 L fu (nI d) (nI (144 * d)) (nI (12 * y + x)) (nI (P.C + 1 - k)) s = some s' ∧ JFr d s s' ∧ mfd P cap bud s' (lookV P cap bud (look P cap bud f) x y k g a) := by
  intro k
  induction k with
  | zero =>
    intro fu s a hk hfu hm hh hf hn
    obtain ⟨fu, rfl⟩ : ∃ z, fu = z + 1 := ⟨fu - 1, by omega⟩
    have hC := hm.1.2.2.1.2
    refine ⟨s, ?_, JFr.rfl', hf⟩
    rw [f_X9_look_119, hm.2.2.2.1, if_pos (nI_lt (show P.C < P.C + 1 - 0 by omega) (by omega))]
  | succ k ih =>
    intro fu s a hk hfu hm hh hf hn
    obtain ⟨fu, rfl⟩ : ∃ z, fu = z + 1 := ⟨fu - 1, by omega⟩
    have hP := hm.1
    have hC := hP.2.2.1.2
    have hz := ok16 hP hg x y hx hy
    obtain ⟨⟨W1, W2⟩, ⟨H1, H2⟩, -⟩ := id hP
    obtain ⟨f1, f2, f3, f4, f5, f6, f7⟩ := id hf
    have hmp : 1 ≤ mcG P g := by
      have := mc_set (g := g) (v := 0) hx hy (by omega) h2p
      omega
    have hv : P.C + 1 - (k + 1) < P.C + 1 := by omega
    have hnx : P.C + 1 - (k + 1) + 1 = P.C + 1 - k := by omega
    rw [lookV]
    revert hv hnx
    generalize P.C + 1 - (k + 1) = v
    intro hv hnx
    have nextE : nI v + 1 = nI (P.C + 1 - k) := by rw [nI_1, hnx]
    rw [f_X9_look_119, hm.2.2.2.1, if_neg (nI_nlt (by omega) (by omega)), f5]
    by_cases c1 : fin cap a = true
    · rw [if_pos c1]
      refine ⟨s, ?_, JFr.rfl', hf⟩
      unfold fin at c1
      by_cases c0 : a.2.2.1 = true
      · rw [if_pos c0, if_neg (show ¬ (1 : Int32) = 0 by decide)]
      · rw [if_neg c0, if_pos rfl, f3, f4]
        have : cap ≤ a.2.1 := by
          rw [Bool.or_eq_true, decide_eq_true_eq] at c1
          exact c1.resolve_left c0
        rw [if_pos (nI_le this (by omega))]
    · rw [if_neg c1]
      have c1' : fin cap a = false := by simpa using c1
      obtain ⟨o1, o2⟩ := fin_no c1'
      have no1 : ¬ a.2.2.1 = true := by rw [o1]; decide
      rw [if_neg no1, if_pos rfl, f3, f4, if_neg (nI_ge (by omega) (by omega)), nI_add, aI_nI rfl (by show 144 * d + (12 * y + x) < 21024; omega) (by decide), obs, hh x y hx hy, bit_and _ hz v (by omega)]
      by_cases c2 : (g x y).testBit v = true
      · rw [if_pos c2, if_neg (show ¬ (1 : Int32) = 0 by decide), if_pos c2, f1, f2]
        by_cases c3 : a.1 = bud
        · rw [if_pos (by rw [c3]), if_pos c3, obs]
          refine ⟨_, rfl, JFr.s43 (Or.inr (Or.inr rfl)), ⟨by rw [sF_nj (by decide)]; exact f1, by rw [sF_nj (by decide)]; exact f2, by rw [sF_nj (by decide)]; exact f3, by rw [sF_nj (by decide)]; exact f4, by rw [sF_at]; rfl, f6, fun k' k1 k2 x y hx hy => ?_⟩⟩
          rw [sF_ne (by decide)]
          exact f7 k' k1 k2 x y hx hy
        · rw [if_neg (fun e => c3 (nI_inj (by omega) (by omega) e)), if_neg c3, obs, nI_1]
          generalize hs7 : sF s 43 41 (nI (a.1 + 1)) = s7
          have l7 : JFr d s s7 := by rw [← hs7]; exact JFr.s43 (Or.inl rfl)
          have hf7 : mfd P cap bud s7 (incS a) := by
            rw [← hs7]
            refine ⟨by rw [sF_at]; rfl, by rw [sF_nj (by decide)]; exact f2, by rw [sF_nj (by decide)]; exact f3, by rw [sF_nj (by decide)]; exact f4, by rw [sF_nj (by decide)]; exact f5, f6, fun k' k1 k2 x y hx hy => ?_⟩
            rw [sF_ne (by decide)]
            exact f7 k' k1 k2 x y hx hy
          have h61 : s7.1 61 = s.1 61 := by rw [← hs7, sF_ne (by decide)]
          obtain ⟨t, fu', e1, e2, e3, e4, e5⟩ := copy195 (K119 := f_X9_look_119 L fu) (L := L) (v1 := nI d) (v3 := nI (12 * y + x)) (v4 := nI v) (d := d) (by omega) 144 0 FU s7 (by omega) (by unfold FU; omega)
          show ∃ s', f_X9_look_195 (f_X9_look_119 L fu) L FU (nI d) (nI (144 * d)) (nI (12 * y + x)) (nI v) (nI 0) s7 = some s' ∧ _
          have e144 : nI (144 * d) + (144 : Int32) + nI (12 * y + x) = nI (144 * (d + 1) + (12 * y + x)) := by rw [n144, nI_add, nI_add]; rfl
          rw [e1, f_X9_look_195, if_pos (by decide), e144, oneI v (by omega), pI_nI rfl (by show 144 * (d + 1) + (12 * y + x) < 21024; omega) (by decide), obs, nI_1]
          generalize hu : sF t 61 (144 * (d + 1) + (12 * y + x)) (nI (2 ^ v)) = u
          have lu : JFr (d + 1) s7 u := by rw [← hu]; exact e2.trans (JFr.s61 (by omega))
          have po := pow_ok (P := P) hv
          have hok := setX_ok (x := x) (y := y) hg po.1 po.2
          have hhu : hasM u 61 (144 * (d + 1)) P.W P.H (setX g x y (2 ^ v)) := by
            intro i j hi hj
            rw [← hu]
            unfold setX
            by_cases e : i = x ∧ j = y
            · rw [if_pos e, e.1, e.2, sF_at]
            · rw [if_neg e, sF_nj (by omega), e5 _ (by omega), if_pos (Nat.zero_le _), h61]
              exact hh i j hi hj
          have hmu : Mz u P := hm.l (l7.trans (lu.up (by omega)))
          have hfu' : mfd P cap bud u (incS a) := hf7.fr (fun b _ _ => by rw [← hu, sF_ne (by decide), e3]) (by rw [← hu, sF_ne (by decide), e4])
          have hmc := mc_set (g := g) (v := v) hx hy (by omega) h2p
          obtain ⟨w, g1, g2, g3⟩ := hL u _ (incS a) hmu hok hhu (by omega) hfu' (by show a.1 + 1 ≤ bud; omega) c1'
          rw [g1, obs, f_X9_look_254, nextE]
          have lw : JFr (d + 1) s7 w := lu.trans g2
          have lw' : JFr d s w := l7.trans (lw.up (by omega))
          have hhw : hasM w 61 (144 * d) P.W P.H g := by
            intro i j hi hj
            rw [lw.2.2.2 _ (by omega), h61]
            exact hh i j hi hj
          have hn' : (look P cap bud f (setX g x y (2 ^ v)) (incS a)).1 ≤ bud := look_n f _ (incS a) (by show a.1 + 1 ≤ bud; omega)
          obtain ⟨s', i1, i2, i3⟩ := ih fu w _ (by omega) (by omega) (hm.l lw') hhw g3 hn'
          exact ⟨s', i1, lw'.trans i2, i3⟩
      · rw [if_neg c2, if_pos rfl, if_neg c2, f_X9_look_254, nextE]
        exact ih fu s a (by omega) (by omega) hm hh hf hn
theorem look9 (hcap : cap ≤ 50) (hbud : bud ≤ 1000) : ∀ (n d : Nat) (s : St) (g : Gs) (a : Sa), n + d = LOOKN → Mz s P → setsOK P.W P.H P.C g → hasM s 61 (144 * d) P.W P.H g → d + mcG P g ≤ 144 → mfd P cap bud s a → a.1 ≤ bud → fin cap a = false → ∃ s', f_X9_look n (nI d) s = some s' ∧ JFr d s s' ∧ mfd P cap bud s' (look P cap bud n g a) := by
  intro n
  induction n with
  | zero =>
    intro d s g a h1 _ _ _ h2
    unfold LOOKN at h1
    omega
  | succ n ih =>
    intro d s g a h1 hm hg hh hd hf hn hfin
    have hP := hm.1
    have hq : qOK 61 (144 * d) := ⟨rfl, by decide, by show 144 * d + 144 ≤ 21024; omega, by decide⟩
    obtain ⟨t, e1, e2, e3, -⟩ := toRest9 hq hm hg hh
    obtain ⟨r1, r2, r3, r4, r5⟩ := restP_spec hP hg
    have hft : mfd P cap bud t a := hf.fr (fun b b1 b2 => e1.2.1 b (by omega) (by omega) (by omega)) (e1.1 62 (by decide) (by decide) (by decide) (by decide))
    have hmt : Mz t P := hm.tr hq e1
    rw [f_X9_look, n144, pk_mul, e3, obs, look]
    by_cases c : (restP P g).1 = true
    · rw [if_pos c, if_pos c, if_neg nz]
      show ∃ s', Option.bind (f_X9_allOne 61 (nI (144 * d)) t) _ = _ ∧ _
      rw [allOne9' hq hmt r1 e2, obs]
      unfold nodeF
      have hmc := mc_sub hP hg r1 r2
      by_cases hb : bsC P (restP P g).2.2 = 0
      · rw [if_pos hb, if_pos hb, if_neg nz]
        obtain ⟨s', z1, z2, z3⟩ := look33' (L := f_X9_look n) (d := d) (by omega) r1 hmt e2 hft (by have := (fin_no hfin).2; omega) hcap
        exact ⟨s', z1, e1.l.trans z2, z3⟩
      · rw [if_neg hb, if_neg hb, if_pos rfl]
        obtain ⟨bx, byy, b2⟩ := bXY hP hb
        obtain ⟨⟨W1, W2⟩, ⟨H1, H2⟩, -⟩ := id hP
        have hWH : P.W * P.H ≤ 12 * 12 := Nat.mul_le_mul W2 H2
        have hbr : f_X9_branch (nI (144 * d)) t = some (nI (12 * bY P (restP P g).2.2 + bX P (restP P g).2.2), t) := by
          have := branch9 hq hmt r1 e2 (P.W * P.H) 0 FU (by omega) (by unfold FU; omega)
          unfold f_X9_branch
          refine Eq.trans this ?_
          congr 2
          unfold codeB
          rw [if_neg hb]
          rfl
        show ∃ s', Option.bind (f_X9_branch (nI (144 * d)) t) _ = _ ∧ _
        rw [hbr, obs]
        obtain ⟨s', z1, z2, z3⟩ := look119 (L := f_X9_look n) (f := n) (d := d) (by omega) bx byy b2 r1 hcap hbud (fun s g a k1 k2 k3 k4 k5 k6 k7 => ih (d + 1) s g a (by omega) k1 k2 k3 k4 k5 k6 k7) (P.C + 1) FU t a (Nat.le_refl _) (by have := hP.2.2.1.2; unfold FU; omega) hmt e2 hft hn
        rw [Nat.sub_self] at z1
        exact ⟨s', z1, e1.l.trans z2, z3⟩
    · rw [if_neg c, if_neg c, if_pos rfl]
      exact ⟨t, rfl, e1.l, hft⟩
end Look9
