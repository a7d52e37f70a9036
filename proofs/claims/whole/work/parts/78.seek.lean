/-! the class seeks -/
theorem cpJn {s : St} {a b i j m : Nat} (ha : arT a = 3) (hb : arT b = 3) (h1 : i + m ≤ arN a) (h2 : j + m ≤ arN b) (hi : i < 2 ^ 31) (hj : j < 2 ^ 31) (hm : m < 2 ^ 31) : cpJ s a (nI i) b (nI j) (nI m) = some (sRowL s b (va_cpy (s.2.1 a) (s.2.1 b) i j m)) := by
  unfold cpJ
  have hok : cpOK (nI i) (nI j) (nI m) a b = true := by
    unfold cpOK
    rw [nI_clamp hm, nI_clamp hi, nI_clamp hj]
    simp only [Bool.and_eq_true, decide_eq_true_eq]
    exact ⟨⟨⟨⟨nI_pos' hi, nI_pos' hj⟩, nI_pos' hm⟩, h1⟩, h2⟩
  rw [if_pos ⟨⟨ha, hb⟩, hok⟩, nI_clamp hm, nI_clamp hi, nI_clamp hj]
theorem least1 {n k : Nat} {x : Int32} {s : St} (hk : k < 3) : f_X4_leastOf_2 (n + 1) x (nI k) s = if bt x k = true then some (nI k, s) else f_X4_leastOf_2 n x (nI (k + 1)) s := by
  rw [f_X4_leastOf_2, if_neg (show ¬ (3 : Int32) ≤ nI k from nI_ge (b := 3) hk (by omega)), bitT (by omega), nI_1]
  cases bt x k <;> rfl
theorem least4 {z : Nat} {s : St} (hz : z < 16) : f_X4_leastOf (nI z) s = some (nI (lst z), s) := by
  unfold f_X4_leastOf lst
  show f_X4_leastOf_2 FU (nI z) (nI 0) s = _
  rw [show FU = 4092 + 1 + 1 + 1 + 1 from rfl, least1 (by omega), least1 (by omega), least1 (by omega), b_nI, b_nI, b_nI, decide_eq_true (show 0 < 32 by omega), decide_eq_true (show 1 < 32 by omega), decide_eq_true (show 2 < 32 by omega), Bool.true_and, Bool.true_and, Bool.true_and]
  by_cases c0 : z.testBit 0 = true
  · rw [if_pos c0, if_pos c0]
  · rw [if_neg c0, if_neg c0]
    by_cases c1 : z.testBit 1 = true
    · rw [if_pos c1, if_pos c1]
    · rw [if_neg c1, if_neg c1]
      by_cases c2 : z.testBit 2 = true
      · rw [if_pos c2, if_pos c2]
      · rw [if_neg c2, if_neg c2, f_X4_leastOf_2, if_pos (by decide)]
def codeB (P : Pz) (b : Nat) : Int32 := if b = 0 then -1 else nI (12 * ((b - 1) / P.W) + (b - 1) % P.W)
section Few
variable {P : Pz} {G q : Nat}
theorem few20 {g : Gs} {s : St} (hG : sOK G q) (hc : Cz s P) (hg : setsOK P.W P.H P.C g) (hw : hasWr (s.2.1 q) P.W P.H g) : ∀ (k x y fu n6 : Nat), P.W * y + x + (k + 1) = P.W * P.H → x < P.W → y < P.H → P.W - x < fu → P.H - y ≤ n6 → f_X4_firstOfFewest_20 G (f_X4_firstOfFewest_6 G n6) fu (codeB P (bst P g (P.W * y + x)).1) (nI (bst P g (P.W * y + x)).2) (nI y) (nI x) s = some (codeB P (bsC P g), s) := by
  have hP := hc.1
  obtain ⟨⟨W1, W2⟩, ⟨H1, H2⟩, -⟩ := id hP
  have b5 : ∀ k, k ≤ P.W * P.H → (bst P g k).2 ≤ 5 := by
    intro k
    induction k with
    | zero => intro _; exact Nat.le_refl _
    | succ i ih =>
      intro hk
      rw [bst]
      split
      · obtain ⟨w1, w2⟩ := kWH (H := P.H) (k := i) W1 (by omega)
        have := pop_le _ (ok16 hP hg _ _ w1 w2)
        show pop _ ≤ 5
        omega
      · exact ih (by omega)
  -- one cell
  have one : ∀ (x y fu n6 : Nat), P.W * y + x < P.W * P.H → x < P.W → y < P.H → f_X4_firstOfFewest_20 G (f_X4_firstOfFewest_6 G n6) (fu + 1) (codeB P (bst P g (P.W * y + x)).1) (nI (bst P g (P.W * y + x)).2) (nI y) (nI x) s = f_X4_firstOfFewest_20 G (f_X4_firstOfFewest_6 G n6) fu (codeB P (bst P g (P.W * y + x + 1)).1) (nI (bst P g (P.W * y + x + 1)).2) (nI y) (nI (x + 1)) s := by
    intro x y fu n6 hi hx hy
    have em : (P.W * y + x) % P.W = x := by rw [Nat.mul_add_mod, Nat.mod_eq_of_lt hx]
    have ed : (P.W * y + x) / P.W = y := by rw [Nat.mul_add_div (by omega), Nat.div_eq_of_lt hx, Nat.add_zero]
    have hz := ok16 hP hg x y hx hy
    have hpl := pop_le _ hz
    have hb := b5 (P.W * y + x) (by omega)
    rw [f_X4_firstOfFewest_20, hc.2.1, if_neg (nI_ge hx (by omega)), valAt hc hG hx hy hg hw, obs]
    show Option.bind (f_J6_bitCount_0f7a4 (nI (g x y)) s) _ = _
    rw [bitC16 hz, obs, bst, em, ed]
    by_cases c1 : 2 ≤ pop (g x y)
    · rw [if_neg (show ¬ nI (pop (g x y)) < (2 : Int32) from nI_nlt (b := 2) c1 (by omega))]
      by_cases c2 : pop (g x y) < (bst P g (P.W * y + x)).2
      · rw [if_neg (nI_ge c2 (by omega)), if_pos ⟨c1, c2⟩, f_X4_firstOfFewest_67, nI_1, at12]
        show f_X4_firstOfFewest_20 G (f_X4_firstOfFewest_6 G n6) fu (nI (12 * y + x)) (nI (pop (g x y))) (nI y) (nI (x + 1)) s = f_X4_firstOfFewest_20 G (f_X4_firstOfFewest_6 G n6) fu (codeB P (P.W * y + x + 1)) (nI (pop (g x y))) (nI y) (nI (x + 1)) s
        have : codeB P (P.W * y + x + 1) = nI (12 * y + x) := by
          unfold codeB
          rw [if_neg (by omega), show P.W * y + x + 1 - 1 = P.W * y + x from rfl, em, ed]
        rw [this]
      · rw [if_pos (nI_le (by omega) (by omega)), if_neg (fun z => c2 z.2), f_X4_firstOfFewest_67, nI_1]
    · rw [if_pos (show nI (pop (g x y)) < (2 : Int32) from nI_lt (b := 2) (by omega) (by omega)), if_neg (fun z => c1 z.1), f_X4_firstOfFewest_67, nI_1]
  intro k
  induction k with
  | zero =>
    intro x y fu n6 hi hx hy hfu hn6
    obtain ⟨fu, rfl⟩ : ∃ z, fu = z + 1 := ⟨fu - 1, by omega⟩
    obtain ⟨fu, rfl⟩ : ∃ z, fu = z + 1 := ⟨fu - 1, by omega⟩
    obtain ⟨n6, rfl⟩ : ∃ z, n6 = z + 1 := ⟨n6 - 1, by omega⟩
    have hyH : y + 1 = P.H := by
      rcases Nat.lt_or_ge (y + 1) P.H with h | h
      · have : P.W * (y + 2) ≤ P.W * P.H := Nat.mul_le_mul_left _ h
        rw [Nat.mul_add] at this
        omega
      · omega
    have hxW : x + 1 = P.W := by
      have : P.W * (y + 1) = P.W * P.H := by rw [hyH]
      rw [Nat.mul_add, Nat.mul_one] at this
      omega
    rw [one x y _ _ (by omega) hx hy, hxW, f_X4_firstOfFewest_20, hc.2.1, if_pos (nI_le (Nat.le_refl _) (by omega)), nI_1, hyH, f_X4_firstOfFewest_6, hc.2.2.1, if_pos (nI_le (Nat.le_refl _) (by omega)), show P.W * y + x + 1 = P.W * P.H by omega]
    rfl
  | succ k ih =>
    intro x y fu n6 hi hx hy hfu hn6
    obtain ⟨fu, rfl⟩ : ∃ z, fu = z + 1 := ⟨fu - 1, by omega⟩
    obtain ⟨n6, rfl⟩ : ∃ z, n6 = z + 1 := ⟨n6 - 1, by omega⟩
    rw [one x y _ _ (by omega) hx hy]
    by_cases cx : x + 1 < P.W
    · exact ih (x + 1) y fu (n6 + 1) (by omega) cx hy (by omega) hn6
    · have hxW : x + 1 = P.W := by omega
      have hy2 : y + 1 < P.H := by
        rcases Nat.lt_or_ge (y + 1) P.H with h | h
        · exact h
        · have : P.W * P.H ≤ P.W * (y + 1) := Nat.mul_le_mul_left _ h
          rw [Nat.mul_add, Nat.mul_one] at this
          omega
      obtain ⟨fu, rfl⟩ : ∃ z, fu = z + 1 := ⟨fu - 1, by omega⟩
      rw [hxW, f_X4_firstOfFewest_20, hc.2.1, if_pos (nI_le (Nat.le_refl _) (by omega)), nI_1, f_X4_firstOfFewest_6, hc.2.2.1, if_neg (nI_ge hy2 (by omega))]
      have e : P.W * y + x + 1 = P.W * (y + 1) + 0 := by rw [Nat.mul_add, Nat.mul_one]; omega
      rw [e]
      exact ih 0 (y + 1) FU n6 (by rw [← e]; omega) (by omega) hy2 (by unfold FU; omega) (by omega)
theorem fewest4 {g : Gs} {s : St} (hG : sOK G q) (hc : Cz s P) (hg : setsOK P.W P.H P.C g) (hw : hasWr (s.2.1 q) P.W P.H g) : f_X4_firstOfFewest G s = some (codeB P (bsC P g), s) := by
  obtain ⟨⟨W1, W2⟩, ⟨H1, H2⟩, -⟩ := id hc.1
  have hWH : 1 ≤ P.W * P.H := Nat.mul_le_mul W1 H1
  unfold f_X4_firstOfFewest
  rw [if_neg (fun x => x hG.1), show FU = 4095 + 1 from rfl, f_X4_firstOfFewest_6, hc.2.2.1, if_neg (show ¬ nI P.H ≤ 0 from nI_nle (by omega) (by omega))]
  exact few20 hG hc hg hw (P.W * P.H - 1) 0 0 FU 4095 (by omega) (by omega) (by omega) (by unfold FU; omega) (by omega)
end Few
/-! the found solutions of the class -/
def fOK (F : Nat) : Prop := clO F = 1 ∧ rf F 0 = F + 1 ∧ rf F 1 = F + 3 ∧ clO (F + 1) = 2 ∧ clO (F + 3) = 2 ∧ rf (F + 1) 0 = F + 2 ∧ rf (F + 3) 0 = F + 4 ∧ arT (F + 2) = 1 ∧ arT (F + 4) = 1 ∧ arN (F + 2) = 144 ∧ arN (F + 4) = 144 ∧ 33 ≤ F ∧ F ≤ 38
theorem f33 : fOK 33 := ⟨rfl, rfl, rfl, rfl, rfl, rfl, rfl, rfl, rfl, rfl, rfl, by decide, by decide⟩
theorem f38 : fOK 38 := ⟨rfl, rfl, rfl, rfl, rfl, rfl, rfl, rfl, rfl, rfl, rfl, by decide, by decide⟩
def fnd (P : Pz) (F : Nat) (s : St) (a : Sa) : Prop := s.1 F 2 = nI a.2.1 ∧ s.1 F 3 = nI a.1 ∧ s.1 F 4 = (if a.2.2.1 = true then 1 else 0) ∧ ∀ k, k < 2 → k < a.2.1 → ∀ x y, x < P.W → y < P.H → s.1 (F + 2 + 2 * k) (12 * y + x) = nI (a.2.2.2 k x y)
section Add
variable {P : Pz} {F k : Nat}
theorem add33 {g : Gs} {o r : Nat} {K : Nat → Int32 → St → Option St} {y : Nat} (ho : clO o = 2) (hr : rf o 0 = r) (hT : arT r = 1) (hN : arN r = 144) (hor : o ≠ r) (hor' : 33 ≤ o ∧ 33 ≤ r) (hy : y < P.H) : ∀ (m x fu : Nat) (s : St), P.W - x = m → x ≤ P.W → m < fu → Cz s P → setsOK P.W P.H P.C g → hasWr (s.2.1 26) P.W P.H g → ∃ s', f_X1_add_33 F 25 K fu o (nI y) (nI x) s = K o (nI y + 1) s' ∧ s'.2 = s.2 ∧ (∀ a, a ≠ o → a ≠ r → s'.1 a = s.1 a) ∧ ∀ c, s'.1 r c = if 12 * y + x ≤ c ∧ c < 12 * y + P.W then nI (lst (g (c - 12 * y) y)) else s.1 r c := by
  intro m
  induction m with
  | zero =>
    intro x fu s h1 h2 h3 hc hg hw
    obtain ⟨fu, rfl⟩ : ∃ z, fu = z + 1 := ⟨fu - 1, by omega⟩
    obtain ⟨⟨W1, W2⟩, ⟨H1, H2⟩, -⟩ := id hc.1
    refine ⟨s, ?_, rfl, fun _ _ _ => rfl, fun c => ?_⟩
    · rw [f_X1_add_33, hc.2.1, if_pos (nI_le (by omega) (by omega))]
    · rw [if_neg (by omega)]
  | succ m ih =>
    intro x fu s h1 h2 h3 hc hg hw
    obtain ⟨fu, rfl⟩ : ∃ z, fu = z + 1 := ⟨fu - 1, by omega⟩
    obtain ⟨⟨W1, W2⟩, ⟨H1, H2⟩, -⟩ := id hc.1
    have hx : x < P.W := by omega
    have hz := ok16 hc.1 hg x y hx hy
    rw [f_X1_add_33, hc.2.1, if_neg (nI_ge hx (by omega)), valAt (G := 25) (q := 26) hc ⟨rfl, rfl, rfl, rfl⟩ hx hy hg hw, obs]
    show ∃ s', Option.bind (f_X4_leastOf (nI (g x y)) s) _ = _ ∧ _
    rw [least4 hz, obs]
    show ∃ s', Option.bind (f_X2_put o (nI x) (nI y) (nI (lst (g x y))) s) _ = _ ∧ _
    rw [put2 ho (by rw [hr]; exact hT) (by rw [hr]; exact hN) (by omega) (by omega), obs, nI_1, hr]
    generalize ht : sF (sF s o 1 (s.1 o 1 - dG (s.1 r (12 * y + x)) + dG (nI (lst (g x y))))) r (12 * y + x) (nI (lst (g x y))) = t
    have t1 : ∀ a, a ≠ o → a ≠ r → t.1 a = s.1 a := fun a a1 a2 => by rw [← ht, sF_ne a2, sF_ne a1]
    have t2 : t.2 = s.2 := by rw [← ht]; rfl
    have t3 : ∀ c, t.1 r c = if c = 12 * y + x then nI (lst (g x y)) else s.1 r c := fun c => by
      rw [← ht, sF_get]
      by_cases e : c = 12 * y + x
      · rw [if_pos ⟨rfl, e⟩, if_pos e]
      · rw [if_neg (fun z => e z.2), if_neg e, sF_ne (fun z => hor z.symm)]
    have hct : Cz t P := hc.fr (t1 3 (by omega) (by omega)) (t1 4 (by omega) (by omega)) (t1 5 (by omega) (by omega)) (t1 6 (by omega) (by omega))
    obtain ⟨s', e1, e2, e3, e4⟩ := ih (x + 1) fu t (by omega) (by omega) (by omega) hct hg (by rw [t2]; exact hw)
    refine ⟨s', e1, e2.trans t2, fun a a1 a2 => by rw [e3 a a1 a2, t1 a a1 a2], fun c => ?_⟩
    rw [e4 c]
    by_cases c1 : 12 * y + (x + 1) ≤ c ∧ c < 12 * y + P.W
    · rw [if_pos c1, if_pos (by omega)]
    · rw [if_neg c1, t3]
      by_cases c2 : c = 12 * y + x
      · rw [if_pos c2, if_pos (by omega), c2, show 12 * y + x - 12 * y = x by omega]
      · rw [if_neg c2, if_neg (by omega)]
theorem add19 {g : Gs} {o r : Nat} (ho : clO o = 2) (hr : rf o 0 = r) (hT : arT r = 1) (hN : arN r = 144) (hor : o ≠ r) (hor' : 33 ≤ o ∧ 33 ≤ r) : ∀ (m y fu : Nat) (s : St), P.H - y = m → y ≤ P.H → m < fu → Cz s P → setsOK P.W P.H P.C g → hasWr (s.2.1 26) P.W P.H g → (∀ i j, i < P.W → j < y → s.1 r (12 * j + i) = nI (lst (g i j))) → ∃ s', f_X1_add_19 F 25 fu o (nI y) s = f_X1_add_74 F 25 s' ∧ s'.2 = s.2 ∧ (∀ a, a ≠ o → a ≠ r → s'.1 a = s.1 a) ∧ ∀ i j, i < P.W → j < P.H → s'.1 r (12 * j + i) = nI (lst (g i j)) := by
  intro m
  induction m with
  | zero =>
    intro y fu s h1 h2 h3 hc hg hw hd
    obtain ⟨fu, rfl⟩ : ∃ z, fu = z + 1 := ⟨fu - 1, by omega⟩
    obtain ⟨⟨W1, W2⟩, ⟨H1, H2⟩, -⟩ := id hc.1
    refine ⟨s, ?_, rfl, fun _ _ _ => rfl, fun i j hi hj => hd i j hi (by omega)⟩
    rw [f_X1_add_19, hc.2.2.1, if_pos (nI_le (by omega) (by omega))]
  | succ m ih =>
    intro y fu s h1 h2 h3 hc hg hw hd
    obtain ⟨fu, rfl⟩ : ∃ z, fu = z + 1 := ⟨fu - 1, by omega⟩
    obtain ⟨⟨W1, W2⟩, ⟨H1, H2⟩, -⟩ := id hc.1
    rw [f_X1_add_19, hc.2.2.1, if_neg (nI_ge (show y < P.H by omega) (by omega))]
    obtain ⟨t, e1, e2, e3, e4⟩ := add33 (F := F) (g := g) (K := f_X1_add_19 F 25 fu) (y := y) ho hr hT hN hor hor' (by omega) P.W 0 FU s (by omega) (Nat.zero_le _) (by unfold FU; omega) hc hg hw
    have hct : Cz t P := hc.fr (e3 3 (by omega) (by omega)) (e3 4 (by omega) (by omega)) (e3 5 (by omega) (by omega)) (e3 6 (by omega) (by omega))
    obtain ⟨s', f1, f2, f3, f4⟩ := ih (y + 1) fu t (by omega) (by omega) (by omega) hct hg (by rw [e2]; exact hw) (fun i j hi hj => by
      rw [e4]
      by_cases c : j = y
      · subst c
        rw [if_pos (by omega), show 12 * j + i - 12 * j = i by omega]
      · rw [if_neg (by omega)]
        exact hd i j hi (by omega))
    refine ⟨s', ?_, f2.trans e2, fun a a1 a2 => by rw [f3 a a1 a2, e3 a a1 a2], f4⟩
    show f_X1_add_33 F 25 (f_X1_add_19 F 25 fu) FU o (nI y) (nI 0) s = _
    rw [e1, nI_1, f1]
theorem addF {g : Gs} {s : St} {a : Sa} (hF : fOK F) (hc : Cz s P) (hg : setsOK P.W P.H P.C g) (hw : hasWr (s.2.1 26) P.W P.H g) (hf : fnd P F s a) (ha : a.2.1 < 1000) : ∃ s', f_X1_add F 25 s = some s' ∧ s'.2 = s.2 ∧ (∀ b, (b < F ∨ F + 4 < b) → s'.1 b = s.1 b) ∧ fnd P F s' (addS g a) := by
  obtain ⟨F1, F2, F3, F4, F5, F6, F7, F8, F9, F10, F11, F12, F13⟩ := id hF
  obtain ⟨f1, f2, f3, f4⟩ := hf
  have add74 : ∀ t : St, t.1 F 2 = nI a.2.1 → f_X1_add_74 F 25 t = some (sF t F 2 (nI (a.2.1 + 1))) := fun t ht => by
    unfold f_X1_add_74
    rw [obs, ht, nI_1]
  unfold f_X1_add
  rw [if_neg (fun x => x F1), if_neg (fun x => x rfl), f1]
  by_cases c : 2 ≤ a.2.1
  · rw [if_pos (show (2 : Int32) ≤ nI a.2.1 from nI_le (a := 2) c (by omega)), add74 s f1]
    refine ⟨_, rfl, rfl, fun b hb => sF_ne (by omega), by rw [sF_at]; rfl, by rw [sF_nj (by decide)]; exact f2, by rw [sF_nj (by decide)]; exact f3, fun k k1 k2 x y hx hy => ?_⟩
    rw [sF_ne (by omega)]
    unfold addS
    rw [if_neg (by omega)]
    exact f4 k k1 (by omega) x y hx hy
  · rw [if_neg (show ¬ (2 : Int32) ≤ nI a.2.1 from nI_ge (b := 2) (by omega) (by omega))]
    -- which grid
    have hk : ∃ o r, f_X1_kept F (nI a.2.1) s = some (o, s) ∧ clO o = 2 ∧ rf o 0 = r ∧ arT r = 1 ∧ arN r = 144 ∧ r = F + 2 + 2 * a.2.1 ∧ o = F + 1 + 2 * a.2.1 := by
      unfold f_X1_kept
      rw [if_neg (fun x => x F1)]
      by_cases z : a.2.1 = 0
      · rw [z, if_pos (by decide)]
        exact ⟨F + 1, F + 2, by rw [F2], F4, F6, F8, F10, by omega, by omega⟩
      · rw [if_neg (nI_ne0 (by omega) (by omega))]
        exact ⟨F + 3, F + 4, by rw [F3], F5, F7, F9, F11, by omega, by omega⟩
    obtain ⟨o, r, k1, k2, k3, k4, k5, k6, k7⟩ := hk
    rw [k1, obs]
    obtain ⟨t, e1, e2, e3, e4⟩ := add19 (P := P) (F := F) (g := g) k2 k3 k4 k5 (by omega) (by omega) P.H 0 FU s (by omega) (Nat.zero_le _) (by have := hc.1.2.1.2; unfold FU; omega) hc hg hw (fun i j _ hj => absurd hj (by omega))
    have tF : t.1 F = s.1 F := e3 F (by omega) (by omega)
    refine ⟨sF t F 2 (nI (a.2.1 + 1)), ?_, e2, fun b hb => by rw [sF_ne (by omega), e3 b (by omega) (by omega)], by rw [sF_at]; rfl, by rw [sF_nj (by decide), tF]; exact f2, by rw [sF_nj (by decide), tF]; exact f3, fun k kk1 kk2 x y hx hy => ?_⟩
    · show f_X1_add_19 F 25 FU o (nI 0) s = _
      rw [e1]
      exact add74 t (by rw [tF]; exact f1)
    · rw [sF_ne (by omega)]
      unfold addS
      rw [if_pos (by omega)]
      have kk2' : k < a.2.1 + 1 := kk2
      show t.1 (F + 2 + 2 * k) (12 * y + x) = nI ((if k = a.2.1 then (fun x y => lst (g x y)) else a.2.2.2 k) x y)
      by_cases e : k = a.2.1
      · rw [if_pos e, e, ← k6]
        exact e4 x y hx hy
      · rw [if_neg e, e3 _ (by omega) (by omega)]
        exact f4 k kk1 (by omega) x y hx hy
end Add
