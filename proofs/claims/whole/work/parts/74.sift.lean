section Sift2
variable {P : Pz} {G q : Nat}
theorem tryC_off {x y : Nat} : ∀ k g a c, tryC P x y k g (a + c) = ((tryC P x y k g c).1, a + (tryC P x y k g c).2.1, (tryC P x y k g c).2.2) := by
  intro k
  induction k with
  | zero => intro g a c; rfl
  | succ k ih =>
    intro g a c
    rw [tryC, tryC]
    by_cases d : (tryV P x y g (P.C + 1 - (k + 1))).1 = true
    · rw [if_pos d, if_pos d, Nat.add_assoc]
      exact ih _ a _
    · rw [if_neg d, if_neg d, Nat.add_assoc]
theorem siftCell5 {x y : Nat} {g : Gs} {s : St} (hG : sOK G q) (hq : q ≠ 28) (hx : x < P.W) (hy : y < P.H) (hc : Cz s P) (hg : setsOK P.W P.H P.C g) (hr : allR P g) (hw : hasWr (s.2.1 q) P.W P.H g) : ∃ s', XFr q s s' ∧ hasWr (s'.2.1 q) P.W P.H (tryC P x y (P.C + 1) g 0).2.2 ∧ f_X5_siftCell G (nI x) (nI y) s = some (if (tryC P x y (P.C + 1) g 0).1 = true then nI (tryC P x y (P.C + 1) g 0).2.1 else -2, s') := by
  obtain ⟨mk, m1, m2⟩ := lthr (G := G) hc hG hx hy
  have hs := szG_le hc.1 hg
  have hC := hc.1.2.2.1.2
  obtain ⟨s', a, b, c⟩ := sift14 hG hq hx hy m2 (P.C + 1) 0 FU g s (Nat.le_refl _) (by unfold FU; omega) (by omega) hc hg hr hw
  refine ⟨s', a, b, ?_⟩
  unfold f_X5_siftCell
  rw [if_neg (fun x => x hG.1), m1, obs]
  rw [Nat.sub_self] at c
  exact c
theorem sift32 {K4 : Int32 → Int32 → St → Option (Int32 × St)} {v3 v4 : Int32} (hG : sOK G q) (hq : q ≠ 28) : ∀ (k x y c fu n17 : Nat) (g : Gs) (s : St), P.W * y + x + (k + 1) = P.W * P.H → x < P.W → y < P.H → P.W - x < fu → P.H - y ≤ n17 → c + szG P g < 2 ^ 30 → Cz s P → setsOK P.W P.H P.C g → allR P g → hasWr (s.2.1 q) P.W P.H g → ∃ s', XFr q s s' ∧ hasWr (s'.2.1 q) P.W P.H (tryA P (k + 1) g c).2.2 ∧ (((tryA P (k + 1) g c).1 = false ∧ f_X5_sift_32 G K4 (f_X5_sift_17 G K4 n17) fu (nI c) v3 v4 (nI y) (nI x) s = some (-2, s')) ∨ ((tryA P (k + 1) g c).1 = true ∧ f_X5_sift_32 G K4 (f_X5_sift_17 G K4 n17) fu (nI c) v3 v4 (nI y) (nI x) s = if nI (tryA P (k + 1) g c).2.1 = v4 then some (nI (tryA P (k + 1) g c).2.1, s') else K4 (nI (tryA P (k + 1) g c).2.1) (v3 + 1) s')) := by
  intro k
  induction k with
  | zero =>
    intro x y c fu n17 g s hi hx hy hfu hn17 hcc hc hg hr hw
    obtain ⟨fu, rfl⟩ : ∃ z, fu = z + 1 := ⟨fu - 1, by omega⟩
    obtain ⟨n17, rfl⟩ : ∃ z, n17 = z + 1 := ⟨n17 - 1, by omega⟩
    obtain ⟨fu, rfl⟩ : ∃ z, fu = z + 1 := ⟨fu - 1, by omega⟩
    have hP := hc.1
    obtain ⟨⟨W1, W2⟩, ⟨H1, H2⟩, -⟩ := id hP
    have ei : P.W * P.H - (0 + 1) = P.W * y + x := by omega
    have em : (P.W * y + x) % P.W = x := by rw [Nat.mul_add_mod, Nat.mod_eq_of_lt hx]
    have ed : (P.W * y + x) / P.W = y := by rw [Nat.mul_add_div (by omega), Nat.div_eq_of_lt hx, Nat.add_zero]
    obtain ⟨t, a1, a2, a3⟩ := siftCell5 hG hq hx hy hc hg hr hw
    obtain ⟨o1, o2, o3, o4, o5⟩ := tryC_ok hP hx hy (P.C + 1) g 0 (Nat.le_refl _) hg hr
    have hoff : tryC P x y (P.C + 1) g c = ((tryC P x y (P.C + 1) g 0).1, c + (tryC P x y (P.C + 1) g 0).2.1, (tryC P x y (P.C + 1) g 0).2.2) := tryC_off (P := P) (x := x) (y := y) (P.C + 1) g c 0
    rw [tryA, ei, em, ed, hoff]
    have hyH : y + 1 = P.H := by
      rcases Nat.lt_or_ge (y + 1) P.H with h | h
      · have : P.W * (y + 2) ≤ P.W * P.H := Nat.mul_le_mul_left _ h
        rw [Nat.mul_add] at this
        omega
      · omega
    have hxW : x + 1 = P.W := by
      have : P.W * (y + 1) = P.W * P.H := by rw [hyH]
      rw [Nat.mul_add, Nat.mul_one] at this
      omega
    by_cases d : (tryC P x y (P.C + 1) g 0).1 = true
    · rw [if_pos d]
      rw [if_pos d] at a3
      refine ⟨t, a1, a2, Or.inr ⟨rfl, ?_⟩⟩
      rw [f_X5_sift_32, hc.2.1, if_neg (nI_ge hx (by omega)), a3, obs, if_neg (nI_m2 (by omega)), nI_add, nI_1, hxW, f_X5_sift_32, (hc.x a1).2.1, if_pos (nI_le (Nat.le_refl _) (by omega)), nI_1, hyH, f_X5_sift_17, (hc.x a1).2.2.1, if_pos (nI_le (Nat.le_refl _) (by omega))]
      rfl
    · rw [if_neg d]
      rw [if_neg d] at a3
      have df : (tryC P x y (P.C + 1) g 0).1 = false := by simpa using d
      refine ⟨t, a1, a2, Or.inl ⟨df, ?_⟩⟩
      rw [f_X5_sift_32, hc.2.1, if_neg (nI_ge hx (by omega)), a3, obs, if_pos rfl]
  | succ k ih =>
    intro x y c fu n17 g s hi hx hy hfu hn17 hcc hc hg hr hw
    obtain ⟨fu, rfl⟩ : ∃ z, fu = z + 1 := ⟨fu - 1, by omega⟩
    obtain ⟨n17, rfl⟩ : ∃ z, n17 = z + 1 := ⟨n17 - 1, by omega⟩
    have hP := hc.1
    obtain ⟨⟨W1, W2⟩, ⟨H1, H2⟩, -⟩ := id hP
    have ei : P.W * P.H - (k + 1 + 1) = P.W * y + x := by omega
    have em : (P.W * y + x) % P.W = x := by rw [Nat.mul_add_mod, Nat.mod_eq_of_lt hx]
    have ed : (P.W * y + x) / P.W = y := by rw [Nat.mul_add_div (by omega), Nat.div_eq_of_lt hx, Nat.add_zero]
    obtain ⟨t, a1, a2, a3⟩ := siftCell5 hG hq hx hy hc hg hr hw
    obtain ⟨o1, o2, o3, o4, o5⟩ := tryC_ok hP hx hy (P.C + 1) g 0 (Nat.le_refl _) hg hr
    have hoff : tryC P x y (P.C + 1) g c = ((tryC P x y (P.C + 1) g 0).1, c + (tryC P x y (P.C + 1) g 0).2.1, (tryC P x y (P.C + 1) g 0).2.2) := tryC_off (P := P) (x := x) (y := y) (P.C + 1) g c 0
    rw [tryA, ei, em, ed, hoff]
    by_cases d : (tryC P x y (P.C + 1) g 0).1 = true
    · rw [if_pos d]
      rw [if_pos d] at a3
      have e1 : f_X5_sift_32 G K4 (f_X5_sift_17 G K4 (n17 + 1)) (fu + 1) (nI c) v3 v4 (nI y) (nI x) s = f_X5_sift_32 G K4 (f_X5_sift_17 G K4 (n17 + 1)) fu (nI (c + (tryC P x y (P.C + 1) g 0).2.1)) v3 v4 (nI y) (nI (x + 1)) t := by
        rw [f_X5_sift_32, hc.2.1, if_neg (nI_ge hx (by omega)), a3, obs, if_neg (nI_m2 (by omega)), nI_add, nI_1]
      have hct := hc.x a1
      by_cases cx : x + 1 < P.W
      · obtain ⟨s', i1, i2, i3⟩ := ih (x + 1) y (c + (tryC P x y (P.C + 1) g 0).2.1) fu (n17 + 1) _ t (by omega) cx hy (by omega) hn17 (by omega) hct o1 (o5 d) a2
        refine ⟨s', a1.trans i1, i2, ?_⟩
        rw [e1]
        exact i3
      · have hxW : x + 1 = P.W := by omega
        have hy2 : y + 1 < P.H := by
          rcases Nat.lt_or_ge (y + 1) P.H with h | h
          · exact h
          · have : P.W * P.H ≤ P.W * (y + 1) := Nat.mul_le_mul_left _ h
            rw [Nat.mul_add, Nat.mul_one] at this
            omega
        obtain ⟨fu, rfl⟩ : ∃ z, fu = z + 1 := ⟨fu - 1, by omega⟩
        have e2 : f_X5_sift_32 G K4 (f_X5_sift_17 G K4 (n17 + 1)) (fu + 1) (nI (c + (tryC P x y (P.C + 1) g 0).2.1)) v3 v4 (nI y) (nI (x + 1)) t = f_X5_sift_32 G K4 (f_X5_sift_17 G K4 n17) FU (nI (c + (tryC P x y (P.C + 1) g 0).2.1)) v3 v4 (nI (y + 1)) (nI 0) t := by
          rw [hxW, f_X5_sift_32, hct.2.1, if_pos (nI_le (Nat.le_refl _) (by omega)), nI_1, f_X5_sift_17, hct.2.2.1, if_neg (nI_ge hy2 (by omega))]
          rfl
        obtain ⟨s', i1, i2, i3⟩ := ih 0 (y + 1) (c + (tryC P x y (P.C + 1) g 0).2.1) FU n17 _ t (by rw [Nat.mul_add, Nat.mul_one]; omega) (by omega) hy2 (by unfold FU; omega) (by omega) (by omega) hct o1 (o5 d) a2
        refine ⟨s', a1.trans i1, i2, ?_⟩
        rw [e1, e2]
        exact i3
    · rw [if_neg d]
      rw [if_neg d] at a3
      have df : (tryC P x y (P.C + 1) g 0).1 = false := by simpa using d
      refine ⟨t, a1, a2, Or.inl ⟨df, ?_⟩⟩
      rw [f_X5_sift_32, hc.2.1, if_neg (nI_ge hx (by omega)), a3, obs, if_pos rfl]
theorem sift4 (hG : sOK G q) (hq : q ≠ 28) : ∀ (f r c fu : Nat) (g : Gs) (s : St), szG P g < f → r + szG P g < 1000 → f ≤ fu → c + szG P g < 2 ^ 30 → Cz s P → setsOK P.W P.H P.C g → allR P g → hasWr (s.2.1 q) P.W P.H g → ∃ s', XFr q s s' ∧ hasWr (s'.2.1 q) P.W P.H (tryR P f g c).2.2 ∧ f_X5_sift_4 G fu (nI c) (nI r) s = some (if (tryR P f g c).1 = true then nI (tryR P f g c).2.1 else -2, s') := by
  intro f
  induction f with
  | zero => intro r c fu g s h; omega
  | succ f ih =>
    intro r c fu g s h hr1 hfu hcc hc hg hr hw
    obtain ⟨fu, rfl⟩ : ∃ z, fu = z + 1 := ⟨fu - 1, by omega⟩
    have hP := hc.1
    obtain ⟨⟨W1, W2⟩, ⟨H1, H2⟩, -⟩ := id hP
    obtain ⟨o1, o2, o3, o4, o5⟩ := tryA_ok hP (P.W * P.H) g c (Nat.le_refl _) hg hr
    have hWH : 1 ≤ P.W * P.H := Nat.mul_le_mul W1 H1
    obtain ⟨k, hk⟩ : ∃ k, P.W * P.H = k + 1 := ⟨P.W * P.H - 1, by omega⟩
    have e0 : f_X5_sift_4 G (fu + 1) (nI c) (nI r) s = f_X5_sift_32 G (f_X5_sift_4 G fu) (f_X5_sift_17 G (f_X5_sift_4 G fu) 4095) FU (nI c) (nI r) (nI c) (nI 0) (nI 0) s := by
      rw [f_X5_sift_4, if_neg (show ¬ (1000 : Int32) ≤ nI r from nI_ge (b := 1000) (by omega) (by omega)), show FU = 4095 + 1 from rfl, f_X5_sift_17, hc.2.2.1, if_neg (show ¬ nI P.H ≤ 0 from nI_nle (by omega) (by omega))]
      rfl
    obtain ⟨t, a1, a2, a3⟩ := sift32 (K4 := f_X5_sift_4 G fu) (v3 := nI r) (v4 := nI c) hG hq k 0 0 c FU 4095 g s (by omega) (by omega) (by omega) (by unfold FU; omega) (by omega) hcc hc hg hr hw
    rw [← hk] at a2 a3
    rw [tryR, e0]
    rcases a3 with ⟨j1, j2⟩ | ⟨j1, j2⟩
    · have nj : ¬ (tryA P (P.W * P.H) g c).1 = true := by rw [j1]; decide
      rw [if_neg nj, if_neg nj]
      exact ⟨t, a1, a2, j2⟩
    · rw [if_pos j1]
      by_cases e : (tryA P (P.W * P.H) g c).2.1 = c
      · rw [if_pos e, if_pos j1]
        refine ⟨t, a1, a2, ?_⟩
        rw [j2, if_pos (by rw [e])]
      · rw [if_neg e]
        obtain ⟨s', i1, i2, i3⟩ := ih (r + 1) (tryA P (P.W * P.H) g c).2.1 fu _ t (by omega) (by omega) (by omega) (by omega) (hc.x a1) o1 (o5 j1) a2
        refine ⟨s', a1.trans i1, i2, ?_⟩
        rw [j2, if_neg (fun z => e (nI_inj (by omega) (by omega) z)), nI_1]
        exact i3
def triesP (P : Pz) (g : Gs) : Bool × Nat × Gs := tryR P 600 g 0
theorem triesP_ok {g : Gs} (hP : P.ok) (hg : setsOK P.W P.H P.C g) (hr : allR P g) : tOK P g 0 (triesP P g) := by
  have := szG_le hP hg
  exact tryR_ok hP 600 g 0 (by omega) hg hr
theorem sift_ok {g : Gs} {s : St} (hG : sOK G q) (hq : q ≠ 28) (hc : Cz s P) (hg : setsOK P.W P.H P.C g) (hr : allR P g) (hw : hasWr (s.2.1 q) P.W P.H g) : ∃ s', XFr q s s' ∧ hasWr (s'.2.1 q) P.W P.H (triesP P g).2.2 ∧ f_X5_sift G s = some (if (triesP P g).1 = true then nI (triesP P g).2.1 else -2, s') := by
  have hs := szG_le hc.1 hg
  obtain ⟨s', a, b, c⟩ := sift4 hG hq 600 0 0 FU g s (by omega) (by omega) (by unfold FU; omega) (by omega) hc hg hr hw
  refine ⟨s', a, b, ?_⟩
  unfold f_X5_sift
  rw [if_neg (fun x => x hG.1)]
  exact c
end Sift2
