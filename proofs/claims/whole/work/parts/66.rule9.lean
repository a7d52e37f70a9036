/-! the model's LINE RULE -/
def Mz (s : St) (P : Pz) : Prop := P.ok ∧ s.1 43 1 = nI P.W ∧ s.1 43 2 = nI P.H ∧ s.1 43 3 = nI P.C ∧ ∀ l, l < P.L → s.1 44 l = nI (P.cn l) ∧ ∀ k, k < P.cn l → s.1 45 (12 * l + k) = nI (P.len l k) ∧ s.1 46 (12 * l + k) = nI (P.col l k)
def qOK (q base : Nat) : Prop := arT q = 1 ∧ (q ≠ 43 ∧ q ≠ 44 ∧ q ≠ 45 ∧ q ≠ 46 ∧ q ≠ 58 ∧ q ≠ 59) ∧ base + 144 ≤ arN q ∧ arN q < 2 ^ 31
def MFr (q base : Nat) (s s' : St) : Prop := (∀ a, a ≠ 58 → a ≠ 59 → a ≠ q → a ≠ 43 → s'.1 a = s.1 a) ∧ (∀ b, b ≠ 32 → b ≠ 33 → s'.1 43 b = s.1 43 b) ∧ (∀ a b, ¬ (a = 43 ∧ b = 36) → s'.2.1 a b = s.2.1 a b) ∧ ∀ j, (j < base ∨ base + 144 ≤ j) → s'.1 q j = s.1 q j
theorem MFr.rfl' {q base : Nat} {s : St} : MFr q base s s := ⟨fun _ _ _ _ _ => rfl, fun _ _ _ => rfl, fun _ _ _ => rfl, fun _ _ => rfl⟩
theorem MFr.trans {q base : Nat} {s t u : St} (h : MFr q base s t) (g : MFr q base t u) : MFr q base s u := ⟨fun a a1 a2 a3 a4 => (g.1 a a1 a2 a3 a4).trans (h.1 a a1 a2 a3 a4), fun b b1 b2 => (g.2.1 b b1 b2).trans (h.2.1 b b1 b2), fun a b c => (g.2.2.1 a b c).trans (h.2.2.1 a b c), fun j hj => (g.2.2.2 j hj).trans (h.2.2.2 j hj)⟩
theorem Mz.fr {q base : Nat} {s s' : St} {P : Pz} (h : Mz s P) (hq : qOK q base) (f : MFr q base s s') : Mz s' P := by
  obtain ⟨-, ⟨q1, q2, q3, q4, q5, q6⟩, -⟩ := hq
  unfold Mz
  rw [f.1 44 (by decide) (by decide) (fun e => q2 e.symm) (by decide), f.1 45 (by decide) (by decide) (fun e => q3 e.symm) (by decide), f.1 46 (by decide) (by decide) (fun e => q4 e.symm) (by decide), f.2.1 1 (by decide) (by decide), f.2.1 2 (by decide) (by decide), f.2.1 3 (by decide) (by decide)]
  exact h
theorem wysAt_congr {can can' : Nat → Nat → Bool} {sub sub' : Nat → List (Nat → Nat)} {z v g i n : Nat} (hv : v < 4) (hz : 1 ≤ z) (hc : ∀ c w, c < n → w < 4 → can c w = can' c w) (hs : ∀ j, sub j = sub' j) : ∀ m a, a + m + z ≤ n + 1 → wysAt can sub z v g i m a = wysAt can' sub' z v g i m a := by
  intro m
  induction m with
  | zero => intro a _; rfl
  | succ m ih =>
    intro a h
    have e : allC (fun c => can c v) a (a + z) = allC (fun c => can' c v) a (a + z) := by
      rw [Bool.eq_iff_iff, allC_iff, allC_iff]
      exact ⟨fun q c c1 c2 => by rw [← hc c v (by omega) hv]; exact q c c1 c2, fun q c c1 c2 => by rw [hc c v (by omega) hv]; exact q c c1 c2⟩
    rw [wysAt, wysAt, e, hc a 0 (by omega) (by omega), hs, ih (a + 1) (by omega)]
theorem wys_congr {n R : Nat} {len col : Nat → Nat} {can can' : Nat → Nat → Bool} (hl : ∀ k, k < R → 1 ≤ len k) (hcol : ∀ k, k < R → col k < 4) (hc : ∀ c w, c < n → w < 4 → can c w = can' c w) : ∀ k i, k ≤ R → wys n R len col can k i = wys n R len col can' k i := by
  intro k
  induction k with
  | zero =>
    intro i _
    have e : allC (fun c => can c 0) i n = allC (fun c => can' c 0) i n := by
      rw [Bool.eq_iff_iff, allC_iff, allC_iff]
      exact ⟨fun q c c1 c2 => by rw [← hc c 0 c2 (by omega)]; exact q c c1 c2, fun q c c1 c2 => by rw [hc c 0 c2 (by omega)]; exact q c c1 c2⟩
    rw [wys, wys, e]
  | succ k ih =>
    intro i hk
    rw [wys, wys]
    by_cases z : n + 1 - len (R - (k + 1)) - i = 0
    · rw [z]
      rfl
    · exact wysAt_congr (n := n) (hcol _ (by omega)) (hl _ (by omega)) hc (fun j => ih j (by omega)) _ _ (by omega)
theorem wysAt_len {can : Nat → Nat → Bool} {sub : Nat → List (Nat → Nat)} {z v g i B : Nat} (hs : ∀ j, (sub j).length ≤ B) : ∀ m a, (wysAt can sub z v g i m a).length ≤ m * B := by
  intro m
  induction m with
  | zero => intro a; simp [wysAt]
  | succ m ih =>
    intro a
    rw [wysAt, List.length_append, Nat.succ_mul]
    have h1 : (if (g = 0 ∨ i < a) ∧ allC (fun c => can c v) a (a + z) = true then (sub (a + z)).map (rowW a z v) else []).length ≤ B := by
      split
      · rw [List.length_map]; exact hs _
      · exact Nat.zero_le _
    have h2 : (if can a 0 = true then wysAt can sub z v g i m (a + 1) else []).length ≤ m * B := by
      split
      · exact ih _
      · exact Nat.zero_le _
    omega
theorem wys_len {n R : Nat} {len col : Nat → Nat} {can : Nat → Nat → Bool} (hn : n ≤ 12) : ∀ k i, (wys n R len col can k i).length ≤ 13 ^ k := by
  intro k
  induction k with
  | zero =>
    intro i
    rw [wys]
    split <;> simp
  | succ k ih =>
    intro i
    rw [wys]
    refine Nat.le_trans (wysAt_len ih _ _) ?_
    rw [Nat.pow_succ, Nat.mul_comm]
    exact Nat.mul_le_mul_left _ (by omega)
section Rule9
variable {s : St} {P : Pz} {g : Gs} {q base l : Nat}
theorem Mz.sizeOf (h : Mz s P) (hl : l < P.L) : f_X9_sizeOf (nI l) s = some (nI (P.n l), s) := by
  obtain ⟨⟨hW, hH, -⟩, w1, w2, -⟩ := h
  unfold f_X9_sizeOf
  rw [w1, w2]
  unfold Pz.n lnOf
  unfold Pz.L at hl
  by_cases c : l < P.H
  · rw [if_neg (nI_ge c (by omega)), if_pos c]
  · rw [if_pos (nI_le (by omega) (by omega)), if_neg c]
theorem Mz.cellOf (h : Mz s P) (hl : l < P.L) {p : Nat} (hp : p < P.n l) : f_X9_cellOf (nI l) (nI p) s = some (nI (12 * yL P l p + xL P l p), s) := by
  have hn := Pz.n_le (l := l) h.1
  obtain ⟨⟨hW, hH, -⟩, w1, w2, -⟩ := h
  unfold f_X9_cellOf
  unfold Pz.L at hl
  rw [w2, at12, at12]
  unfold xL yL
  by_cases z : l < P.H
  · simp only [if_pos z]
    rw [if_neg (nI_ge z (by omega))]
  · simp only [if_neg z]
    rw [if_pos (nI_le (by omega) (by omega)), pk_sub (by omega), show 12 * p + l - P.H = 12 * p + (l - P.H) by omega]
theorem cell_lt (hP : P.ok) (hl : l < P.L) {p : Nat} (hp : p < P.n l) : 12 * yL P l p + xL P l p < 144 ∧ xL P l p < 12 ∧ yL P l p < 12 := by
  have := (xy_on hl hp).1
  have h1 := this.1
  have h2 := this.2.1
  obtain ⟨a, b, -⟩ := hP
  omega
theorem Mz.Lc (h : Mz s P) (hq : qOK q base) (hl : l < P.L) (ho : s.2.2 = some q) (h32 : s.1 43 32 = nI base) (h33 : s.1 43 33 = nI l) (h16 : ∀ x y, x < P.W → y < P.H → g x y < 16) (hg : hasM s q base P.W P.H g) : Lc s q base P.W P.H l (P.n l) (P.cn l) (P.len l) (P.col l) (rowM g P.H l) := by
  obtain ⟨hP, w1, w2, w3, w4⟩ := id h
  obtain ⟨q1, ⟨q2, q3, q4, q5, q6, q7⟩, q8, q9⟩ := hq
  obtain ⟨hW, hH, hC, hk⟩ := id hP
  refine ⟨ho, q1, ⟨q6, q7⟩, q8, q9, h32, h33, w1, w2, ⟨hW.1, hW.2, hH.1, hH.2⟩, hl, rfl, (hk l hl).1, (w4 l hl).1, fun k kk => ⟨((hk l hl).2.2 k kk).1, ?_, (w4 l hl).2 k kk⟩, fun c hc => ?_⟩
  · have := ((hk l hl).2.2 k kk).2
    omega
  · have on := (xy_on hl hc).1
    rw [rowM_xy]
    refine ⟨h16 _ _ on.1 on.2.1, ?_⟩
    rw [← hg _ _ on.1 on.2.1]
    unfold xL yL
    by_cases c : l < P.H
    · simp only [if_pos c]
    · simp only [if_neg c]
theorem all23 : ∀ (m c fu : Nat) (t : St), 12 - c = m → c ≤ 12 → m < fu → ∃ t', f_X9_allWays_23 q fu (nI c) t = Option.bind (f_X9_lay LAYN 0 0 t') (fun s2 => some s2) ∧ (∀ a, a ≠ 59 → t'.1 a = t.1 a) ∧ t'.2 = t.2 ∧ ∀ d, d < 12 → t'.1 59 d = if c ≤ d then 0 else t.1 59 d := by
  intro m
  induction m with
  | zero =>
    intro c fu t h1 h2 h3
    obtain ⟨fu, rfl⟩ : ∃ z, fu = z + 1 := ⟨fu - 1, by omega⟩
    obtain rfl : c = 12 := by omega
    refine ⟨t, ?_, fun _ _ => rfl, rfl, fun d hd => by rw [if_neg (by omega)]⟩
    rw [f_X9_allWays_23, if_pos (by decide)]
  | succ m ih =>
    intro c fu t h1 h2 h3
    obtain ⟨fu, rfl⟩ : ∃ z, fu = z + 1 := ⟨fu - 1, by omega⟩
    rw [f_X9_allWays_23, if_neg (show ¬ (12 : Int32) ≤ nI c from nI_ge (b := 12) (by omega) (by omega)), pI_nI rfl (by show c < 12; omega) (by decide), obs, nI_1]
    obtain ⟨t', e1, e2, e3, e4⟩ := ih (c + 1) fu (sF t 59 c 0) (by omega) (by omega) (by omega)
    refine ⟨t', e1, fun a ha => by rw [e2 a ha, sF_ne ha], e3, fun d hd => ?_⟩
    rw [e4 d hd]
    by_cases x1 : c + 1 ≤ d
    · rw [if_pos x1, if_pos (by omega)]
    · rw [if_neg x1]
      by_cases x2 : d = c
      · rw [x2, sF_at, if_pos (Nat.le_refl _)]
      · rw [sF_nj x2, if_neg (by omega)]
theorem wy_eq (hP : P.ok) (hl : l < P.L) : wys (P.n l) (P.cn l) (P.len l) (P.col l) (fun c w => (rowM g P.H l c).testBit w) (P.cn l) 0 = wy P g l := by
  refine wys_congr (fun k hk => ((hP.2.2.2 l hl).2.2 k hk).1.1) (fun k hk => ?_) (fun c w hc hw => ?_) _ _ (Nat.le_refl _)
  · have := ((hP.2.2.2 l hl).2.2 k hk).2
    have := hP.2.2.1
    omega
  · unfold canM
    rw [decide_eq_true hc, decide_eq_true hw, Bool.true_and, Bool.true_and]
theorem allWays9 (h : Mz s P) (hq : qOK q base) (hl : l < P.L) (h16 : ∀ x y, x < P.W → y < P.H → g x y < 16) (hg : hasM s q base P.W P.H g) : ∃ s', f_X9_allWays q (nI base) (nI l) s = some s' ∧ MFr q base s s' ∧ s'.1 q = s.1 q ∧ s'.2.1 43 36 = lN (wy P g l).length ∧ ∀ d, d < P.n l → s'.1 59 d = nI (unN (wy P g l) d) := by
  have hP := h.1
  have hn := Pz.n_le (l := l) hP
  obtain ⟨q1, ⟨q2, q3, q4, q5, q6, q7⟩, q8, q9⟩ := id hq
  generalize ht0 : sL (sF (sF (sD s q) 43 32 (nI base)) 43 33 (nI l)) 43 36 0 = t0
  have f0 : (∀ a, a ≠ 43 → t0.1 a = s.1 a) ∧ (∀ b, b ≠ 32 → b ≠ 33 → t0.1 43 b = s.1 43 b) ∧ t0.1 43 32 = nI base ∧ t0.1 43 33 = nI l ∧ t0.2.1 43 36 = 0 ∧ (∀ a b, ¬ (a = 43 ∧ b = 36) → t0.2.1 a b = s.2.1 a b) ∧ t0.2.2 = some q := by
    rw [← ht0]
    refine ⟨fun a ha => ?_, fun b b1 b2 => ?_, ?_, ?_, ?_, fun a b hab => ?_, rfl⟩
    · rw [sL_F, sF_ne ha, sF_ne ha]; rfl
    · rw [sL_F, sF_nj b2, sF_nj b1]; rfl
    · rw [sL_F, sF_nj (by decide), sF_at]
    · rw [sL_F, sF_at]
    · rw [sL_get, if_pos ⟨rfl, rfl⟩]
    · rw [sL_get, if_neg hab]; rfl
  obtain ⟨f1, f2, f3, f4, f5, f6, f7⟩ := f0
  obtain ⟨t', e1, e2, e3, e4⟩ := all23 (q := q) 12 0 FU t0 rfl (by omega) (by unfold FU; omega)
  have fr1 : MFr q base s t' := ⟨fun a a1 a2 a3 a4 => by rw [e2 a a2, f1 a a4], fun b b1 b2 => by rw [e2 43 (by decide), f2 b b1 b2], fun a b hab => by rw [e3]; exact f6 a b hab, fun j _ => by rw [e2 q q7, f1 q q2]⟩
  have hq' : t'.1 q = s.1 q := by rw [e2 q q7, f1 q q2]
  have hM' := h.fr hq fr1
  have hg' : hasM t' q base P.W P.H g := by unfold hasM; rw [hq']; exact hg
  have hL : Lc t' q base P.W P.H l (P.n l) (P.cn l) (P.len l) (P.col l) (rowM g P.H l) := Mz.Lc hM' hq hl (by rw [e3]; exact f7) (by rw [e2 43 (by decide)]; exact f3) (by rw [e2 43 (by decide)]; exact f4) h16 hg'
  obtain ⟨s', u', g1, g2, g3, g4, g5⟩ := lay9 (P.cn l) 0 LAYN t' (fun _ => 0) (fun _ => 0) (Nat.le_refl _) (Nat.zero_le _) (by have := (hP.2.2.2 l hl).1; unfold LAYN; omega) hL (fun d hd => absurd hd (by omega)) (fun d hd => ⟨by rw [e4 d (by omega), if_pos (Nat.zero_le _)]; rfl, by omega⟩)
  rw [wy_eq hP hl] at g4 g5
  refine ⟨s', ?_, ?_, ?_, ?_, fun d hd => ?_⟩
  · unfold f_X9_allWays
    rw [obs, obs, obs, obs, ht0, n0, e1]
    show Option.bind (f_X9_lay LAYN (nI 0) (nI 0) t') _ = _
    rw [Nat.sub_self] at g1
    rw [g1]
    rfl
  · refine fr1.trans ⟨fun a a1 a2 a3 a4 => g2.1 a a1 a2, fun b _ _ => by rw [g2.1 43 (by decide) (by decide)], g2.2.1, fun j _ => by rw [g2.1 q q6 q7]⟩
  · rw [g2.1 q q6 q7, hq']
  · rw [g4, e3, f5]
    exact Int64.zero_add _
  · obtain ⟨a1, a2, a3⟩ := g5 d hd
    rw [a1]
    congr 1
    refine tb_ext a2 unN_lt (fun v hv => ?_)
    rw [a3 v hv, unN_bit hv, Nat.zero_testBit, Bool.false_or]
    simp only [Nat.not_lt_zero, if_false]
def narTo (P : Pz) (g : Gs) (l p : Nat) : Gs := fun x y => if onB P l x y && decide (posL P l x y < p) then unN (wy P g l) (posL P l x y) else g x y
theorem narTo_0 : narTo P g l 0 = g := by
  funext x y
  unfold narTo
  rw [decide_eq_false (by omega), Bool.and_false, if_neg (by decide)]
theorem narTo_n : narTo P g l (P.n l) = nar P g l := by
  funext x y
  by_cases c : onL P l x y
  · rw [nar_in c, narTo, onB_iff.mpr c, decide_eq_true (on_xy c).1]
    rfl
  · rw [nar_out c]
    unfold narTo
    rw [if_neg]
    intro h
    rw [Bool.and_eq_true] at h
    exact c (onB_iff.mp h.1)
theorem narTo_S {p : Nat} (hl : l < P.L) (hp : p < P.n l) (x y : Nat) : narTo P g l (p + 1) x y = if x = xL P l p ∧ y = yL P l p then unN (wy P g l) p else narTo P g l p x y := by
  have on := xy_on hl hp
  by_cases e : x = xL P l p ∧ y = yL P l p
  · rw [if_pos e, e.1, e.2, narTo, onB_iff.mpr on.1, on.2, decide_eq_true (by omega)]
    rfl
  · rw [if_neg e, narTo, narTo]
    by_cases c : onL P l x y
    · have h := on_xy c
      have hne : posL P l x y ≠ p := fun z => e ⟨by rw [← z]; exact h.2.1, by rw [← z]; exact h.2.2⟩
      by_cases d : posL P l x y < p
      · rw [decide_eq_true d, decide_eq_true (by omega)]
      · rw [decide_eq_false d, decide_eq_false (by omega)]
    · have : onB P l x y = false := by
        cases hb : onB P l x y
        · rfl
        · exact absurd (onB_iff.mp hb) c
      rw [this, Bool.false_and, Bool.false_and]
theorem narTo_at {p : Nat} (hl : l < P.L) (hp : p < P.n l) : narTo P g l p (xL P l p) (yL P l p) = rowM g P.H l p := by
  rw [rowM_xy, narTo, (xy_on hl hp).2, decide_eq_false (by omega), Bool.and_false, if_neg (by decide)]
theorem rule25 (hP : P.ok) (hq : qOK q base) (hl : l < P.L) (h16 : ∀ x y, x < P.W → y < P.H → g x y < 16) : ∀ (m p fu : Nat) (t : St), P.n l - p = m → p ≤ P.n l → m < fu → Mz t P → (∀ d, d < P.n l → t.1 59 d = nI (unN (wy P g l) d)) → hasM t q base P.W P.H (narTo P g l p) → ∃ t', f_X9_lineRule_25 q fu (nI base) (nI l) (nI (smL (chg P g l) p)) (nI p) t = some (nI (smL (chg P g l) (P.n l)), t') ∧ MFr q base t t' ∧ hasM t' q base P.W P.H (nar P g l) := by
  have hn := Pz.n_le (l := l) hP
  obtain ⟨q1, ⟨q2, q3, q4, q5, q6, q7⟩, q8, q9⟩ := id hq
  intro m
  induction m with
  | zero =>
    intro p fu t h1 h2 h3 h4 h5 h6
    obtain ⟨fu, rfl⟩ : ∃ z, fu = z + 1 := ⟨fu - 1, by omega⟩
    obtain rfl : p = P.n l := by omega
    rw [f_X9_lineRule_25, h4.sizeOf hl, obs, if_pos (nI_le (Nat.le_refl _) (by omega))]
    rw [narTo_n] at h6
    exact ⟨t, rfl, MFr.rfl', h6⟩
  | succ m ih =>
    intro p fu t h1 h2 h3 h4 h5 h6
    obtain ⟨fu, rfl⟩ : ∃ z, fu = z + 1 := ⟨fu - 1, by omega⟩
    have hp : p < P.n l := by omega
    have on := (xy_on hl hp).1
    have hc := cell_lt hP hl hp
    rw [f_X9_lineRule_25, h4.sizeOf hl, obs, if_neg (nI_ge hp (by omega)), h4.cellOf hl hp, obs]
    show ∃ t', Option.bind (aI t q (nI base + nI (12 * yL P l p + xL P l p))) _ = _ ∧ _
    rw [nI_add, aI_nI q1 (by omega) q9, obs, h6 _ _ on.1 on.2.1, narTo_at hl hp, aI_nI rfl (by show p < 12; omega) (by decide), obs, h5 p hp]
    have hr : rowM g P.H l p < 16 := by rw [rowM_xy]; exact h16 _ _ on.1 on.2.1
    have hu : unN (wy P g l) p < 16 := unN_lt
    have hs : smL (chg P g l) (p + 1) = smL (chg P g l) p + chg P g l p := rfl
    by_cases e : rowM g P.H l p = unN (wy P g l) p
    · have hc0 : chg P g l p = 0 := by unfold chg; rw [if_pos e]
      rw [if_pos (congrArg nI e), f_X9_lineRule_77, nI_1]
      have hs0 : smL (chg P g l) p = smL (chg P g l) (p + 1) := by rw [hs, hc0]; rfl
      rw [hs0]
      refine ih (p + 1) fu t (by omega) (by omega) (by omega) h4 h5 (fun x y hx hy => ?_)
      rw [narTo_S hl hp]
      by_cases c : x = xL P l p ∧ y = yL P l p
      · rw [if_pos c, ← e, ← narTo_at hl hp, c.1, c.2]
        exact h6 _ _ on.1 on.2.1
      · rw [if_neg c]
        exact h6 x y hx hy
    · have hc1 : chg P g l p = 1 := by unfold chg; rw [if_neg e]
      rw [if_neg (fun x => e (nI_inj (by omega) (by omega) x)), obs, pI_nI q1 (by omega) q9, obs, f_X9_lineRule_77, nI_1, nI_1]
      rw [hc1] at hs
      rw [← hs]
      have fr : MFr q base t (sF t q (base + (12 * yL P l p + xL P l p)) (nI (unN (wy P g l) p))) := ⟨fun a a1 a2 a3 a4 => sF_ne a3, fun b _ _ => by rw [sF_ne (fun e => q2 e.symm)], fun _ _ _ => rfl, fun j hj => sF_nj (by omega)⟩
      obtain ⟨t', g1, g2, g3⟩ := ih (p + 1) fu _ (by omega) (by omega) (by omega) (h4.fr hq fr) (fun d hd => by rw [sF_ne (fun e => q7 e.symm)]; exact h5 d hd) (fun x y hx hy => by
        rw [narTo_S hl hp]
        obtain ⟨hW, hH, -⟩ := id hP
        by_cases c : x = xL P l p ∧ y = yL P l p
        · rw [if_pos c, c.1, c.2, sF_at]
        · rw [if_neg c, sF_nj (by omega)]
          exact h6 x y hx hy)
      exact ⟨t', g1, fr.trans g2, g3⟩
theorem lN_ne0 {n : Nat} (hn : n < 2 ^ 63) : lN n = 0 ↔ n = 0 := by
  constructor
  · intro h
    have := congrArg (fun x : Int64 => x.toBitVec.toNat) h
    rw [wb_tn (by omega)] at this
    exact this
  · intro h
    rw [h]
    rfl
theorem wy_len (hP : P.ok) (hl : l < P.L) : (wy P g l).length < 2 ^ 63 := by
  have := wys_len (R := P.cn l) (len := P.len l) (col := P.col l) (can := canM (P.n l) (rowM g P.H l)) (Pz.n_le (l := l) hP).2 (P.cn l) 0
  have h2 := (hP.2.2.2 l hl).1
  have h3 : 13 ^ P.cn l ≤ 13 ^ 12 := Nat.pow_le_pow_right (by decide) h2
  have h4 : 13 ^ 12 < 2 ^ 63 := by decide
  unfold wy
  omega
theorem lineRule9 (h : Mz s P) (hq : qOK q base) (hl : l < P.L) (h16 : ∀ x y, x < P.W → y < P.H → g x y < 16) (hg : hasM s q base P.W P.H g) : ∃ s', MFr q base s s' ∧ (((∀ w, ¬ w ∈ wy P g l) ∧ f_X9_lineRule q (nI base) (nI l) s = some (-2, s') ∧ hasM s' q base P.W P.H g) ∨ ((∃ w, w ∈ wy P g l) ∧ f_X9_lineRule q (nI base) (nI l) s = some (nI (smL (chg P g l) (P.n l)), s') ∧ hasM s' q base P.W P.H (nar P g l))) := by
  have hP := h.1
  obtain ⟨t, e1, e2, e3, e4, e5⟩ := allWays9 h hq hl h16 hg
  have hg' : hasM t q base P.W P.H g := by unfold hasM; rw [e3]; exact hg
  unfold f_X9_lineRule
  rw [e1, obs, e4]
  by_cases c : wy P g l = []
  · refine ⟨t, e2, Or.inl ⟨fun w => by rw [c]; simp, ?_, hg'⟩⟩
    rw [c, if_pos (by decide)]
  · have hc : ∃ w, w ∈ wy P g l := by
      cases hw : wy P g l with
      | nil => exact absurd hw c
      | cons w ws => exact ⟨w, by simp⟩
    obtain ⟨t', g1, g2, g3⟩ := rule25 (g := g) hP hq hl h16 (P.n l) 0 FU t (by omega) (Nat.zero_le _) (by have := Pz.n_le (l := l) hP; unfold FU; omega) (h.fr hq e2) e5 (by rw [narTo_0]; exact hg')
    refine ⟨t', e2.trans g2, Or.inr ⟨hc, ?_, g3⟩⟩
    rw [if_neg]
    · exact g1
    · intro x
      have := (lN_ne0 (wy_len hP hl)).mp ((lg0 _).mp x)
      exact c (List.length_eq_zero_iff.mp this)
end Rule9
