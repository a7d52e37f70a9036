/-! countWays of the class -/
theorem bitT {x : Int32} {a : Nat} (ha : a < 32) : (((x.toUInt32 >>> ((nI a).toUInt32 &&& Int32.toUInt32 31)).toInt32) &&& (1 : Int32)) = if bt x a then 1 else 0 := by
  refine b_ext (fun i hi => ?_)
  rw [b_and, b_ushr a ha, b_1]
  by_cases e : i = 0
  · subst e
    rw [Nat.add_zero]
    cases bt x a <;> rfl
  · rw [decide_eq_false e, Bool.and_false]
    cases bt x a
    · rw [if_neg (by decide), b_0]
    · rw [if_pos rfl, b_1, decide_eq_false e]
theorem cmp13 : ∀ i, i < 13 → ∀ z, z < 13 → ∀ g, g < 2 → (nI i - nI z < nI g ↔ i < z + g) := by decide +kernel
def WFr (s s' : St) : Prop := s'.1 = s.1 ∧ (∀ a, a ≠ 19 → a ≠ 20 → s'.2.1 a = s.2.1 a) ∧ s'.2.2 = s.2.2
theorem WFr.rfl' {s : St} : WFr s s := ⟨rfl, fun _ _ _ => rfl, rfl⟩
theorem WFr.trans {s t u : St} (h : WFr s t) (g : WFr t u) : WFr s u := ⟨g.1.trans h.1, fun a a1 a2 => (g.2.1 a a1 a2).trans (h.2.1 a a1 a2), g.2.2.trans h.2.2⟩
theorem sL_at {s : St} {k j : Nat} {v : Int64} : (sL s k j v).2.1 k j = v := by rw [sL_get, if_pos ⟨rfl, rfl⟩]
theorem sL_nj {s : St} {k j b : Nat} {v : Int64} (h : b ≠ j) : (sL s k j v).2.1 k b = s.2.1 k b := by rw [sL_get, if_neg (fun x => h x.2)]
theorem sL_ne {s : St} {k j a : Nat} {v : Int64} (h : a ≠ k) : (sL s k j v).2.1 a = s.2.1 a := by funext b; rw [sL_get, if_neg (fun x => h x.1)]
theorem WFr.s19 {s : St} {j : Nat} {v : Int64} : WFr s (sL s 19 j v) := ⟨rfl, fun a h1 _ => sL_ne h1, rfl⟩
theorem WFr.s20 {s : St} {j : Nat} {v : Int64} : WFr s (sL s 20 j v) := ⟨rfl, fun a _ h1 => sL_ne h1, rfl⟩
theorem Kc.w {s s' : St} {W H C l n R : Nat} {len col : Nat → Nat} (h : Kc s W H C l n R len col) (g : WFr s s') : Kc s' W H C l n R len col := by
  unfold Kc cSize
  rw [g.1]
  exact h
section Ways
variable {W H C l n R : Nat} {len col mk : Nat → Nat} {x : Int64} {y : Int32}
theorem run79 {k gp : Nat} {v8 : Int32} (hk : k < R) (hgp : gp = if gapR col k = 1 then 1 else 0) (hy : ∀ c, bt y c = canM n mk c 0) (h8 : ∀ a, a < 32 → (bt v8 a = true ↔ allC (fun c => canM n mk c (col k)) a (a + len k) = true ∧ (gp = 1 → 1 ≤ a ∧ canM n mk (a - 1) 0 = true))) : ∀ (m i fu : Nat) (s : St), Kc s W H C l n R len col → n + 1 - i = m → i ≤ n + 1 → m < fu → (∀ j, j ≤ n → s.2.1 19 j = lN (Bc (canM n mk) (Ec len col (canM n mk) k) j)) → (∀ j, j < i → s.2.1 20 j = lN (Bc (canM n mk) (Ec len col (canM n mk) (k + 1)) j)) → ∃ s', f_X3_countRun_79 fu (nI l) y (nI (len k)) (nI gp) v8 (nI i) s = some s' ∧ WFr s s' ∧ s'.2.1 19 = s.2.1 19 ∧ ∀ j, j ≤ n → s'.2.1 20 j = lN (Bc (canM n mk) (Ec len col (canM n mk) (k + 1)) j) := by
  intro m
  induction m with
  | zero =>
    intro i fu s hK h1 h2 h3 h4 h5
    obtain ⟨fu, rfl⟩ : ∃ z, fu = z + 1 := ⟨fu - 1, by omega⟩
    have hn := hK.le12
    obtain ⟨hz, hl, hnn, -⟩ := id hK
    refine ⟨s, ?_, WFr.rfl', rfl, fun j hj => h5 j (by omega)⟩
    rw [f_X3_countRun_79, cellsOf0 hz (by omega), obs, ← hnn, if_pos (nI_lt (by omega) (by omega))]
  | succ m ih =>
    intro i fu s hK h1 h2 h3 h4 h5
    obtain ⟨fu, rfl⟩ : ∃ z, fu = z + 1 := ⟨fu - 1, by omega⟩
    have hn := hK.le12
    obtain ⟨hz, hl, hnn, hR, k4, k5⟩ := id hK
    obtain ⟨q1, q2, q3, q4⟩ := k5 k hk
    have hgp1 : gp < 2 := by rw [hgp]; split <;> omega
    have hi : i ≤ n := by omega
    -- what follows once the value carried over is known
    have go : ∀ v : Int64, v = lN (Bl (canM n mk) (Ec len col (canM n mk) (k + 1)) i) → ∃ s', f_X3_countRun_129 (f_X3_countRun_79 fu) (nI l) y (nI (len k)) (nI gp) v8 (nI i) v (nI i) s = some s' ∧ WFr s s' ∧ s'.2.1 19 = s.2.1 19 ∧ ∀ j, j ≤ n → s'.2.1 20 j = lN (Bc (canM n mk) (Ec len col (canM n mk) (k + 1)) j) := by
      rintro v rfl
      have nx : ∀ (t : St), WFr s t → t.2.1 19 = s.2.1 19 → (∀ j, j < i → t.2.1 20 j = s.2.1 20 j) → t.2.1 20 i = lN (Bl (canM n mk) (Ec len col (canM n mk) (k + 1)) i + Ec len col (canM n mk) (k + 1) i) → ∃ s', f_X3_countRun_175 (f_X3_countRun_79 fu) (nI l) y (nI (len k)) (nI gp) v8 (nI i) t = some s' ∧ WFr s s' ∧ s'.2.1 19 = s.2.1 19 ∧ ∀ j, j ≤ n → s'.2.1 20 j = lN (Bc (canM n mk) (Ec len col (canM n mk) (k + 1)) j) := by
        intro t t1 t2 t3 t4
        rw [f_X3_countRun_175, nI_1]
        obtain ⟨s', e1, e2, e3, e4⟩ := ih (i + 1) fu t (hK.w t1) (by omega) (by omega) (by omega) (fun j hj => by rw [t2]; exact h4 j hj) (fun j hj => by
          by_cases e : j = i
          · rw [e, t4, Bc_Bl]
          · rw [t3 j (by omega)]
            exact h5 j (by omega))
        exact ⟨s', e1, t1.trans e2, e3.trans t2, e4⟩
      unfold f_X3_countRun_129
      rw [pJ_nI rfl (by show i < 13; omega) (by decide), obs]
      by_cases c1 : i < len k + gp
      · rw [if_pos ((cmp13 i (by omega) (len k) (by omega) gp hgp1).mpr c1)]
        refine nx _ WFr.s20 (sL_ne (by decide)) (fun j hj => sL_nj (by omega)) ?_
        rw [sL_at]
        have : Ec len col (canM n mk) (k + 1) i = 0 := by
          rw [Ec]
          by_cases c2 : len k ≤ i ∧ allC (fun c => canM n mk c (col k)) (i - len k) i = true
          · have g1 : gapR col k = 1 := by
              by_cases g : gapR col k = 1
              · exact g
              · rw [if_neg g] at hgp
                omega
            rw [if_pos c2, if_pos g1]
            rw [if_pos g1] at hgp
            rw [show i - len k = 0 by omega]
            rfl
          · rw [if_neg c2]
        rw [this]
        rfl
      · rw [if_neg (fun q => c1 ((cmp13 i (by omega) (len k) (by omega) gp hgp1).mp q)), pk_sub (by omega), bitT (by omega)]
        have h8' := h8 (i - len k) (by omega)
        rw [show i - len k + len k = i by omega] at h8'
        by_cases c2 : bt v8 (i - len k) = true
        · rw [if_pos c2, if_pos rfl]
          obtain ⟨d1, d2⟩ := h8'.mp c2
          rw [aJ_nI rfl (by show i < 13; omega) (by decide), obs, pk_sub (by omega), aJ_nI rfl (by show _ < 13; omega) (by decide), obs, pJ_nI rfl (by show i < 13; omega) (by decide), obs]
          refine nx _ (WFr.s20.trans WFr.s20) (by rw [sL_ne (by decide), sL_ne (by decide)]) (fun j hj => by rw [sL_nj (by omega), sL_nj (by omega)]) ?_
          rw [sL_at, sL_at, sL_ne (by decide), h4 _ (by omega), lN_add]
          congr 2
          rw [Ec, if_pos ⟨by omega, d1⟩]
          by_cases g : gapR col k = 1
          · rw [if_pos g] at hgp ⊢
            obtain ⟨d3, d4⟩ := d2 hgp
            obtain ⟨b, hb⟩ : ∃ b, i - len k = b + 1 := ⟨i - len k - 1, by omega⟩
            rw [hb] at d4 ⊢
            rw [Bl, if_pos (show canM n mk b 0 = true from d4), hgp]
            rfl
          · rw [if_neg g] at hgp ⊢
            rw [hgp]
            rfl
        · rw [if_neg c2, if_neg (by decide)]
          refine nx _ WFr.s20 (sL_ne (by decide)) (fun j hj => sL_nj (by omega)) ?_
          rw [sL_at]
          have : Ec len col (canM n mk) (k + 1) i = 0 := by
            rw [Ec]
            by_cases c3 : len k ≤ i ∧ allC (fun c => canM n mk c (col k)) (i - len k) i = true
            · rw [if_pos c3]
              by_cases g : gapR col k = 1
              · rw [if_pos g] at hgp ⊢
                obtain ⟨b, hb⟩ : ∃ b, i - len k = b + 1 := ⟨i - len k - 1, by omega⟩
                rw [hb] at h8' ⊢
                rw [Bl, if_neg]
                intro d4
                exact c2 (by rw [hb]; exact h8'.mpr ⟨by rw [← hb]; exact c3.2, fun _ => ⟨by omega, d4⟩⟩)
              · exact absurd (h8'.mpr ⟨c3.2, fun q => by rw [if_neg g] at hgp; omega⟩) c2
            · rw [if_neg c3]
          rw [this]
          rfl
    rw [f_X3_countRun_79, cellsOf0 hz (by omega), obs, ← hnn, if_neg (nI_nlt (by omega) (by omega))]
    by_cases c0 : i = 0
    · subst c0
      rw [if_pos (by decide)]
      exact go 0 rfl
    · obtain ⟨b, rfl⟩ : ∃ b, i = b + 1 := ⟨i - 1, by omega⟩
      rw [if_neg (nI_nle (by omega) (by omega)), nI_sub1 (by omega), show b + 1 - 1 = b from rfl, bitT (by omega)]
      by_cases c1 : bt y b = true
      · rw [if_pos c1, if_pos rfl]
        show ∃ s', Option.bind (aJ s 20 (nI b)) _ = _ ∧ _
        rw [aJ_nI rfl (by show b < 13; omega) (by decide), obs]
        refine go _ ?_
        rw [h5 b (by omega), Bl, if_pos (by rw [← hy]; exact c1)]
      · rw [if_neg c1, if_neg (by decide), f_X3_countRun_128]
        refine go 0 ?_
        rw [Bl, if_neg (by rw [← hy]; exact c1)]
        rfl
theorem countRun3 {k : Nat} {s : St} (hK : Kc s W H C l n R len col) (hx : ∀ i, i < 64 → jb x i = wbit mk n i) (hk : k < R) (h4 : ∀ j, j ≤ n → s.2.1 19 j = lN (Bc (canM n mk) (Ec len col (canM n mk) k) j)) : ∃ s', f_X3_countRun (nI l) (nI k) x s = some s' ∧ WFr s s' ∧ ∀ j, j ≤ n → s'.2.1 20 j = lN (Bc (canM n mk) (Ec len col (canM n mk) (k + 1)) j) := by
  have hn := hK.le12
  obtain ⟨hz, hl, hnn, hR, k4, k5⟩ := id hK
  obtain ⟨q1, q2, q3, q4⟩ := k5 k hk
  obtain ⟨y, y1, y2⟩ := cellsW (x := x) (v := 0) (s := s) (by omega)
  have hy : ∀ c, bt y c = canM n mk c 0 := canM_bits (by omega) hn.2.1 hx y2
  obtain ⟨z, z1, z2⟩ := cellsW (x := x) (v := col k) (s := s) (by omega)
  have hzc : ∀ c, bt z c = canM n mk c (col k) := canM_bits (by omega) hn.2.1 hx z2
  obtain ⟨u, u1, u2⟩ := stretch (x := z) (z := len k) (s := s) q1.1 q1.2
  have hu : ∀ a, bt u a = true ↔ allC (fun c => canM n mk c (col k)) a (a + len k) = true := by
    intro a
    rw [u2 a, allC_iff]
    exact ⟨fun q c c1 c2 => by rw [← hzc]; exact q c c1 c2, fun q c c1 c2 => by rw [hzc]; exact q c c1 c2⟩
  unfold f_X3_countRun
  show ∃ s', Option.bind (f_X3_cellsWith x (nI 0) s) _ = _ ∧ _
  rw [y1, obs]
  show ∃ s', Option.bind (f_X0_lengthOf 3 (nI l) (nI k) s) _ = _ ∧ _
  rw [lengthOf0 rfl rfl rfl (by omega), obs, show rf 3 1 = 5 from rfl, q3]
  show ∃ s', Option.bind (f_X0_needsGapAhead 3 (nI l) (nI k) s) _ = _ ∧ _
  rw [gap0 hK (by omega), obs]
  have rest : ∀ gp : Nat, (gp = if gapR col k = 1 then 1 else 0) → ∃ s', f_X3_countRun_35 (nI l) (nI k) x y (nI (len k)) (nI gp) s = some s' ∧ WFr s s' ∧ ∀ j, j ≤ n → s'.2.1 20 j = lN (Bc (canM n mk) (Ec len col (canM n mk) (k + 1)) j) := by
    intro gp hgp
    unfold f_X3_countRun_35
    rw [colourOf0 rfl rfl rfl (by omega), obs, show rf 3 2 = 6 from rfl, q4]
    show ∃ s', Option.bind (f_X3_cellsWith x (nI (col k)) s) _ = _ ∧ _
    rw [z1, obs]
    show ∃ s', Option.bind (f_X3_stretches z (nI (len k)) s) _ = _ ∧ _
    rw [u1, obs]
    have fin : ∀ v8 : Int32, (∀ a, a < 32 → (bt v8 a = true ↔ allC (fun c => canM n mk c (col k)) a (a + len k) = true ∧ (gp = 1 → 1 ≤ a ∧ canM n mk (a - 1) 0 = true))) → ∃ s', f_X3_countRun_79 FU (nI l) y (nI (len k)) (nI gp) v8 (nI 0) s = some s' ∧ WFr s s' ∧ ∀ j, j ≤ n → s'.2.1 20 j = lN (Bc (canM n mk) (Ec len col (canM n mk) (k + 1)) j) := by
      intro v8 h8
      obtain ⟨s', e1, e2, e3, e4⟩ := run79 hk hgp hy h8 (n + 1) 0 FU s hK (by omega) (by omega) (by unfold FU; omega) h4 (fun j hj => absurd hj (by omega))
      exact ⟨s', e1, e2, e4⟩
    by_cases g : gapR col k = 1
    · rw [if_pos g] at hgp
      subst hgp
      rw [if_neg (by decide), f_X3_countRun_73]
      refine fin _ (fun a ha => ?_)
      rw [b_and, Bool.and_eq_true, hu a, show ((1 : Int32) &&& 31) = (nI 1 &&& 31) from rfl, b_shl 1 (by omega) _ ha, Bool.and_eq_true, decide_eq_true_eq, hy]
      exact ⟨fun q => ⟨q.1, fun _ => q.2⟩, fun q => ⟨q.1, q.2 rfl⟩⟩
    · rw [if_neg g] at hgp
      subst hgp
      rw [if_pos (show nI 0 = 0 from rfl), f_X3_countRun_73]
      refine fin _ (fun a ha => ?_)
      rw [b_and, Bool.and_eq_true, hu a]
      exact ⟨fun q => ⟨q.1, fun z => absurd z (by omega)⟩, fun q => ⟨q.1, q.1⟩⟩
  by_cases g : gapR col k = 1
  · have gg : k < R ∧ gapR col k = 1 := ⟨hk, g⟩
    rw [if_pos gg, if_neg nz]
    exact rest 1 (by rw [if_pos g])
  · have gg : ¬ (k < R ∧ gapR col k = 1) := fun q => g q.2
    rw [if_neg gg, if_pos rfl]
    exact rest 0 (by rw [if_neg g])
theorem cpJ0 {s : St} {a b m : Nat} (ha : arT a = 3) (hb : arT b = 3) (h1 : m ≤ arN a) (h2 : m ≤ arN b) (hm : m < 2 ^ 31) : cpJ s a 0 b 0 (nI m) = some (sRowL s b (fun j => if j < m then s.2.1 a j else s.2.1 b j)) := by
  unfold cpJ
  have hok : cpOK 0 0 (nI m) a b = true := by
    unfold cpOK
    rw [nI_clamp hm, show (0 : Int32).toNatClampNeg = 0 from rfl]
    simp only [Bool.and_eq_true, decide_eq_true_eq]
    exact ⟨⟨⟨⟨by decide, by decide⟩, nI_pos' hm⟩, by omega⟩, by omega⟩
  rw [if_pos ⟨⟨ha, hb⟩, hok⟩, nI_clamp hm, show (0 : Int32).toNatClampNeg = 0 from rfl]
  congr 2
  funext j
  unfold va_cpy
  by_cases c : j < m
  · rw [if_pos ⟨Nat.zero_le _, by omega⟩, if_pos c, Nat.zero_add, Nat.sub_zero]
  · rw [if_neg (by omega), if_neg c]
theorem ways75 (hx : ∀ i, i < 64 → jb x i = wbit mk n i) : ∀ (m k fu : Nat) (s : St), Kc s W H C l n R len col → R - k = m → k ≤ R → m < fu → (∀ j, j ≤ n → s.2.1 19 j = lN (Bc (canM n mk) (Ec len col (canM n mk) k) j)) → ∃ s', f_X3_countWays_75 fu (nI l) x (nI n) (nI k) s = some (lN (Bc (canM n mk) (Ec len col (canM n mk) R) n), s') ∧ WFr s s' := by
  intro m
  induction m with
  | zero =>
    intro k fu s hK h1 h2 h3 h4
    obtain ⟨fu, rfl⟩ : ∃ z, fu = z + 1 := ⟨fu - 1, by omega⟩
    have hn := hK.le12
    obtain ⟨hz, hl, hnn, hR, k4, k5⟩ := id hK
    obtain rfl : k = R := by omega
    refine ⟨s, ?_, WFr.rfl'⟩
    rw [f_X3_countWays_75, aI_nI rfl (by show l < 24; omega) (by decide), obs, k4, if_pos (nI_le (Nat.le_refl _) (by omega)), aJ_nI rfl (by show n < 13; omega) (by decide), obs, h4 n (Nat.le_refl _)]
  | succ m ih =>
    intro k fu s hK h1 h2 h3 h4
    obtain ⟨fu, rfl⟩ : ∃ z, fu = z + 1 := ⟨fu - 1, by omega⟩
    have hn := hK.le12
    obtain ⟨hz, hl, hnn, hR, k4, k5⟩ := id hK
    obtain ⟨t, e1, e2, e3⟩ := countRun3 hK hx (show k < R by omega) h4
    rw [f_X3_countWays_75, aI_nI rfl (by show l < 24; omega) (by decide), obs, k4, if_neg (nI_ge (by omega) (by omega)), e1, obs, nI_1, cpJ0 (a := 20) (b := 19) rfl rfl (by show n + 1 ≤ 13; omega) (by show n + 1 ≤ 13; omega) (by omega), obs, nI_1]
    have fr : WFr s (sRowL t 19 (fun j => if j < n + 1 then t.2.1 20 j else t.2.1 19 j)) := e2.trans ⟨rfl, fun a a1 _ => sRowL_ne a1, rfl⟩
    obtain ⟨s', f1, f2⟩ := ih (k + 1) fu _ (hK.w fr) (by omega) (by omega) (by omega) (fun j hj => by rw [sRowL_row, if_pos (by omega)]; exact e3 j hj)
    exact ⟨s', f1, fr.trans f2⟩
theorem ways27 (hx : ∀ i, i < 64 → jb x i = wbit mk n i) (hy : ∀ c, bt y c = canM n mk c 0) : ∀ (m i fu : Nat) (s : St), Kc s W H C l n R len col → n + 1 - i = m → 1 ≤ i → i ≤ n + 1 → m < fu → (∀ j, j < i → s.2.1 19 j = lN (Bc (canM n mk) (Ec len col (canM n mk) 0) j)) → ∃ s', f_X3_countWays_27 fu (nI l) x (nI n) y (nI i) s = some (lN (Bc (canM n mk) (Ec len col (canM n mk) R) n), s') ∧ WFr s s' := by
  intro m
  induction m with
  | zero =>
    intro i fu s hK h1 h0 h2 h3 h4
    obtain ⟨fu, rfl⟩ : ∃ z, fu = z + 1 := ⟨fu - 1, by omega⟩
    have hn := hK.le12
    rw [f_X3_countWays_27, if_pos (nI_lt (by omega) (by omega))]
    obtain ⟨hz, hl, hnn, hR, k4, k5⟩ := id hK
    exact ways75 hx R 0 FU s hK (by omega) (Nat.zero_le _) (by unfold FU; omega) (fun j hj => h4 j (by omega))
  | succ m ih =>
    intro i fu s hK h1 h0 h2 h3 h4
    obtain ⟨fu, rfl⟩ : ∃ z, fu = z + 1 := ⟨fu - 1, by omega⟩
    have hn := hK.le12
    obtain ⟨b, rfl⟩ : ∃ b, i = b + 1 := ⟨i - 1, by omega⟩
    have e0 : Bc (canM n mk) (Ec len col (canM n mk) 0) (b + 1) = if canM n mk b 0 = true then Bc (canM n mk) (Ec len col (canM n mk) 0) b else 0 := by
      rw [Bc, show Ec len col (canM n mk) 0 (b + 1) = 0 from if_neg (by omega)]
      rfl
    rw [f_X3_countWays_27, if_neg (nI_nlt (by omega) (by omega)), nI_sub1 (by omega), show b + 1 - 1 = b from rfl, bitT (by omega)]
    have go : ∀ v : Int64, v = lN (Bc (canM n mk) (Ec len col (canM n mk) 0) (b + 1)) → ∃ s', f_X3_countWays_65 (f_X3_countWays_27 fu) (nI l) x (nI n) y (nI (b + 1)) v (nI (b + 1)) s = some (lN (Bc (canM n mk) (Ec len col (canM n mk) R) n), s') ∧ WFr s s' := by
      rintro v rfl
      rw [f_X3_countWays_65, pJ_nI rfl (by show b + 1 < 13; omega) (by decide), obs, nI_1]
      obtain ⟨s', f1, f2⟩ := ih (b + 1 + 1) fu _ (hK.w WFr.s19) (by omega) (by omega) (by omega) (by omega) (fun j hj => by
        by_cases e : j = b + 1
        · rw [e, sL_at]
        · rw [sL_nj e]
          exact h4 j (by omega))
      exact ⟨s', f1, WFr.s19.trans f2⟩
    by_cases c : bt y b = true
    · rw [if_pos c, if_neg (by decide), aJ_nI rfl (by show b < 13; omega) (by decide), obs]
      refine go _ ?_
      rw [h4 b (by omega), e0, if_pos (by rw [← hy]; exact c)]
    · rw [if_neg c, if_pos rfl]
      refine go _ ?_
      rw [e0, if_neg (by rw [← hy]; exact c)]
      rfl
theorem countWays3 {s : St} (hK : Kc s W H C l n R len col) (hx : ∀ i, i < 64 → jb x i = wbit mk n i) : ∃ s', f_X3_countWays (nI l) x s = some (lN (wys n R len col (canM n mk) R 0).length, s') ∧ WFr s s' := by
  have hn := hK.le12
  obtain ⟨hz, hl, hnn, hR, k4, k5⟩ := id hK
  obtain ⟨y, y1, y2⟩ := cellsW (x := x) (v := 0) (s := s) (by omega)
  have hy : ∀ c, bt y c = canM n mk c 0 := canM_bits (by omega) hn.2.1 hx y2
  unfold f_X3_countWays
  rw [cellsOf0 hz (by omega), obs, ← hnn]
  show ∃ s', Option.bind (f_X3_cellsWith x (nI 0) s) _ = _ ∧ _
  rw [y1, obs]
  show ∃ s', Option.bind (pJ s 19 (nI 0) 1) _ = _ ∧ _
  rw [pJ_nI rfl (by show 0 < 13; omega) (by decide), obs]
  obtain ⟨s', f1, f2⟩ := ways27 hx hy n 1 FU _ (hK.w (WFr.s19 (j := 0) (v := 1))) (by omega) (by omega) (by omega) (by unfold FU; omega) (fun j hj => by
    obtain rfl : j = 0 := by omega
    rw [sL_at]
    rfl)
  refine ⟨s', ?_, WFr.s19.trans f2⟩
  rw [Bc_ways (fun k hk => (k5 k hk).1.1) (fun c v h => canM_n h)] at f1
  exact f1
end Ways
theorem Cz.w {s s' : St} {P : Pz} (h : Cz s P) (g : WFr s s') : Cz s' P := h.fr (by rw [g.1]) (by rw [g.1]) (by rw [g.1]) (by rw [g.1])
theorem st_ways {s : St} (hI : Inv s) (x : Int32) : Step (f_X8_ways x) (f_X9_ways x) s := by
  obtain ⟨h1, h2, W, H, C, hz, hs, hf, hr⟩ := id hI
  have hle := hz.2.2.2.2.2.2.le
  obtain ⟨q1, q2⟩ := hs
  rcases line_or hz.2.2.2.2.2.2 x with h | ⟨l, hl, hW, rfl⟩
  · refine ⟨-1, s, sF s 43 0 0, ?_, ?_, hI.thrown⟩
    · unfold f_X8_ways; rw [isLine8_no hz h, obs, if_pos rfl]
    · unfold f_X9_ways; rw [obs, isLine9_no hz.thrown h, obs, if_pos rfl]
  rcases q2 with q2 | ⟨q2, -, g, k1, k2, k3⟩
  · refine ⟨-1, s, sF s 43 0 0, ?_, ?_, hI.thrown⟩
    · unfold f_X8_ways; rw [isLine8_yes hz hl, obs, if_neg nz, if_pos q2]
    · unfold f_X9_ways
      rw [obs, isLine9_yes hz.thrown hl hW, obs, if_neg nz, if_pos (show (sF s 43 0 0).1 43 10 = 0 by rw [sF_nj (by decide), ← q1]; exact q2)]
  obtain ⟨P, rfl, rfl, rfl, hc, hm⟩ := hI.px hz hW
  have h16 : ∀ x y, x < P.W → y < P.H → g x y < 16 := fun x y a b => lt16 hle.2.2 (k1 x y a b).2
  have n8 : ¬ s.1 0 12 = 0 := by rw [q2]; decide
  obtain ⟨t, e1, e2⟩ := countWays3 (hc.line hl) (k2 l hl)
  have hz' : iSize (sF t 43 0 0) P.W P.H P.C := by
    unfold iSize
    rw [sF_nj (by decide), sF_nj (by decide), sF_nj (by decide), sF_ne (by decide), e2.1]
    exact hz
  have hm' : Mz (sF t 43 0 0) P := by
    unfold Mz
    rw [sF_nj (by decide), sF_nj (by decide), sF_nj (by decide), sF_ne (by decide), sF_ne (by decide), sF_ne (by decide), e2.1]
    exact hm
  have hg' : hasM (sF t 43 0 0) 49 0 P.W P.H g := by
    unfold hasM
    rw [sF_ne (by decide), e2.1]
    exact k3
  obtain ⟨s2, m1, m2, m3, m4, -⟩ := allWays9 (g := g) hm' q49 hl h16 hg'
  refine ⟨lN (wy P g l).length, t, s2, ?_, ?_, ?_⟩
  · unfold f_X8_ways
    rw [isLine8_yes hz hl, obs, if_neg nz, if_neg n8, aJ_nI rfl (by show l < 24; omega) (by decide), obs, e1, obs]
    rfl
  · unfold f_X9_ways
    rw [obs, isLine9_yes hz' hl hW, obs, if_neg nz, if_neg (show ¬ (sF t 43 0 0).1 43 10 = 0 by rw [sF_nj (by decide), e2.1, ← q1]; exact n8)]
    show Option.bind (f_X9_allWays 49 (nI 0) (nI l) (sF t 43 0 0)) _ = _
    rw [m1, obs, m4]
  · refine hI.eqV ⟨fun a b hv => ?_, fun b => ?_⟩
    · by_cases a43 : a = 43
      · subst a43
        have : ∀ b, vis 43 b = true → b ≠ 32 ∧ b ≠ 33 ∧ b ≠ 37 ∧ b ≠ 0 := by
          intro b hb
          refine ⟨?_, ?_, ?_, ?_⟩ <;> (rintro rfl; exact absurd hb (by decide))
        obtain ⟨b1, b2, b3, b4⟩ := this b hv
        rw [m2.2.1 b b1 b2, sF_nj b4, e2.1]
      · by_cases a49 : a = 49
        · subst a49
          rw [m3, sF_ne (by decide), e2.1]
        · have : ∀ c, vis c b = true → c ≠ 58 ∧ c ≠ 59 := by
            intro c hc
            refine ⟨?_, ?_⟩ <;> (rintro rfl; simp [vis] at hc)
          obtain ⟨c1, c2⟩ := this a hv
          rw [m2.1 a c1 c2 a49 a43, sF_ne a43, e2.1]
    · rw [m2.2.2.1 30 b (fun x => absurd x.1 (by decide)), sF_J, e2.2.1 30 (by decide) (by decide)]
