/-! the draft, done -/
def drf (P : Pz) (h : Nat → Int32) (n : Nat) (s : St) : Prop := (∀ l, l < n → s.1 8 l = nI (RD P h l).1 ∧ ∀ k, k < (RD P h l).1 → s.1 9 (12 * l + k) = nI ((RD P h l).2.1 k) ∧ s.1 10 (12 * l + k) = nI ((RD P h l).2.2 k)) ∧ s.1 7 6 = nI (smL (fun j => (RD P h j).1) n) ∧ ∀ j, n ≤ j → j < 24 → s.1 8 j = 0
def Lk (P : Pz) (h : Nat → Int32) (l : Nat) : Prop := (RD P h l).1 = P.cn l ∧ ∀ k, k < P.cn l → (RD P h l).2.1 k = P.len l k ∧ (RD P h l).2.2 k = P.col l k
def gvs (f h : Nat → Int32) (c : Nat) : Prop := f c = -1 ∨ f c = nI (shN (h c))
theorem lenOf {g l k : Nat} {s : St} (h1 : clO g = 0) (h2 : arT (rf g 1) = 1) (h3 : arN (rf g 1) = 288) (h : 12 * l + k < 288) : f_X0_lengthOf g (nI l) (nI k) s = some (s.1 (rf g 1) (12 * l + k), s) := by
  unfold f_X0_lengthOf
  rw [if_neg (fun x => x h1), at12, aI_nI h2 (by omega) (by omega), obs]
theorem colOf {g l k : Nat} {s : St} (h1 : clO g = 0) (h2 : arT (rf g 2) = 1) (h3 : arN (rf g 2) = 288) (h : 12 * l + k < 288) : f_X0_colourOf g (nI l) (nI k) s = some (s.1 (rf g 2) (12 * l + k), s) := by
  unfold f_X0_colourOf
  rw [if_neg (fun x => x h1), at12, aI_nI h2 (by omega) (by omega), obs]
theorem valueAt14 {x y : Nat} {s : St} (hx : x < 12) (hy : y < 12) : f_X2_valueAt 14 (nI x) (nI y) s = some (mxI 0 (s.1 15 (12 * y + x)), s) := by
  unfold f_X2_valueAt
  rw [if_neg (fun x => x rfl), at2 (g := 14) rfl rfl rfl hx hy, obs]
  rfl
section Draft
variable {P : Pz} {f h : Nat → Int32}
theorem RD_le (hP : P.ok) (hh : ∀ c, c < 144 → gVal P.C (h c)) {l : Nat} (hl : l < P.L) : (RD P h l).1 ≤ 12 := by
  have := (RD_ok hP hh hl).1
  have := Pz.n_le (l := l) hP
  unfold RD
  omega
theorem draft30 (hh : ∀ c, c < 144 → gVal P.C (h c)) (hP : P.ok) : ∀ (k fu : Nat) (s : St), k ≤ P.L → k < fu → s.1 7 3 = nI P.W → s.1 7 4 = nI P.H → (∀ j, j < 144 → s.1 15 j = h j) → drf P h (P.L - k) s → ∃ s', f_X8_draftFromMarks_30 fu (nI (P.L - k)) s = some s' ∧ DFr s s' ∧ drf P h P.L s' := by
  have hL := Pz.L_le hP
  have lines : ∀ s : St, s.1 7 3 = nI P.W → s.1 7 4 = nI P.H → f_X0_lines 7 s = some (nI P.L, s) := by
    intro s w1 w2
    unfold f_X0_lines Pz.L
    rw [if_neg (fun x => x rfl), w1, w2, nI_add]
  intro k
  induction k with
  | zero =>
    intro fu s hk hf w1 w2 h15 hd
    obtain ⟨fu, rfl⟩ : ∃ z, fu = z + 1 := ⟨fu - 1, by omega⟩
    refine ⟨s, ?_, DFr.rfl', hd⟩
    rw [f_X8_draftFromMarks_30, lines s w1 w2, obs, if_pos (nI_le (by omega) (by omega))]
  | succ k ih =>
    intro fu s hk hf w1 w2 h15 hd
    obtain ⟨fu, rfl⟩ : ∃ z, fu = z + 1 := ⟨fu - 1, by omega⟩
    have hl : P.L - (k + 1) < P.L := by omega
    have hnx : P.L - (k + 1) + 1 = P.L - k := by omega
    revert hl hnx hd
    generalize P.L - (k + 1) = l
    intro hd hl hnx
    obtain ⟨d1, d2, d3⟩ := hd
    obtain ⟨t, e1, e2, e3, e4, e5, e6⟩ := readLine7 hl hh hP w1 w2 h15 (d3 l (Nat.le_refl _) (by omega)) d2
    rw [f_X8_draftFromMarks_30, lines s w1 w2, obs, if_neg (nI_ge hl (by omega))]
    show ∃ s', Option.bind (f_X0_readLine 7 (nI l) 14 s) _ = _ ∧ _
    rw [e1, obs, nI_1, hnx]
    have hdt : drf P h (P.L - k) t := by
      rw [← hnx]
      refine ⟨fun j hj => ?_, e5, fun j hj1 hj2 => ?_⟩
      · by_cases e : j = l
        · rw [e]
          exact ⟨e4, e6⟩
        · rw [e3.1 j e]
          refine ⟨(d1 j (by omega)).1, fun i hi => ?_⟩
          have h12 := RD_le (l := j) hP hh (by omega)
          rw [(e3.2 (12 * j + i) (by omega)).1, (e3.2 (12 * j + i) (by omega)).2]
          exact (d1 j (by omega)).2 i hi
      · rw [e3.1 j (by omega)]
        exact d3 j (by omega) hj2
    obtain ⟨s', i1, i2, i3⟩ := ih fu t (by omega) (by omega) (by rw [e2.2.1 3 (by decide)]; exact w1) (by rw [e2.2.1 4 (by decide)]; exact w2) (fun j hj => by rw [e2.1 15 (by decide) (by decide) (by decide) (by decide)]; exact h15 j hj) hdt
    exact ⟨s', i1, e2.trans i2, i3⟩
theorem draft7 {s : St} (hc : Cz s P) (hh : ∀ c, c < 144 → gVal P.C (s.1 15 c)) : ∃ s', f_X8_draftFromMarks s = some s' ∧ (∀ a, a ≠ 7 → a ≠ 8 → a ≠ 9 → a ≠ 10 → s'.1 a = s.1 a) ∧ s'.2 = s.2 ∧ (s'.1 7 3 = nI P.W ∧ s'.1 7 4 = nI P.H ∧ s'.1 7 5 = nI P.C) ∧ drf P (s.1 15) P.L s' := by
  have hP := hc.1
  have hL := Pz.L_le hP
  generalize hs5 : sRow (sF (sF (sF (sF s 7 3 (nI P.W)) 7 4 (nI P.H)) 7 5 (nI P.C)) 7 6 0) 8 (fun j => if j < 24 then 0 else (sF (sF (sF (sF s 7 3 (nI P.W)) 7 4 (nI P.H)) 7 5 (nI P.C)) 7 6 0).1 8 j) = s5
  have r5 : ∀ a, a ≠ 7 → a ≠ 8 → s5.1 a = s.1 a := fun a a1 a2 => by rw [← hs5, sRow_get, if_neg a2, sF_ne a1, sF_ne a1, sF_ne a1, sF_ne a1]
  have r7 : s5.1 7 3 = nI P.W ∧ s5.1 7 4 = nI P.H ∧ s5.1 7 5 = nI P.C ∧ s5.1 7 6 = 0 := by
    rw [← hs5, sRow_get, if_neg (by decide)]
    refine ⟨?_, ?_, ?_, ?_⟩
    · rw [sF_nj (by decide), sF_nj (by decide), sF_nj (by decide), sF_at]
    · rw [sF_nj (by decide), sF_nj (by decide), sF_at]
    · rw [sF_nj (by decide), sF_at]
    · rw [sF_at]
  have r8 : ∀ j, j < 24 → s5.1 8 j = 0 := fun j hj => by rw [← hs5, sRow_get, if_pos rfl, if_pos hj]
  obtain ⟨s', e1, e2, e3⟩ := draft30 (h := s.1 15) hh hP P.L FU s5 (Nat.le_refl _) (by unfold FU; omega) r7.1 r7.2.1 (fun j _ => by rw [r5 15 (by decide) (by decide)]) (by
    rw [Nat.sub_self]
    exact ⟨fun l hl => absurd hl (Nat.not_lt_zero _), r7.2.2.2, fun j _ hj => r8 j hj⟩)
  rw [Nat.sub_self] at e1
  refine ⟨s', ?_, fun a a1 a2 a3 a4 => by rw [e2.1 a a1 a2 a3 a4, r5 a a1 a2], ?_, ⟨?_, ?_, ?_⟩, e3⟩
  · unfold f_X8_draftFromMarks f_X0_begin
    rw [if_neg (fun x => x rfl), hc.2.1, hc.2.2.1, hc.2.2.2.1, obs, obs, obs, obs]
    show Option.bind (Option.bind (f_J7_fill_53178 8 (0 : Int32) (sF (sF (sF (sF s 7 3 (nI P.W)) 7 4 (nI P.H)) 7 5 (nI P.C)) 7 6 0)) _) _ = _
    rw [fill_ok (q := 8) (N := 24) rfl rfl (by decide), hs5, obs, obs]
    exact e1
  · rw [e2.2.2, ← hs5]
    rfl
  · rw [e2.2.1 3 (by decide)]
    exact r7.1
  · rw [e2.2.1 4 (by decide)]
    exact r7.2.1
  · rw [e2.2.1 5 (by decide)]
    exact r7.2.2.1
/-! class: are the draft's lines the puzzle's? -/
theorem like7 {s : St} {l : Nat} (hl : l < P.L) (hh : ∀ c, c < 144 → gVal P.C (h c)) (hc : Cz s P) (hd : drf P h P.L s) : (Lk P h l → f_X0_isLineLike 7 (nI l) 3 s = some (1, s)) ∧ (¬ Lk P h l → f_X0_isLineLike 7 (nI l) 3 s = some (0, s)) := by
  have hP := hc.1
  have hL := Pz.L_le hP
  have h12 := RD_le hP hh hl
  obtain ⟨d1, d2⟩ := hd.1 l hl
  obtain ⟨c1, c2⟩ := hc.2.2.2.2 l hl
  have hcn := (hP.2.2.2 l hl).1
  have hb := (hP.2.2.2 l hl).2.2
  have hrb := (RD_ok hP hh hl).2.1
  have hn := Pz.n_le (l := l) hP
  have hexp : f_X0_isLineLike 7 (nI l) 3 s = if nI (RD P h l).1 = nI (P.cn l) then f_X0_isLineLike_19 7 3 FU (nI l) (nI 0) s else some (0, s) := by
    unfold f_X0_isLineLike
    rw [if_neg (fun x => x rfl), if_neg (fun x => x rfl)]
    show Option.bind (aI s 8 (nI l)) _ = _
    rw [aI_nI rfl (by show l < 24; omega) (by decide), obs, d1]
    show Option.bind (aI s 4 (nI l)) _ = _
    rw [aI_nI rfl (by show l < 24; omega) (by decide), obs, c1]
    rfl
  by_cases e : (RD P h l).1 = P.cn l
  · rw [if_pos (by rw [e])] at hexp
    rw [hexp]
    have loop : ∀ (m k fu : Nat), k + m = P.cn l → m < fu → ((∀ j, k ≤ j → j < P.cn l → (RD P h l).2.1 j = P.len l j ∧ (RD P h l).2.2 j = P.col l j) → f_X0_isLineLike_19 7 3 fu (nI l) (nI k) s = some (1, s)) ∧ ((∃ j, k ≤ j ∧ j < P.cn l ∧ ¬ ((RD P h l).2.1 j = P.len l j ∧ (RD P h l).2.2 j = P.col l j)) → f_X0_isLineLike_19 7 3 fu (nI l) (nI k) s = some (0, s)) := by
      intro m
      induction m with
      | zero =>
        intro k fu h1 h2
        obtain ⟨fu, rfl⟩ : ∃ z, fu = z + 1 := ⟨fu - 1, by omega⟩
        refine ⟨fun _ => ?_, fun ⟨j, j1, j2, _⟩ => absurd j1 (by omega)⟩
        rw [f_X0_isLineLike_19]
        show Option.bind (aI s 8 (nI l)) _ = _
        rw [aI_nI rfl (by show l < 24; omega) (by decide), obs, d1, e, if_pos (nI_le (by omega) (by omega))]
      | succ m ih =>
        intro k fu h1 h2
        obtain ⟨fu, rfl⟩ : ∃ z, fu = z + 1 := ⟨fu - 1, by omega⟩
        have hk : k < P.cn l := by omega
        obtain ⟨i1, i2⟩ := ih (k + 1) fu (by omega) (by omega)
        have b1 := hb k hk
        have b2 := hrb k (by rw [show (rr (vD P h l) (P.n l)).1 = (RD P h l).1 from rfl, e]; exact hk)
        have b21 : (RD P h l).2.1 k ≤ P.n l := b2.1.2
        have b22 : (RD P h l).2.2 k ≤ P.C := b2.2.2
        have hC := hP.2.2.1.2
        have hx : f_X0_isLineLike_19 7 3 (fu + 1) (nI l) (nI k) s = if nI ((RD P h l).2.1 k) = nI (P.len l k) then (if nI ((RD P h l).2.2 k) = nI (P.col l k) then f_X0_isLineLike_19 7 3 fu (nI l) (nI (k + 1)) s else some (0, s)) else some (0, s) := by
          rw [f_X0_isLineLike_19]
          show Option.bind (aI s 8 (nI l)) _ = _
          rw [aI_nI rfl (by show l < 24; omega) (by decide), obs, d1, e, if_neg (nI_ge hk (by omega))]
          rw [lenOf (g := 7) rfl rfl rfl (by omega), obs]
          show Option.bind (f_X0_lengthOf 3 (nI l) (nI k) s) _ = _
          rw [lenOf (g := 3) rfl rfl rfl (by omega), obs]
          show (if s.1 9 (12 * l + k) = s.1 5 (12 * l + k) then _ else _) = _
          rw [(d2 k (by omega)).1, (c2 k hk).1]
          by_cases q : nI ((RD P h l).2.1 k) = nI (P.len l k)
          · rw [if_pos q, if_pos q]
            show Option.bind (f_X0_colourOf 7 (nI l) (nI k) s) _ = _
            rw [colOf (g := 7) rfl rfl rfl (by omega), obs]
            show Option.bind (f_X0_colourOf 3 (nI l) (nI k) s) _ = _
            rw [colOf (g := 3) rfl rfl rfl (by omega), obs]
            show (if s.1 10 (12 * l + k) = s.1 6 (12 * l + k) then _ else _) = _
            rw [(d2 k (by omega)).2, (c2 k hk).2, nI_1]
          · rw [if_neg q, if_neg q]
        rw [hx]
        by_cases q1 : (RD P h l).2.1 k = P.len l k
        · rw [if_pos (by rw [q1])]
          by_cases q2 : (RD P h l).2.2 k = P.col l k
          · rw [if_pos (by rw [q2])]
            refine ⟨fun z => i1 (fun j j1 j2 => z j (by omega) j2), fun ⟨j, j1, j2, j3⟩ => i2 ⟨j, ?_, j2, j3⟩⟩
            rcases Nat.lt_or_ge k j with z | z
            · exact z
            · exact absurd (by rw [show j = k by omega]; exact ⟨q1, q2⟩) j3
          · rw [if_neg (fun z => q2 (nI_inj (by omega) (by omega) z))]
            exact ⟨fun z => absurd (z k (Nat.le_refl _) hk).2 q2, fun _ => rfl⟩
        · rw [if_neg (fun z => q1 (nI_inj (by omega) (by omega) z))]
          exact ⟨fun z => absurd (z k (Nat.le_refl _) hk).1 q1, fun _ => rfl⟩
    obtain ⟨l1, l2⟩ := loop (P.cn l) 0 FU (by omega) (by unfold FU; omega)
    refine ⟨fun z => l1 (fun j _ j2 => z.2 j j2), fun z => l2 ?_⟩
    apply Classical.byContradiction
    intro q
    apply z
    refine ⟨e, fun j hj => ?_⟩
    apply Classical.byContradiction
    intro q2
    exact q ⟨j, Nat.zero_le _, hj, q2⟩
  · rw [if_neg (fun z => e (nI_inj (by omega) (by omega) z))] at hexp
    exact ⟨fun z => absurd z.1 e, fun _ => hexp⟩
theorem hasRuns7 {s : St} (hh : ∀ c, c < 144 → gVal P.C (h c)) (hc : Cz s P) (w1 : s.1 7 3 = nI P.W) (w2 : s.1 7 4 = nI P.H) (hd : drf P h P.L s) : ∀ (m l fu : Nat), l + m = P.L → m < fu → ((∀ j, l ≤ j → j < P.L → Lk P h j) → f_X0_hasRunsOf_2 7 3 fu (nI l) s = some (1, s)) ∧ ((∃ j, l ≤ j ∧ j < P.L ∧ ¬ Lk P h j) → f_X0_hasRunsOf_2 7 3 fu (nI l) s = some (0, s)) := by
  have hP := hc.1
  have hL := Pz.L_le hP
  have lines : f_X0_lines 7 s = some (nI P.L, s) := by
    unfold f_X0_lines Pz.L
    rw [if_neg (fun x => x rfl), w1, w2, nI_add]
  intro m
  induction m with
  | zero =>
    intro l fu h1 h2
    obtain ⟨fu, rfl⟩ : ∃ z, fu = z + 1 := ⟨fu - 1, by omega⟩
    refine ⟨fun _ => ?_, fun ⟨j, j1, j2, _⟩ => absurd j1 (by omega)⟩
    rw [f_X0_hasRunsOf_2, lines, obs, if_pos (nI_le (by omega) (by omega))]
  | succ m ih =>
    intro l fu h1 h2
    obtain ⟨fu, rfl⟩ : ∃ z, fu = z + 1 := ⟨fu - 1, by omega⟩
    have hl : l < P.L := by omega
    obtain ⟨i1, i2⟩ := ih (l + 1) fu (by omega) (by omega)
    obtain ⟨k1, k2⟩ := like7 hl hh hc hd
    rw [f_X0_hasRunsOf_2, lines, obs, if_neg (nI_ge hl (by omega)), nI_1]
    by_cases c : Lk P h l
    · rw [show f_X0_isLineLike 7 (nI l) 3 (nI P.L, s).2 = some (1, s) from k1 c, obs, if_neg nz]
      refine ⟨fun z => i1 (fun j j1 j2 => z j (by omega) j2), fun ⟨j, j1, j2, j3⟩ => i2 ⟨j, ?_, j2, j3⟩⟩
      rcases Nat.lt_or_ge l j with z | z
      · exact z
      · exact absurd (by rw [show j = l by omega]; exact c) j3
    · rw [show f_X0_isLineLike 7 (nI l) 3 (nI P.L, s).2 = some (0, s) from k2 c, obs, if_pos rfl]
      exact ⟨fun z => absurd (z l (Nat.le_refl _) hl) c, fun _ => rfl⟩
/-! class: are the givens marked? -/
theorem giv15 {s : St} {K2 : Int32 → St → Option (Int32 × St)} {y : Nat} (hc : Cz s P) (hh : ∀ c, c < 144 → gVal P.C (s.1 15 c)) (hy : y < P.H) : ∀ (m x fu : Nat), x + m = P.W → m < fu → ((∀ i, x ≤ i → i < P.W → gvs (s.1 13) (s.1 15) (12 * y + i)) → f_X8_areGivensMarked_15 K2 fu (nI y) (nI x) s = K2 (nI y + 1) s) ∧ ((∃ i, x ≤ i ∧ i < P.W ∧ ¬ gvs (s.1 13) (s.1 15) (12 * y + i)) → f_X8_areGivensMarked_15 K2 fu (nI y) (nI x) s = some (0, s)) := by
  obtain ⟨⟨W1, W2⟩, ⟨H1, H2⟩, ⟨C1, C2⟩, -⟩ := id hc.1
  intro m
  induction m with
  | zero =>
    intro x fu h1 h2
    obtain ⟨fu, rfl⟩ : ∃ z, fu = z + 1 := ⟨fu - 1, by omega⟩
    refine ⟨fun _ => ?_, fun ⟨j, j1, j2, _⟩ => absurd j1 (by omega)⟩
    rw [f_X8_areGivensMarked_15, hc.2.1, if_pos (nI_le (by omega) (by omega))]
  | succ m ih =>
    intro x fu h1 h2
    obtain ⟨fu, rfl⟩ : ∃ z, fu = z + 1 := ⟨fu - 1, by omega⟩
    obtain ⟨i1, i2⟩ := ih (x + 1) fu (by omega) (by omega)
    have hx : f_X8_areGivensMarked_15 K2 (fu + 1) (nI y) (nI x) s = if s.1 13 (12 * y + x) = -1 then f_X8_areGivensMarked_15 K2 fu (nI y) (nI (x + 1)) s else if s.1 13 (12 * y + x) = nI (shN (s.1 15 (12 * y + x))) then f_X8_areGivensMarked_15 K2 fu (nI y) (nI (x + 1)) s else some (0, s) := by
      rw [f_X8_areGivensMarked_15, hc.2.1, if_neg (nI_ge (by omega) (by omega)), at2 (g := 12) rfl rfl rfl (by omega) (by omega), obs]
      show (if s.1 13 (12 * y + x) = -1 then _ else Option.bind (f_X2_valueAt 14 (nI x) (nI y) s) _) = _
      rw [valueAt14 (by omega) (by omega), obs, (shN_ok (hh (12 * y + x) (by omega)) C2).2.1, f_X8_areGivensMarked_56, nI_1]
      rfl
    rw [hx]
    have goOn : gvs (s.1 13) (s.1 15) (12 * y + x) → ((∀ i, x ≤ i → i < P.W → gvs (s.1 13) (s.1 15) (12 * y + i)) → f_X8_areGivensMarked_15 K2 fu (nI y) (nI (x + 1)) s = K2 (nI y + 1) s) ∧ ((∃ i, x ≤ i ∧ i < P.W ∧ ¬ gvs (s.1 13) (s.1 15) (12 * y + i)) → f_X8_areGivensMarked_15 K2 fu (nI y) (nI (x + 1)) s = some (0, s)) := by
      intro q
      refine ⟨fun z => i1 (fun j j1 j2 => z j (by omega) j2), fun ⟨j, j1, j2, j3⟩ => i2 ⟨j, ?_, j2, j3⟩⟩
      rcases Nat.lt_or_ge x j with z | z
      · exact z
      · exact absurd (by rw [show j = x by omega]; exact q) j3
    by_cases q1 : s.1 13 (12 * y + x) = -1
    · rw [if_pos q1]
      exact goOn (Or.inl q1)
    · rw [if_neg q1]
      by_cases q2 : s.1 13 (12 * y + x) = nI (shN (s.1 15 (12 * y + x)))
      · rw [if_pos q2]
        exact goOn (Or.inr q2)
      · rw [if_neg q2]
        exact ⟨fun z => absurd (z x (Nat.le_refl _) (by omega)) (fun w => w.elim q1 q2), fun _ => rfl⟩
theorem giv2 {s : St} (hc : Cz s P) (hh : ∀ c, c < 144 → gVal P.C (s.1 15 c)) : ∀ (m y fu : Nat), y + m = P.H → m < fu → ((∀ i j, i < P.W → y ≤ j → j < P.H → gvs (s.1 13) (s.1 15) (12 * j + i)) → f_X8_areGivensMarked_2 fu (nI y) s = some (1, s)) ∧ ((∃ i j, i < P.W ∧ y ≤ j ∧ j < P.H ∧ ¬ gvs (s.1 13) (s.1 15) (12 * j + i)) → f_X8_areGivensMarked_2 fu (nI y) s = some (0, s)) := by
  obtain ⟨⟨W1, W2⟩, ⟨H1, H2⟩, ⟨C1, C2⟩, -⟩ := id hc.1
  intro m
  induction m with
  | zero =>
    intro y fu h1 h2
    obtain ⟨fu, rfl⟩ : ∃ z, fu = z + 1 := ⟨fu - 1, by omega⟩
    refine ⟨fun _ => ?_, fun ⟨i, j, _, j1, j2, _⟩ => absurd j1 (by omega)⟩
    rw [f_X8_areGivensMarked_2, hc.2.2.1, if_pos (nI_le (by omega) (by omega))]
  | succ m ih =>
    intro y fu h1 h2
    obtain ⟨fu, rfl⟩ : ∃ z, fu = z + 1 := ⟨fu - 1, by omega⟩
    obtain ⟨i1, i2⟩ := ih (y + 1) fu (by omega) (by omega)
    obtain ⟨k1, k2⟩ := giv15 (K2 := f_X8_areGivensMarked_2 fu) hc hh (show y < P.H by omega) P.W 0 FU (by omega) (by unfold FU; omega)
    rw [f_X8_areGivensMarked_2, hc.2.2.1, if_neg (nI_ge (by omega) (by omega))]
    refine ⟨fun z => ?_, fun ⟨i, j, a1, a2, a3, a4⟩ => ?_⟩
    · rw [show (0 : Int32) = nI 0 from rfl, k1 (fun i _ hi => z i y hi (Nat.le_refl _) (by omega)), nI_1]
      exact i1 (fun i j b1 b2 b3 => z i j b1 (by omega) b3)
    · by_cases q : ∃ i, 0 ≤ i ∧ i < P.W ∧ ¬ gvs (s.1 13) (s.1 15) (12 * y + i)
      · exact k2 q
      · rw [show (0 : Int32) = nI 0 from rfl, k1 (fun i b1 b2 => Classical.byContradiction (fun w => q ⟨i, b1, b2, w⟩)), nI_1]
        refine i2 ⟨i, j, a1, ?_, a3, a4⟩
        rcases Nat.lt_or_ge y j with z | z
        · exact z
        · exfalso
          apply q
          exact ⟨i, Nat.zero_le _, a1, by rw [show y = j by omega]; exact a4⟩
/-! the marks show the picture -/
def Dn (P : Pz) (f h : Nat → Int32) : Prop := (∀ l, l < P.L → Lk P h l) ∧ ∀ i j, i < P.W → j < P.H → gvs f h (12 * j + i)
theorem doneC {s : St} (hc : Cz s P) (hp : f_X8_hasPuzzle s = some (1, s)) (hh : ∀ c, c < 144 → gVal P.C (s.1 15 c)) : ∃ s', (∀ a, a ≠ 7 → a ≠ 8 → a ≠ 9 → a ≠ 10 → s'.1 a = s.1 a) ∧ s'.2 = s.2 ∧ (Dn P (s.1 13) (s.1 15) → f_X8_done s = some (1, s')) ∧ (¬ Dn P (s.1 13) (s.1 15) → f_X8_done s = some (0, s')) := by
  obtain ⟨s', e1, e2, e3, ⟨e4, e5, e6⟩, e7⟩ := draft7 hc hh
  have hc' : Cz s' P := hc.fr (e2 3 (by decide) (by decide) (by decide) (by decide)) (e2 4 (by decide) (by decide) (by decide) (by decide)) (e2 5 (by decide) (by decide) (by decide) (by decide)) (e2 6 (by decide) (by decide) (by decide) (by decide))
  have e13 := e2 13 (by decide) (by decide) (by decide) (by decide)
  have e15 := e2 15 (by decide) (by decide) (by decide) (by decide)
  have hL := Pz.L_le hc.1
  obtain ⟨⟨W1, W2⟩, ⟨H1, H2⟩, ⟨C1, C2⟩, -⟩ := id hc.1
  obtain ⟨k1, k2⟩ := hasRuns7 hh hc' e4 e5 e7 P.L 0 FU (by omega) (by unfold FU; omega)
  obtain ⟨g1, g2⟩ := giv2 hc' (by rw [e15]; exact hh) P.H 0 FU (by omega) (by unfold FU; omega)
  rw [e13, e15] at g1 g2
  have hexp : ∀ r : Int32, f_X0_hasRunsOf_2 7 3 FU (nI 0) s' = some (r, s') → f_X8_done s = if r = 0 then some (0, s') else Option.bind (f_X8_areGivensMarked_2 FU (nI 0) s') fun r6 => if r6.1 = 0 then some (0, r6.2) else some (1, r6.2) := by
    intro r hr
    unfold f_X8_done
    rw [hp, obs, if_neg nz, e1, obs]
    unfold f_X0_hasRunsOf
    rw [if_neg (fun x => x rfl), if_neg (fun x => x rfl)]
    show Option.bind (f_X0_hasRunsOf_2 7 3 FU (nI 0) s') _ = _
    rw [hr, obs]
    rfl
  refine ⟨s', e2, e3, fun d => ?_, fun d => ?_⟩
  · rw [hexp 1 (k1 (fun j _ hj => d.1 j hj)), if_neg (by decide), g1 (fun i j b1 _ b3 => d.2 i j b1 b3), obs, if_neg nz]
  · by_cases q : ∀ l, l < P.L → Lk P (s.1 15) l
    · rw [hexp 1 (k1 (fun j _ hj => q j hj)), if_neg (by decide)]
      have : ∃ i j, i < P.W ∧ 0 ≤ j ∧ j < P.H ∧ ¬ gvs (s.1 13) (s.1 15) (12 * j + i) := by
        apply Classical.byContradiction
        intro w
        apply d
        refine ⟨q, fun i j b1 b2 => Classical.byContradiction (fun w2 => w ⟨i, j, b1, Nat.zero_le _, b2, w2⟩)⟩
      rw [g2 this, obs, if_pos rfl]
    · have : ∃ j, 0 ≤ j ∧ j < P.L ∧ ¬ Lk P (s.1 15) j := by
        apply Classical.byContradiction
        intro w
        apply q
        exact fun l hl => Classical.byContradiction (fun w2 => w ⟨l, Nat.zero_le _, hl, w2⟩)
      rw [hexp 0 (k2 this), if_pos rfl]
/-! the model -/
theorem md69 {K43 : Int32 → St → Option (Int32 × St)} {l : Nat} {s : St} (hl : l < P.L) (hh : ∀ c, c < 144 → gVal P.C (h c)) (hm : Mz s P) (he : (RD P h l).1 = P.cn l) (h64 : ∀ k, k < (RD P h l).1 → s.1 64 k = nI ((RD P h l).2.1 k) ∧ s.1 65 k = nI ((RD P h l).2.2 k)) : ∀ (m k fu : Nat), k + m = P.cn l → m < fu → ((∀ j, k ≤ j → j < P.cn l → (RD P h l).2.1 j = P.len l j ∧ (RD P h l).2.2 j = P.col l j) → f_X9_isDone_69 K43 fu (nI l) (nI k) s = K43 (nI l + 1) s) ∧ ((∃ j, k ≤ j ∧ j < P.cn l ∧ ¬ ((RD P h l).2.1 j = P.len l j ∧ (RD P h l).2.2 j = P.col l j)) → f_X9_isDone_69 K43 fu (nI l) (nI k) s = some (0, s)) := by
  have hP := hm.1
  have hL := Pz.L_le hP
  have hn := Pz.n_le (l := l) hP
  have hC := hP.2.2.1.2
  obtain ⟨c1, c2⟩ := hm.2.2.2.2 l hl
  have hcn := (hP.2.2.2 l hl).1
  have hb := (hP.2.2.2 l hl).2.2
  have hrb := (RD_ok hP hh hl).2.1
  intro m
  induction m with
  | zero =>
    intro k fu h1 h2
    obtain ⟨fu, rfl⟩ : ∃ z, fu = z + 1 := ⟨fu - 1, by omega⟩
    refine ⟨fun _ => ?_, fun ⟨j, j1, j2, _⟩ => absurd j1 (by omega)⟩
    rw [f_X9_isDone_69, aI_nI rfl (by show l < 24; omega) (by decide), obs, c1, if_pos (nI_le (by omega) (by omega))]
  | succ m ih =>
    intro k fu h1 h2
    obtain ⟨fu, rfl⟩ : ∃ z, fu = z + 1 := ⟨fu - 1, by omega⟩
    have hk : k < P.cn l := by omega
    obtain ⟨i1, i2⟩ := ih (k + 1) fu (by omega) (by omega)
    have b1 := hb k hk
    have b2 := hrb k (by rw [show (rr (vD P h l) (P.n l)).1 = (RD P h l).1 from rfl, he]; exact hk)
    have b21 : (RD P h l).2.1 k ≤ P.n l := b2.1.2
    have b22 : (RD P h l).2.2 k ≤ P.C := b2.2.2
    have hx : f_X9_isDone_69 K43 (fu + 1) (nI l) (nI k) s = if nI ((RD P h l).2.1 k) = nI (P.len l k) then (if nI ((RD P h l).2.2 k) = nI (P.col l k) then f_X9_isDone_69 K43 fu (nI l) (nI (k + 1)) s else some (0, s)) else some (0, s) := by
      rw [f_X9_isDone_69, aI_nI rfl (by show l < 24; omega) (by decide), obs, c1, if_neg (nI_ge hk (by omega)), aI_nI rfl (by show k < 12; omega) (by decide), obs, (h64 k (by omega)).1, at12, aI_nI rfl (by show 12 * l + k < 288; omega) (by decide), obs, (c2 k hk).1]
      by_cases q : nI ((RD P h l).2.1 k) = nI (P.len l k)
      · rw [if_pos q, if_pos q, aI_nI rfl (by show k < 12; omega) (by decide), obs, (h64 k (by omega)).2, aI_nI rfl (by show 12 * l + k < 288; omega) (by decide), obs, (c2 k hk).2, nI_1]
      · rw [if_neg q, if_neg q]
    rw [hx]
    by_cases q1 : (RD P h l).2.1 k = P.len l k
    · rw [if_pos (by rw [q1])]
      by_cases q2 : (RD P h l).2.2 k = P.col l k
      · rw [if_pos (by rw [q2])]
        refine ⟨fun z => i1 (fun j j1 j2 => z j (by omega) j2), fun ⟨j, j1, j2, j3⟩ => i2 ⟨j, ?_, j2, j3⟩⟩
        rcases Nat.lt_or_ge k j with z | z
        · exact z
        · exact absurd (by rw [show j = k by omega]; exact ⟨q1, q2⟩) j3
      · rw [if_neg (fun z => q2 (nI_inj (by omega) (by omega) z))]
        exact ⟨fun z => absurd (z k (Nat.le_refl _) hk).2 q2, fun _ => rfl⟩
    · rw [if_neg (fun z => q1 (nI_inj (by omega) (by omega) z))]
      exact ⟨fun z => absurd (z k (Nat.le_refl _) hk).1 q1, fun _ => rfl⟩
theorem md43 (hh : ∀ c, c < 144 → gVal P.C (h c)) : ∀ (m l fu : Nat) (s : St), l + m = P.L → m < fu → Mz s P → (∀ j, j < 144 → s.1 48 j = h j) → ∃ s', (∀ a, a ≠ 64 → a ≠ 65 → s'.1 a = s.1 a) ∧ s'.2 = s.2 ∧ ((∀ j, l ≤ j → j < P.L → Lk P h j) → f_X9_isDone_43 fu (nI l) s = some (1, s')) ∧ ((∃ j, l ≤ j ∧ j < P.L ∧ ¬ Lk P h j) → f_X9_isDone_43 fu (nI l) s = some (0, s')) := by
  intro m
  induction m with
  | zero =>
    intro l fu s h1 h2 hm h48
    obtain ⟨fu, rfl⟩ : ∃ z, fu = z + 1 := ⟨fu - 1, by omega⟩
    have hL := Pz.L_le hm.1
    refine ⟨s, fun _ _ _ => rfl, rfl, fun _ => ?_, fun ⟨j, j1, j2, _⟩ => absurd j1 (by omega)⟩
    rw [f_X9_isDone_43, hm.lines, obs, if_pos (nI_le (by omega) (by omega))]
  | succ m ih =>
    intro l fu s h1 h2 hm h48
    obtain ⟨fu, rfl⟩ : ∃ z, fu = z + 1 := ⟨fu - 1, by omega⟩
    have hP := hm.1
    have hL := Pz.L_le hP
    have hl : l < P.L := by omega
    have h12 := RD_le hP hh hl
    have hcn := (hP.2.2.2 l hl).1
    obtain ⟨t, e1, e2, e3, e4⟩ := reads9 hl hh hm.sz h48
    have hmt : Mz t P := by
      unfold Mz
      rw [e2 43 (by decide) (by decide), e2 44 (by decide) (by decide), e2 45 (by decide) (by decide), e2 46 (by decide) (by decide)]
      exact hm
    have hexp : f_X9_isDone_43 (fu + 1) (nI l) s = if nI (RD P h l).1 = nI (P.cn l) then f_X9_isDone_69 (f_X9_isDone_43 fu) FU (nI l) (nI 0) t else some (0, t) := by
      rw [f_X9_isDone_43, hm.lines, obs, if_neg (nI_ge hl (by omega))]
      show Option.bind (f_X9_readsAs (nI l) s) _ = _
      rw [e1, obs]
      show Option.bind (aI t 44 (nI l)) _ = _
      rw [aI_nI rfl (by show l < 24; omega) (by decide), obs, (hmt.2.2.2.2 l hl).1]
      rfl
    by_cases q : Lk P h l
    · obtain ⟨s', i1, i2, i3, i4⟩ := ih (l + 1) fu t (by omega) (by omega) hmt (fun j hj => by rw [e2 48 (by decide) (by decide)]; exact h48 j hj)
      have h69 := (md69 (K43 := f_X9_isDone_43 fu) hl hh hmt q.1 e4 (P.cn l) 0 FU (by omega) (by unfold FU; omega)).1 (fun j _ hj => q.2 j hj)
      rw [if_pos (by rw [q.1]), h69, nI_1] at hexp
      refine ⟨s', fun a a1 a2 => by rw [i1 a a1 a2, e2 a a1 a2], i2.trans e3, fun z => ?_, fun ⟨j, j1, j2, j3⟩ => ?_⟩
      · rw [hexp]
        exact i3 (fun j j1 j2 => z j (by omega) j2)
      · rw [hexp]
        refine i4 ⟨j, ?_, j2, j3⟩
        rcases Nat.lt_or_ge l j with z | z
        · exact z
        · exact absurd (by rw [show j = l by omega]; exact q) j3
    · have hno : f_X9_isDone_43 (fu + 1) (nI l) s = some (0, t) := by
        by_cases q1 : (RD P h l).1 = P.cn l
        · rw [hexp, if_pos (by rw [q1])]
          refine (md69 (K43 := f_X9_isDone_43 fu) hl hh hmt q1 e4 (P.cn l) 0 FU (by omega) (by unfold FU; omega)).2 ?_
          apply Classical.byContradiction
          intro w
          apply q
          exact ⟨q1, fun j hj => Classical.byContradiction (fun w2 => w ⟨j, Nat.zero_le _, hj, w2⟩)⟩
        · rw [hexp, if_neg (fun z => q1 (nI_inj (by omega) (by omega) z))]
      exact ⟨t, e2, e3, fun z => absurd (z l (Nat.le_refl _) hl) q, fun _ => hno⟩
theorem md2 {s : St} (hh : ∀ c, c < 144 → gVal P.C (h c)) (hm : Mz s P) (h47 : ∀ j, j < 144 → s.1 47 j = f j) (h48 : ∀ j, j < 144 → s.1 48 j = h j) : ∀ (m c fu : Nat), c + m = 144 → m < fu → ((∀ j, c ≤ j → j < 144 → gvs f h j) → f_X9_isDone_2 fu (nI c) s = f_X9_isDone_43 FU (nI 0) s) ∧ ((∃ j, c ≤ j ∧ j < 144 ∧ ¬ gvs f h j) → f_X9_isDone_2 fu (nI c) s = some (0, s)) := by
  have hC := hm.1.2.2.1.2
  intro m
  induction m with
  | zero =>
    intro c fu h1 h2
    obtain ⟨fu, rfl⟩ : ∃ z, fu = z + 1 := ⟨fu - 1, by omega⟩
    refine ⟨fun _ => ?_, fun ⟨j, j1, j2, _⟩ => absurd j1 (by omega)⟩
    rw [f_X9_isDone_2, if_pos (show (144 : Int32) ≤ nI c from nI_le (a := 144) (by omega) (by omega))]
    rfl
  | succ m ih =>
    intro c fu h1 h2
    obtain ⟨fu, rfl⟩ : ∃ z, fu = z + 1 := ⟨fu - 1, by omega⟩
    obtain ⟨i1, i2⟩ := ih (c + 1) fu (by omega) (by omega)
    have hx : f_X9_isDone_2 (fu + 1) (nI c) s = if f c = -1 then f_X9_isDone_2 fu (nI (c + 1)) s else if f c = nI (shN (h c)) then f_X9_isDone_2 fu (nI (c + 1)) s else some (0, s) := by
      rw [f_X9_isDone_2, if_neg (show ¬ (144 : Int32) ≤ nI c from nI_ge (b := 144) (by omega) (by omega)), aI_nI rfl (by show c < 144; omega) (by decide), obs, h47 c (by omega), obs, shown9 hC (by omega) (h48 c (by omega)) (hh c (by omega)), obs, f_X9_isDone_35, nI_1]
    rw [hx]
    have goOn : gvs f h c → ((∀ j, c ≤ j → j < 144 → gvs f h j) → f_X9_isDone_2 fu (nI (c + 1)) s = f_X9_isDone_43 FU (nI 0) s) ∧ ((∃ j, c ≤ j ∧ j < 144 ∧ ¬ gvs f h j) → f_X9_isDone_2 fu (nI (c + 1)) s = some (0, s)) := by
      intro q
      refine ⟨fun z => i1 (fun j j1 j2 => z j (by omega) j2), fun ⟨j, j1, j2, j3⟩ => i2 ⟨j, ?_, j2, j3⟩⟩
      rcases Nat.lt_or_ge c j with z | z
      · exact z
      · exact absurd (by rw [show j = c by omega]; exact q) j3
    by_cases q1 : f c = -1
    · rw [if_pos q1]
      exact goOn (Or.inl q1)
    · rw [if_neg q1]
      by_cases q2 : f c = nI (shN (h c))
      · rw [if_pos q2]
        exact goOn (Or.inr q2)
      · rw [if_neg q2]
        exact ⟨fun z => absurd (z c (Nat.le_refl _) (by omega)) (fun w => w.elim q1 q2), fun _ => rfl⟩
theorem doneM {s : St} (hh : ∀ c, c < 144 → gVal P.C (h c)) (hm : Mz s P) (h47 : ∀ j, j < 144 → s.1 47 j = f j) (h48 : ∀ j, j < 144 → s.1 48 j = h j) (hout : ∀ x y, y < 12 → x < 12 → (P.W ≤ x ∨ P.H ≤ y) → f (12 * y + x) = -1) : ∃ s', (∀ a, a ≠ 64 → a ≠ 65 → s'.1 a = s.1 a) ∧ s'.2 = s.2 ∧ (Dn P f h → f_X9_isDone s = some (1, s')) ∧ (¬ Dn P f h → f_X9_isDone s = some (0, s')) := by
  have hL := Pz.L_le hm.1
  obtain ⟨g1, g2⟩ := md2 hh hm h47 h48 144 0 FU (by omega) (by unfold FU; omega)
  obtain ⟨t, e1, e2, e3, e4⟩ := md43 hh P.L 0 FU s (by omega) (by unfold FU; omega) hm h48
  have hall : (∀ i j, i < P.W → j < P.H → gvs f h (12 * j + i)) → ∀ c, 0 ≤ c → c < 144 → gvs f h c := by
    intro hq c _ hc
    have e : c = 12 * (c / 12) + c % 12 := by omega
    rw [e]
    by_cases q : c % 12 < P.W ∧ c / 12 < P.H
    · exact hq _ _ q.1 q.2
    · exact Or.inl (hout _ _ (by omega) (by omega) (by omega))
  have ex : f_X9_isDone s = f_X9_isDone_2 FU (nI 0) s := rfl
  by_cases q : ∀ i j, i < P.W → j < P.H → gvs f h (12 * j + i)
  · refine ⟨t, e1, e2, fun d => ?_, fun d => ?_⟩
    · rw [ex, g1 (hall q)]
      exact e3 (fun j _ hj => d.1 j hj)
    · rw [ex, g1 (hall q)]
      refine e4 ?_
      apply Classical.byContradiction
      intro w
      apply d
      exact ⟨fun l hl => Classical.byContradiction (fun w2 => w ⟨l, Nat.zero_le _, hl, w2⟩), q⟩
  · refine ⟨s, fun _ _ _ => rfl, rfl, fun d => absurd d.2 q, fun d => ?_⟩
    rw [ex]
    refine g2 ?_
    apply Classical.byContradiction
    intro w
    apply q
    obtain ⟨⟨W1, W2⟩, ⟨H1, H2⟩, -⟩ := id hm.1
    exact fun i j b1 b2 => Classical.byContradiction (fun w2 => w ⟨12 * j + i, Nat.zero_le _, by omega, w2⟩)
end Draft
theorem st_done {s : St} (hI : Inv s) : Step f_X8_done f_X9_done s := by
  obtain ⟨h1, h2, W, H, C, hz, hs, hf, hr⟩ := id hI
  by_cases hW : W = 0
  · subst hW
    refine ⟨-1, s, sF s 43 0 0, ?_, ?_, hI.thrown⟩
    · unfold f_X8_done
      rw [hasP8 hz, if_pos rfl, obs, if_pos rfl]
    · unfold f_X9_done
      rw [obs, noPz hz, obs, if_pos rfl]
  have hp : f_X8_hasPuzzle s = some (1, s) := by rw [hasP8 hz, if_neg hW]
  obtain ⟨P, rfl, rfl, rfl, hc, hm⟩ := hI.px hz (by omega)
  obtain ⟨⟨W1, W2⟩, -⟩ := id hc.1
  obtain ⟨hrn, hg13, hg15⟩ := hr W1
  have f15 : ∀ c, c < 144 → gVal P.C (s.1 15 c) := fun c hc => (hg15.1 c hc).2
  obtain ⟨s1, a1, a2, a3, a4⟩ := doneC hc hp f15
  have hi : ∀ a, 43 ≤ a → s1.1 a = s.1 a := fun a ha => a1 a (by omega) (by omega) (by omega) (by omega)
  have hm1 : Mz (sF s1 43 0 0) P := (hm.hi hi : Mz s1 P)
  obtain ⟨s2, b1, b2, b3, b4⟩ := doneM (f := s.1 13) (h := s.1 15) (s := sF s1 43 0 0) f15 hm1 (fun j hj => by rw [sF_ne (by decide), hi 47 (by omega)]; exact (hg13.1 j hj).1.symm) (fun j hj => by rw [sF_ne (by decide), hi 48 (by omega)]; exact (hg15.1 j hj).1.symm) hg13.2.1
  have v2 : eqV s s2 := by
    refine ⟨fun a b v => ?_, fun b => ?_⟩
    · have := visR v
      rw [b1 a (by omega) (by omega)]
      rcases this with ⟨e, e2⟩ | e
      · rw [e, sF_nj (by omega), hi 43 (by omega)]
      · rw [sF_ne (by omega), a1 a (by omega) (by omega) (by omega) (by omega)]
    · rw [b2]
      show s1.2.1 30 b = _
      rw [a2]
  have hM : ∀ r : Int32, f_X9_isDone (sF s1 43 0 0) = some (r, s2) → f_X9_done s1 = if r = 0 then some (0, s2) else some (1, s2) := by
    intro r hr
    unfold f_X9_done
    rw [obs, hm1.is, obs, if_neg nz]
    show Option.bind (f_X9_isDone (sF s1 43 0 0)) _ = _
    rw [hr, obs]
  by_cases d : Dn P (s.1 13) (s.1 15)
  · exact ⟨1, s1, s2, a3 d, by rw [hM 1 (b3 d), if_neg (by decide)], hI.eqV v2⟩
  · exact ⟨0, s1, s2, a4 d, by rw [hM 0 (b4 d), if_pos rfl], hI.eqV v2⟩
