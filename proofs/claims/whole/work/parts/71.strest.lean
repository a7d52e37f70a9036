section Rest2
variable {P : Pz} {g : Gs}
theorem swp_rest (hP : P.ok) : ∀ k g c, k ≤ P.L → (swp P k g c).1 = true → (swp P k g c).2.1 = c → setsOK P.W P.H P.C g → ∀ l, P.L - k ≤ l → l < P.L → rst P g l := by
  intro k
  induction k with
  | zero => intro g c _ _ _ _ l h1 h2; omega
  | succ k ih =>
    intro g c hk h1 h2 hg l l1 l2
    have hL := Pz.L_le hP
    rw [swp] at h1 h2
    by_cases e : (wy P g (P.L - (k + 1))).isEmpty = true
    · rw [if_pos e] at h1
      cases h1
    · rw [if_neg e] at h1 h2
      have hl : P.L - (k + 1) < P.L := by omega
      have hnx : P.L - (k + 1) + 1 = P.L - k := by omega
      revert e h1 h2 hl hnx
      generalize hm : P.L - (k + 1) = m
      intro h1 h2 e hl hnx
      have hex : ∃ w, w ∈ wy P g m := by
        cases hw : wy P g m with
        | nil => rw [hw] at e; exact absurd rfl e
        | cons w ws => exact ⟨w, by simp⟩
      have hg' := nar_ok hP hl hP.2.2.1.2 hg hex
      have hs := swp_spec hP k (nar P g m) (c + smL (chg P g m) (P.n m)) (by omega) hg'
      have h0 : smL (chg P g m) (P.n m) = 0 := by omega
      have hn := chg_0 h0
      have hr := rst_nar hP hl hex
      rw [hn] at hr
      by_cases em : l = m
      · rw [em]
        exact hr
      · rw [hn, h0] at h1 h2
        exact ih g (c + 0) (by omega) h1 h2 hg l (by omega) l2
theorem rstF_spec (hP : P.ok) : ∀ f r g, szG P g < f → setsOK P.W P.H P.C g → setsOK P.W P.H P.C (rstF P f r g).2.2 ∧ subG P (rstF P f r g).2.2 g ∧ r ≤ (rstF P f r g).2.1 ∧ (rstF P f r g).2.1 ≤ r + szG P g ∧ ((rstF P f r g).1 = true → ∀ l, l < P.L → rst P (rstF P f r g).2.2 l) := by
  intro f
  induction f with
  | zero => intro r g h; omega
  | succ f ih =>
    intro r g h hg
    obtain ⟨s1, s2, s3, s4, s5, s6⟩ := swp_spec hP P.L g 0 (Nat.le_refl _) hg
    rw [rstF]
    by_cases c : (swp P P.L g 0).1 = true
    · rw [if_pos c]
      by_cases d : (swp P P.L g 0).2.1 = 0
      · rw [if_pos d]
        refine ⟨s1, s2, Nat.le_refl _, by show r ≤ _; omega, fun _ l hl => ?_⟩
        rw [s5 d]
        exact swp_rest hP P.L g 0 (Nat.le_refl _) c d hg l (by omega) hl
      · rw [if_neg d]
        have := s6 d
        obtain ⟨i1, i2, i3, i4, i5⟩ := ih (r + 1) _ (by omega) s1
        exact ⟨i1, i2.trans s2, by omega, by omega, i5⟩
    · rw [if_neg c]
      exact ⟨s1, s2, Nat.le_refl _, by show r ≤ _; omega, fun h => by cases h⟩
def restP (P : Pz) (g : Gs) : Bool × Nat × Gs := rstF P 600 1 g
theorem restP_spec (hP : P.ok) (hg : setsOK P.W P.H P.C g) : setsOK P.W P.H P.C (restP P g).2.2 ∧ subG P (restP P g).2.2 g ∧ 1 ≤ (restP P g).2.1 ∧ (restP P g).2.1 ≤ 577 ∧ ((restP P g).1 = true → ∀ l, l < P.L → rst P (restP P g).2.2 l) := by
  have h := szG_le hP hg
  obtain ⟨a, b, c, d, e⟩ := rstF_spec hP 600 1 g (by omega) hg
  exact ⟨a, b, c, Nat.le_trans d (by omega), e⟩
/-! class -/
theorem settle5 {G q : Nat} (hG : sOK G q) : ∀ (f r fu : Nat) (g : Gs) (s : St) (v3 : Int32), szG P g < f → r + szG P g ≤ 1000 → f ≤ fu → Cz s P → setsOK P.W P.H P.C g → hasWr (s.2.1 q) P.W P.H g → (∀ m, m < P.L → bt v3 m = false → rst P g m) → ∃ s', SFr q s s' ∧ hasWr (s'.2.1 q) P.W P.H (rstF P f r g).2.2 ∧ f_X5_settle_5 G fu v3 (nI r) s = some (if (rstF P f r g).1 = true then nI ((rstF P f r g).2.1 * P.L) else -2, s') := by
  intro f
  induction f with
  | zero => intro r fu g s v3 h; omega
  | succ f ih =>
    intro r fu g s v3 h hr hfu hc hg hw hm
    obtain ⟨fu, rfl⟩ : ∃ z, fu = z + 1 := ⟨fu - 1, by omega⟩
    have hP := hc.1
    have hL := Pz.L_le hP
    obtain ⟨s1, s2, s3, s4, s5, s6⟩ := swp_spec hP P.L g 0 (Nat.le_refl _) hg
    have hlt : ¬ (1000 : Int32) < nI r := nI_nlt (b := 1000) (a := 1000) (by omega) (by omega) |> fun _ => by
      rw [show (1000 : Int32) = nI 1000 from rfl]
      exact nI_nlt (by omega) (by omega)
    obtain ⟨s', e1, e2, e3⟩ := set19 (K := f_X5_settle_5 G fu) (v4 := nI r) hG P.L 0 FU g s v3 0 (Nat.le_refl _) (by unfold FU; omega) hc hg hw hm ⟨fun _ => rfl, fun _ => rfl⟩
    rw [Nat.sub_self] at e3
    rw [rstF, f_X5_settle_5, if_neg hlt]
    rcases e3 with ⟨j1, j2⟩ | ⟨j1, v3', v5', j2, j3, j4⟩
    · rw [j1, if_neg (by decide)]
      exact ⟨s', e1, e2, j2⟩
    · rw [if_pos j1]
      by_cases d : (swp P P.L g 0).2.1 = 0
      · rw [if_pos d]
        refine ⟨s', e1, e2, ?_⟩
        rw [if_pos rfl]
        rw [if_pos (j3.mpr d), pk_mul] at j4
        exact j4
      · rw [if_neg d]
        have := s6 d
        rw [if_neg (fun x => d (j3.mp x)), nI_1] at j4
        obtain ⟨t, k1, k2, k3⟩ := ih (r + 1) fu _ s' v3' (by omega) (by omega) (by omega) (hc.s e1) s1 e2 j2
        exact ⟨t, e1.trans k1, k2, j4.trans k3⟩
theorem settle_ok {G q : Nat} {s : St} {v3 : Int32} (hG : sOK G q) (hc : Cz s P) (hg : setsOK P.W P.H P.C g) (hw : hasWr (s.2.1 q) P.W P.H g) (hm : ∀ m, m < P.L → bt v3 m = false → rst P g m) : ∃ s', SFr q s s' ∧ hasWr (s'.2.1 q) P.W P.H (restP P g).2.2 ∧ f_X5_settle G v3 s = some (if (restP P g).1 = true then nI ((restP P g).2.1 * P.L) else -2, s') := by
  have h := szG_le hc.1 hg
  obtain ⟨s', a, b, c⟩ := settle5 hG 600 1 FU g s v3 (by omega) (by omega) (by unfold FU; omega) hc hg hw hm
  refine ⟨s', a, b, ?_⟩
  unfold f_X5_settle
  rw [if_neg (fun x => x hG.1)]
  exact c
/-! model -/
theorem nI_m2 {n : Nat} (h : n < 2 ^ 31) : ¬ nI n = -2 := by
  intro e
  have := congrArg Int32.toInt e
  rw [nI_toInt h] at this
  have h2 : (-2 : Int32).toInt = -2 := by decide +kernel
  omega
theorem Mz.lines {s : St} (h : Mz s P) : f_X9_lines s = some (nI P.L, s) := by
  unfold f_X9_lines
  rw [h.2.1, h.2.2.1, nI_add]
  rfl
/-- the frame of toRest -/
def TFr (q base : Nat) (s s' : St) : Prop := (∀ a, a ≠ 58 → a ≠ 59 → a ≠ q → a ≠ 43 → s'.1 a = s.1 a) ∧ (∀ b, b ≠ 32 → b ≠ 33 → b ≠ 37 → s'.1 43 b = s.1 43 b) ∧ (∀ a b, ¬ (a = 43 ∧ b = 36) → s'.2.1 a b = s.2.1 a b) ∧ ∀ j, (j < base ∨ base + 144 ≤ j) → s'.1 q j = s.1 q j
theorem TFr.rfl' {q base : Nat} {s : St} : TFr q base s s := ⟨fun _ _ _ _ _ => rfl, fun _ _ _ _ => rfl, fun _ _ _ => rfl, fun _ _ => rfl⟩
theorem TFr.trans {q base : Nat} {s t u : St} (h : TFr q base s t) (g : TFr q base t u) : TFr q base s u := ⟨fun a a1 a2 a3 a4 => (g.1 a a1 a2 a3 a4).trans (h.1 a a1 a2 a3 a4), fun b b1 b2 b3 => (g.2.1 b b1 b2 b3).trans (h.2.1 b b1 b2 b3), fun a b c => (g.2.2.1 a b c).trans (h.2.2.1 a b c), fun j hj => (g.2.2.2 j hj).trans (h.2.2.2 j hj)⟩
theorem MFr.t {q base : Nat} {s s' : St} (h : MFr q base s s') : TFr q base s s' := ⟨h.1, fun b b1 b2 _ => h.2.1 b b1 b2, h.2.2⟩
theorem TFr.s37 {q base : Nat} {s : St} {v : Int32} (hq : qOK q base) : TFr q base s (sF s 43 37 v) := ⟨fun a _ _ _ h => sF_ne h, fun b _ _ h => sF_nj h, fun _ _ _ => rfl, fun j _ => by rw [sF_ne hq.2.1.1]⟩
theorem Mz.tr {q base : Nat} {s s' : St} (h : Mz s P) (hq : qOK q base) (f : TFr q base s s') : Mz s' P := by
  obtain ⟨-, ⟨q1, q2, q3, q4, q5, q6⟩, -⟩ := hq
  unfold Mz
  rw [f.1 44 (by decide) (by decide) (fun e => q2 e.symm) (by decide), f.1 45 (by decide) (by decide) (fun e => q3 e.symm) (by decide), f.1 46 (by decide) (by decide) (fun e => q4 e.symm) (by decide), f.2.1 1 (by decide) (by decide) (by decide), f.2.1 2 (by decide) (by decide) (by decide), f.2.1 3 (by decide) (by decide) (by decide)]
  exact h
theorem rest16 {q base : Nat} {K : Int32 → Int32 → St → Option (Int32 × St)} (hq : qOK q base) : ∀ (k c N fu : Nat) (g : Gs) (s : St), k ≤ P.L → k < fu → c + 12 * k < 1000 → N + k < 2 ^ 30 → Mz s P → setsOK P.W P.H P.C g → hasM s q base P.W P.H g → s.1 43 37 = nI N → ∃ s', TFr q base s s' ∧ hasM s' q base P.W P.H (swp P k g c).2.2 ∧ (((swp P k g c).1 = false ∧ f_X9_toRest_16 q K fu (nI base) (nI c) (nI (P.L - k)) s = some (0, s')) ∨ ((swp P k g c).1 = true ∧ s'.1 43 37 = nI (N + k) ∧ f_X9_toRest_16 q K fu (nI base) (nI c) (nI (P.L - k)) s = K (nI base) (nI (swp P k g c).2.1) s')) := by
  intro k
  induction k with
  | zero =>
    intro c N fu g s hk hf hcc hN hm hg hh h37
    obtain ⟨fu, rfl⟩ : ∃ z, fu = z + 1 := ⟨fu - 1, by omega⟩
    have hL := Pz.L_le hm.1
    refine ⟨s, TFr.rfl', hh, Or.inr ⟨rfl, h37, ?_⟩⟩
    rw [f_X9_toRest_16, hm.lines, obs, if_pos (nI_le (show P.L ≤ P.L - 0 from Nat.le_refl _) (by omega))]
    rfl
  | succ k ih =>
    intro c N fu g s hk hf hcc hN hm hg hh h37
    obtain ⟨fu, rfl⟩ : ∃ z, fu = z + 1 := ⟨fu - 1, by omega⟩
    have hP := hm.1
    have hL := Pz.L_le hP
    have hnx : P.L - (k + 1) + 1 = P.L - k := by omega
    rw [swp]
    have hl : P.L - (k + 1) < P.L := by omega
    revert hnx hl
    generalize P.L - (k + 1) = l
    intro hnx hl
    have hexp : f_X9_toRest_16 q K (fu + 1) (nI base) (nI c) (nI l) s = Option.bind (f_X9_lineRule q (nI base) (nI l) (sF s 43 37 (nI (N + 1)))) fun r4 => if r4.1 = (-2 : Int32) then some ((0 : Int32), r4.2) else f_X9_toRest_16 q K fu (nI base) (nI c + r4.1) (nI l + 1) r4.2 := by
      rw [f_X9_toRest_16, hm.lines, obs, if_neg (nI_ge hl (by omega)), obs]
      show Option.bind (f_X9_lineRule q (nI base) (nI l) (sF s 43 37 (s.1 43 37 + 1))) _ = _
      rw [h37, nI_1]
    have fr0 : TFr q base s (sF s 43 37 (nI (N + 1))) := TFr.s37 hq
    have hm0 := hm.tr hq fr0
    have hh0 : hasM (sF s 43 37 (nI (N + 1))) q base P.W P.H g := by unfold hasM; rw [sF_ne hq.2.1.1]; exact hh
    obtain ⟨t, f1, f2⟩ := lineRule9 (g := g) hm0 hq hl (ok16 hP hg) hh0
    rcases f2 with ⟨b1, b2, b3⟩ | ⟨b1, b2, b3⟩
    · have he : (wy P g l).isEmpty = true := by
        rw [List.isEmpty_iff]
        cases hw' : wy P g l with
        | nil => rfl
        | cons w ws => exact absurd (by rw [hw']; simp) (b1 w)
      rw [if_pos he]
      refine ⟨t, fr0.trans f1.t, b3, Or.inl ⟨rfl, ?_⟩⟩
      rw [hexp, b2, obs, if_pos rfl]
    · have he : ¬ (wy P g l).isEmpty = true := by
        obtain ⟨w, hw⟩ := b1
        intro he
        rw [List.isEmpty_iff] at he
        rw [he] at hw
        simp at hw
      rw [if_neg he]
      have hs : smL (chg P g l) (P.n l) ≤ 12 := by
        have := smL_le (f := chg P g l) (c := 1) (fun j => by rcases chg01 (P := P) (g := g) (l := l) (p := j) with z | z <;> omega) (P.n l)
        have := (Pz.n_le (l := l) hP).2
        omega
      have h37' : t.1 43 37 = nI (N + 1) := by rw [f1.2.1 37 (by decide) (by decide), sF_at]
      have hg' := nar_ok hP hl hP.2.2.1.2 hg b1
      have hexp2 : f_X9_toRest_16 q K (fu + 1) (nI base) (nI c) (nI l) s = f_X9_toRest_16 q K fu (nI base) (nI (c + smL (chg P g l) (P.n l))) (nI (P.L - k)) t := by
        rw [hexp, b2, obs, if_neg (nI_m2 (by omega)), nI_add, nI_1, hnx]
      obtain ⟨s', i1, i2, i3⟩ := ih (c + smL (chg P g l) (P.n l)) (N + 1) fu (nar P g l) t (by omega) (by omega) (by omega) (by omega) (hm0.fr hq f1) hg' b3 h37'
      refine ⟨s', fr0.trans (f1.t.trans i1), i2, ?_⟩
      rcases i3 with ⟨j1, j2⟩ | ⟨j1, j2, j3⟩
      · exact Or.inl ⟨j1, hexp2.trans j2⟩
      · exact Or.inr ⟨j1, by rw [j2, show N + 1 + k = N + (k + 1) by omega], hexp2.trans j3⟩
theorem rest7 {q base : Nat} (hq : qOK q base) : ∀ (f r c fu : Nat) (g : Gs) (s : St), szG P g < f → 1 ≤ r → r + szG P g ≤ 1000 → f < fu → 1 ≤ c → c < 1000 → Mz s P → setsOK P.W P.H P.C g → hasM s q base P.W P.H g → s.1 43 37 = nI ((r - 1) * P.L) → ∃ s', TFr q base s s' ∧ hasM s' q base P.W P.H (rstF P f r g).2.2 ∧ f_X9_toRest_7 q fu (nI base) (nI c) s = some (if (rstF P f r g).1 = true then 1 else 0, s') ∧ ((rstF P f r g).1 = true → s'.1 43 37 = nI ((rstF P f r g).2.1 * P.L)) := by
  intro f
  induction f with
  | zero => intro r c fu g s h; omega
  | succ f ih =>
    intro r c fu g s h hr1 hr hfu hc1 hc2 hm hg hh h37
    obtain ⟨fu, rfl⟩ : ∃ z, fu = z + 1 := ⟨fu - 1, by omega⟩
    have hP := hm.1
    have hL := Pz.L_le hP
    obtain ⟨s1, s2, s3, s4, s5, s6⟩ := swp_spec hP P.L g 0 (Nat.le_refl _) hg
    have hNL : (r - 1) * P.L ≤ 1000 * 24 := Nat.mul_le_mul (by omega) hL.2
    obtain ⟨s', e1, e2, e3⟩ := rest16 (K := f_X9_toRest_7 q fu) hq P.L 0 ((r - 1) * P.L) FU g s (Nat.le_refl _) (by unfold FU; omega) (by omega) (by omega) hm hg hh h37
    rw [Nat.sub_self] at e3
    have hrL : (r - 1) * P.L + P.L = r * P.L := by
      obtain ⟨z, rfl⟩ : ∃ z, r = z + 1 := ⟨r - 1, by omega⟩
      rw [show z + 1 - 1 = z from rfl, Nat.succ_mul]
    rw [rstF, f_X9_toRest_7, if_neg (nI_nle (by omega) (by omega))]
    rcases e3 with ⟨j1, j2⟩ | ⟨j1, j2, j3⟩
    · rw [j1, if_neg (by decide)]
      exact ⟨s', e1, e2, j2, fun h => by cases h⟩
    · rw [if_pos j1]
      rw [hrL] at j2
      by_cases d : (swp P P.L g 0).2.1 = 0
      · rw [if_pos d]
        refine ⟨s', e1, e2, ?_, fun _ => j2⟩
        rw [if_pos rfl]
        refine j3.trans ?_
        obtain ⟨fu, rfl⟩ : ∃ z, fu = z + 1 := ⟨fu - 1, by omega⟩
        rw [d, f_X9_toRest_7, if_pos (by decide)]
      · rw [if_neg d]
        have := s6 d
        obtain ⟨t, k1, k2, k3, k4⟩ := ih (r + 1) (swp P P.L g 0).2.1 fu _ s' (by omega) (by omega) (by omega) (by omega) (by omega) (by omega) (hm.tr hq e1) s1 e2 j2
        exact ⟨t, e1.trans k1, k2, j3.trans k3, k4⟩
theorem toRest9 {q base : Nat} {s : St} (hq : qOK q base) (hm : Mz s P) (hg : setsOK P.W P.H P.C g) (hh : hasM s q base P.W P.H g) : ∃ s', TFr q base s s' ∧ hasM s' q base P.W P.H (restP P g).2.2 ∧ f_X9_toRest q (nI base) s = some (if (restP P g).1 = true then 1 else 0, s') ∧ ((restP P g).1 = true → s'.1 43 37 = nI ((restP P g).2.1 * P.L)) := by
  have h := szG_le hm.1 hg
  have fr0 : TFr q base s (sF s 43 37 0) := TFr.s37 hq
  obtain ⟨s', a, b, c, d⟩ := rest7 hq 600 1 1 FU g (sF s 43 37 0) (by omega) (by omega) (by omega) (by unfold FU; omega) (by omega) (by omega) (hm.tr hq fr0) hg (by unfold hasM; rw [sF_ne hq.2.1.1]; exact hh) (by rw [sF_at, Nat.sub_self, Nat.zero_mul]; rfl)
  exact ⟨s', fr0.trans a, b, c, d⟩
end Rest2
