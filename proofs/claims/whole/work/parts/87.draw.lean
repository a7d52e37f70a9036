/-! draw -/
theorem cpI0 {s : St} {a b m : Nat} (ha : arT a = 1) (hb : arT b = 1) (h1 : m ≤ arN a) (h2 : m ≤ arN b) (hm : m < 2 ^ 31) : cpI s a 0 b 0 (nI m) = some (sRow s b (fun j => if j < m then s.1 a j else s.1 b j)) := by
  unfold cpI
  have hok : cpOK 0 0 (nI m) a b = true := by
    unfold cpOK
    rw [nI_clamp hm, show (0 : Int32).toNatClampNeg = 0 from rfl]
    simp only [Bool.and_eq_true, decide_eq_true_eq]
    exact ⟨⟨⟨⟨by decide, by decide⟩, nI_pos' hm⟩, by omega⟩, by omega⟩
  rw [if_pos ⟨⟨ha, hb⟩, hok⟩, nI_clamp hm, show (0 : Int32).toNatClampNeg = 0 from rfl]
  congr 2
  funext j
  unfold va_cpy
  by_cases c : j < m
  · rw [if_pos ⟨Nat.zero_le _, by omega⟩, if_pos c, Nat.zero_add, Nat.sub_zero]
  · rw [if_neg (by omega), if_neg c]
theorem copy37 {s : St} : ∃ s', f_X0_copy 3 7 s = some s' ∧ (∀ a, a ≠ 3 → a ≠ 4 → a ≠ 5 → a ≠ 6 → s'.1 a = s.1 a) ∧ s'.2 = s.2 ∧ (s'.1 3 3 = s.1 7 3 ∧ s'.1 3 4 = s.1 7 4 ∧ s'.1 3 5 = s.1 7 5 ∧ s'.1 3 6 = s.1 7 6) ∧ (∀ j, j < 24 → s'.1 4 j = s.1 8 j) ∧ ∀ j, j < 288 → s'.1 5 j = s.1 9 j ∧ s'.1 6 j = s.1 10 j := by
  generalize h4 : sF (sF (sF (sF s 3 3 (s.1 7 3)) 3 4 (s.1 7 4)) 3 5 (s.1 7 5)) 3 6 (s.1 7 6) = s4
  have r4 : ∀ a, a ≠ 3 → s4.1 a = s.1 a := fun a ha => by rw [← h4, sF_ne ha, sF_ne ha, sF_ne ha, sF_ne ha]
  refine ⟨sRow (sRow (sRow s4 4 (fun j => if j < 24 then s.1 8 j else s4.1 4 j)) 5 (fun j => if j < 288 then s.1 9 j else s4.1 5 j)) 6 (fun j => if j < 288 then s.1 10 j else s4.1 6 j), ?_, fun a a1 a2 a3 a4 => ?_, ?_, ?_, fun j hj => ?_, fun j hj => ⟨?_, ?_⟩⟩
  · unfold f_X0_copy
    rw [if_neg (fun x => x rfl), if_neg (fun x => x rfl), obs, obs, obs, obs, sF_ne (by decide), sF_ne (by decide), sF_ne (by decide), sF_ne (by decide), sF_ne (by decide), sF_ne (by decide), h4]
    rw [show aLen (rf 3 0) = some (nI 24) from rfl, obs]
    show Option.bind (cpI s4 8 0 4 0 (nI 24)) _ = _
    rw [cpI0 rfl rfl (by decide) (by decide) (by decide), obs, r4 8 (by decide)]
    rw [show aLen (rf 3 1) = some (nI 288) from rfl, obs]
    show Option.bind (cpI (sRow s4 4 (fun j => if j < 24 then s.1 8 j else s4.1 4 j)) 9 0 5 0 (nI 288)) _ = _
    rw [cpI0 rfl rfl (by decide) (by decide) (by decide), obs, sRow_get, if_neg (by decide), r4 9 (by decide), sRow_get, if_neg (by decide)]
    rw [show aLen (rf 3 2) = some (nI 288) from rfl, obs]
    show Option.bind (cpI (sRow (sRow s4 4 (fun j => if j < 24 then s.1 8 j else s4.1 4 j)) 5 (fun j => if j < 288 then s.1 9 j else s4.1 5 j)) 10 0 6 0 (nI 288)) _ = _
    rw [cpI0 rfl rfl (by decide) (by decide) (by decide), obs, sRow_get, if_neg (by decide), sRow_get, if_neg (by decide), r4 10 (by decide), sRow_get, if_neg (by decide), sRow_get, if_neg (by decide)]
  · rw [sRow_get, if_neg a4, sRow_get, if_neg a3, sRow_get, if_neg a2, r4 a a1]
  · rw [← h4]
    rfl
  · rw [sRow_get, if_neg (by decide), sRow_get, if_neg (by decide), sRow_get, if_neg (by decide), ← h4]
    exact ⟨by rw [sF_nj (by decide), sF_nj (by decide), sF_nj (by decide), sF_at], by rw [sF_nj (by decide), sF_nj (by decide), sF_at], by rw [sF_nj (by decide), sF_at], by rw [sF_at]⟩
  · rw [sRow_get, if_neg (by decide), sRow_get, if_neg (by decide), sRow_get, if_pos rfl, if_pos hj]
  · rw [sRow_get, if_neg (by decide), sRow_get, if_pos rfl, if_pos hj]
  · rw [sRow_get, if_pos rfl, if_pos hj]
/-- the model's lines below n are drawn -/
def drM (P : Pz) (h : Nat → Int32) (n : Nat) (s : St) : Prop := ∀ l, l < n → s.1 44 l = nI (RD P h l).1 ∧ ∀ k, k < (RD P h l).1 → s.1 45 (12 * l + k) = nI ((RD P h l).2.1 k) ∧ s.1 46 (12 * l + k) = nI ((RD P h l).2.2 k)
def dFr (s s' : St) : Prop := (∀ a, a ≠ 44 → a ≠ 45 → a ≠ 46 → a ≠ 64 → a ≠ 65 → s'.1 a = s.1 a) ∧ s'.2 = s.2
section Draw
variable {P : Pz} {h : Nat → Int32}
theorem draw37 {K16 : Int32 → St → Option (Int32 × St)} {l : Nat} (hl : l < 24) {c : Nat} (hc : c ≤ 12) {len col : Nat → Nat} : ∀ (m k fu : Nat) (s : St), k + m = c → m < fu → s.1 44 l = nI c → (∀ j, j < c → s.1 64 j = nI (len j) ∧ s.1 65 j = nI (col j)) → (∀ j, j < k → s.1 45 (12 * l + j) = nI (len j) ∧ s.1 46 (12 * l + j) = nI (col j)) → ∃ s', f_X9_draw_37 K16 fu (nI l) (nI k) s = K16 (nI (l + 1)) s' ∧ (∀ a, a ≠ 45 → a ≠ 46 → s'.1 a = s.1 a) ∧ s'.2 = s.2 ∧ (∀ j, (j < 12 * l ∨ 12 * l + 12 ≤ j) → s'.1 45 j = s.1 45 j ∧ s'.1 46 j = s.1 46 j) ∧ ∀ j, j < c → s'.1 45 (12 * l + j) = nI (len j) ∧ s'.1 46 (12 * l + j) = nI (col j) := by
  intro m
  induction m with
  | zero =>
    intro k fu s h1 h2 h44 h64 h45
    obtain ⟨fu, rfl⟩ : ∃ z, fu = z + 1 := ⟨fu - 1, by omega⟩
    obtain rfl : k = c := by omega
    refine ⟨s, ?_, fun _ _ _ => rfl, rfl, fun _ _ => ⟨rfl, rfl⟩, h45⟩
    rw [f_X9_draw_37, aI_nI rfl (by show l < 24; omega) (by decide), obs, h44, if_pos (nI_le (Nat.le_refl _) (by omega)), nI_1]
  | succ m ih =>
    intro k fu s h1 h2 h44 h64 h45
    obtain ⟨fu, rfl⟩ : ∃ z, fu = z + 1 := ⟨fu - 1, by omega⟩
    have hk : k < c := by omega
    generalize ht : sF (sF s 45 (12 * l + k) (nI (len k))) 46 (12 * l + k) (nI (col k)) = t
    have key : f_X9_draw_37 K16 (fu + 1) (nI l) (nI k) s = f_X9_draw_37 K16 fu (nI l) (nI (k + 1)) t := by
      rw [f_X9_draw_37, aI_nI rfl (by show l < 24; omega) (by decide), obs, h44, if_neg (nI_ge hk (by omega)), aI_nI rfl (by show k < 12; omega) (by decide), obs, (h64 k hk).1, at12, pI_nI rfl (by show 12 * l + k < 288; omega) (by decide), obs, aI_nI rfl (by show k < 12; omega) (by decide), obs, sF_ne (by decide), (h64 k hk).2, pI_nI rfl (by show 12 * l + k < 288; omega) (by decide), obs, nI_1, ht]
    have t0 : ∀ a, a ≠ 45 → a ≠ 46 → t.1 a = s.1 a := fun a a1 a2 => by rw [← ht, sF_ne a2, sF_ne a1]
    have t45 : ∀ j, t.1 45 j = if j = 12 * l + k then nI (len k) else s.1 45 j := fun j => by
      rw [← ht, sF_ne (by decide), sF_get]
      by_cases e : j = 12 * l + k
      · rw [if_pos ⟨rfl, e⟩, if_pos e]
      · rw [if_neg (fun z => e z.2), if_neg e]
    have t46 : ∀ j, t.1 46 j = if j = 12 * l + k then nI (col k) else s.1 46 j := fun j => by
      rw [← ht, sF_get]
      by_cases e : j = 12 * l + k
      · rw [if_pos ⟨rfl, e⟩, if_pos e]
      · rw [if_neg (fun z => e z.2), if_neg e, sF_ne (by decide)]
    obtain ⟨s', i1, i2, i3, i4, i5⟩ := ih (k + 1) fu t (by omega) (by omega) (by rw [t0 44 (by decide) (by decide)]; exact h44) (fun j hj => by rw [t0 64 (by decide) (by decide), t0 65 (by decide) (by decide)]; exact h64 j hj) (fun j hj => by
      rw [t45, t46]
      by_cases e : j = k
      · rw [if_pos (by omega), if_pos (by omega), e]
        exact ⟨rfl, rfl⟩
      · rw [if_neg (by omega), if_neg (by omega)]
        exact h45 j (by omega))
    refine ⟨s', key.trans i1, fun a a1 a2 => by rw [i2 a a1 a2, t0 a a1 a2], by rw [i3, ← ht]; rfl, fun j hj => ?_, i5⟩
    rw [(i4 j hj).1, (i4 j hj).2, t45, t46, if_neg (by omega), if_neg (by omega)]
    exact ⟨rfl, rfl⟩
theorem draw16 (hP : P.ok) (hh : ∀ c, c < 144 → gVal P.C (h c)) : ∀ (k fu : Nat) (s : St), k ≤ P.L → k < fu → Sz s P → (∀ j, j < 144 → s.1 48 j = h j) → drM P h (P.L - k) s → ∃ s', f_X9_draw_16 fu (nI (P.L - k)) s = (Option.bind (f_X9_isNew s') fun s3 => Option.bind (f_X9_runMany s3) fun r4 => some (r4.1, r4.2)) ∧ dFr s s' ∧ drM P h P.L s' := by
  have hL := Pz.L_le hP
  intro k
  induction k with
  | zero =>
    intro fu s hk hf hm h48 hd
    obtain ⟨fu, rfl⟩ : ∃ z, fu = z + 1 := ⟨fu - 1, by omega⟩
    refine ⟨s, ?_, ⟨fun _ _ _ _ _ _ => rfl, rfl⟩, hd⟩
    rw [f_X9_draw_16, hm.lines, obs, if_pos (nI_le (by omega) (by omega))]
  | succ k ih =>
    intro fu s hk hf hm h48 hd
    obtain ⟨fu, rfl⟩ : ∃ z, fu = z + 1 := ⟨fu - 1, by omega⟩
    have hl : P.L - (k + 1) < P.L := by omega
    have hnx : P.L - (k + 1) + 1 = P.L - k := by omega
    revert hl hnx hd
    generalize P.L - (k + 1) = l
    intro hd hl hnx
    have h12 := RD_le hP hh hl
    obtain ⟨t, e1, e2, e3, e4⟩ := reads9 hl hh hm h48
    generalize hu : sF t 44 l (nI (RD P h l).1) = u
    have u0 : ∀ a, a ≠ 44 → u.1 a = t.1 a := fun a ha => by rw [← hu, sF_ne ha]
    obtain ⟨w, g1, g2, g3, g4, g5⟩ := draw37 (K16 := f_X9_draw_16 fu) (l := l) (by omega) h12 (len := (RD P h l).2.1) (col := (RD P h l).2.2) (RD P h l).1 0 FU u (by omega) (by unfold FU; omega) (by rw [← hu, sF_at]) (fun j hj => by rw [u0 64 (by decide), u0 65 (by decide)]; exact e4 j hj) (fun j hj => absurd hj (Nat.not_lt_zero _))
    have key : f_X9_draw_16 (fu + 1) (nI l) s = f_X9_draw_16 fu (nI (P.L - k)) w := by
      rw [f_X9_draw_16, hm.lines, obs, if_neg (nI_ge hl (by omega))]
      show Option.bind (f_X9_readsAs (nI l) s) _ = _
      rw [e1, obs]
      show Option.bind (pI t 44 (nI l) (nI (RD P h l).1)) _ = _
      rw [pI_nI rfl (by show l < 24; omega) (by decide), obs, hu, ← hnx]
      exact g1
    have w0 : ∀ a, a ≠ 44 → a ≠ 45 → a ≠ 46 → a ≠ 64 → a ≠ 65 → w.1 a = s.1 a := fun a a1 a2 a3 a4 a5 => by rw [g2 a a2 a3, u0 a a1, e2 a a4 a5]
    have w44 : ∀ j, w.1 44 j = if j = l then nI (RD P h l).1 else s.1 44 j := fun j => by
      rw [g2 44 (by decide) (by decide), ← hu, sF_get]
      by_cases e : j = l
      · rw [if_pos ⟨rfl, e⟩, if_pos e]
      · rw [if_neg (fun z => e z.2), if_neg e, e2 44 (by decide) (by decide)]
    have hmw : Sz w P := by
      unfold Sz
      rw [w0 43 (by decide) (by decide) (by decide) (by decide) (by decide)]
      exact hm
    have hdw : drM P h (P.L - k) w := by
      rw [← hnx]
      intro j hj
      by_cases e : j = l
      · rw [e, w44, if_pos rfl]
        exact ⟨rfl, g5⟩
      · rw [w44, if_neg e]
        refine ⟨(hd j (by omega)).1, fun i hi => ?_⟩
        have h12j := RD_le (l := j) hP hh (by omega)
        rw [(g4 (12 * j + i) (by omega)).1, (g4 (12 * j + i) (by omega)).2, u0 45 (by decide), u0 46 (by decide), e2 45 (by decide) (by decide), e2 46 (by decide) (by decide)]
        exact (hd j (by omega)).2 i hi
    obtain ⟨s', i1, i2, i3⟩ := ih fu w (by omega) (by omega) hmw (fun j hj => by rw [w0 48 (by decide) (by decide) (by decide) (by decide) (by decide)]; exact h48 j hj) hdw
    refine ⟨s', key.trans i1, ⟨fun a a1 a2 a3 a4 a5 => by rw [i2.1 a a1 a2 a3 a4 a5, w0 a a1 a2 a3 a4 a5], ?_⟩, i3⟩
    rw [i2.2, g3, ← hu]
    exact e3
end Draw
theorem Inv.ofNew {s : St} {W H C : Nat} (hT : iTape s) (hF : s.1 0 13 = s.1 43 19) (hz : iSize s W H C) (h12 : s.1 0 12 = 0) (h10 : s.1 43 10 = 0) (f2 : s.1 33 2 = 0) (f3 : s.1 33 3 = -1) (m12 : s.1 43 12 = -1) (m11 : s.1 43 11 = 0) (hr : iRuns s W H C) (g1 : iGrid s W H C 12 13 47) (g2 : iGrid s W H C 14 15 48) : Inv s :=
  ⟨hT, hF, W, H, C, hz, ⟨h12.trans h10.symm, Or.inl h12⟩, ⟨f3.trans m12.symm, 0, by omega, f2, Or.inl ⟨m11, rfl⟩, fun x y _ _ => ⟨fun h => absurd h (by omega), fun h => absurd h (by omega)⟩⟩, fun _ => ⟨hr, g1, g2⟩⟩
theorem grid_none {s : St} {W H C o k m : Nat} (hk : ∀ c, c < 144 → s.1 k c = -1) (hm : ∀ c, c < 144 → s.1 m c = -1) (ho : s.1 o 1 = 0) : iGrid s W H C o k m := by
  refine ⟨fun c hc => ⟨(hk c hc).trans (hm c hc).symm, Or.inl (hk c hc)⟩, fun x y hy hx _ => hk _ (by omega), ?_⟩
  rw [cntG_none 144 hk]
  exact ho
theorem st_draw {s : St} (hI : Inv s) : Step f_X8_draw f_X9_draw s := by
  obtain ⟨h1, h2, W, H, C, hz, hs, hf, hr⟩ := id hI
  by_cases hW : W = 0
  · subst hW
    refine ⟨-1, s, sF s 43 0 0, ?_, ?_, hI.thrown⟩
    · unfold f_X8_draw
      rw [hasP8 hz, if_pos rfl, obs, if_pos rfl]
    · unfold f_X9_draw
      rw [obs, noPz hz, obs, if_pos rfl]
  have hp : f_X8_hasPuzzle s = some (1, s) := by rw [hasP8 hz, if_neg hW]
  obtain ⟨P, rfl, rfl, rfl, hc, hm⟩ := hI.px hz (by omega)
  have hP := hc.1
  obtain ⟨⟨W1, W2⟩, ⟨H1, H2⟩, ⟨C1, C2⟩, -⟩ := id hP
  have hL := Pz.L_le hP
  obtain ⟨hrn, hg13, hg15⟩ := hr W1
  have f15 : ∀ c, c < 144 → gVal P.C (s.1 15 c) := fun c hc => (hg15.1 c hc).2
  obtain ⟨sA, a1, a2, a3, ⟨a4, a5, a6⟩, a7⟩ := draft7 hc f15
  obtain ⟨sB, b1, b2, b3, ⟨b4, b5, b6, b7⟩, b8, b9⟩ := copy37 (s := sA)
  generalize hsC : sF (sF (sF (sF (fillR sB 13 144 (-1)) 12 1 0) 0 12 0) 33 2 0) 33 3 (-1) = sC
  have eC : f_X8_beginPuzzle sB = some sC := by rw [beginP, hsC]
  have rC : ∀ a b, a ≠ 13 → a ≠ 12 → a ≠ 33 → ¬ (a = 0 ∧ b = 12) → sC.1 a b = sB.1 a b := fun a b x1 x2 x3 x4 => by
    rw [← hsC, sF_ne x3, sF_ne x3, sF_get, if_neg x4, sF_ne x2, fillR_get, if_neg (fun z => x1 z.1)]
  have rD : ∀ a b, a ≠ 13 → a ≠ 12 → a ≠ 33 → ¬ (a = 0 ∧ b = 12) → (a < 3 ∨ 10 < a) → sC.1 a b = s.1 a b := fun a b x1 x2 x3 x4 x5 => by
    rw [rC a b x1 x2 x3 x4, b2 a (by omega) (by omega) (by omega) (by omega), a2 a (by omega) (by omega) (by omega) (by omega)]
  have hi : ∀ a, 43 ≤ a → sC.1 a = s.1 a := fun a ha => by
    funext b
    exact rD a b (by omega) (by omega) (by omega) (by omega) (by omega)
  have hmC : Sz (sF sC 43 0 0) P := (hm.hi hi : Mz sC P).sz
  obtain ⟨t, c1, c2, c3⟩ := draw16 (h := s.1 15) hP f15 P.L FU (sF sC 43 0 0) (Nat.le_refl _) (by unfold FU; omega) hmC (fun j hj => by rw [sF_ne (by decide), hi 48 (by omega)]; exact (hg15.1 j hj).1.symm) (by rw [Nat.sub_self]; exact fun l hl => absurd hl (Nat.not_lt_zero _))
  rw [Nat.sub_self] at c1
  generalize hu : fillR (sF (sF (sF t 43 10 0) 43 11 0) 43 12 (-1)) 47 144 (-1) = u
  have rU : ∀ a b, a ≠ 47 → ¬ (a = 43 ∧ (b = 10 ∨ b = 11 ∨ b = 12)) → u.1 a b = t.1 a b := fun a b x1 x2 => by
    rw [← hu, fillR_get, if_neg (fun z => x1 z.1), sF_get, if_neg (by omega), sF_get, if_neg (by omega), sF_get, if_neg (by omega)]
  have rT : ∀ a b, a ≠ 44 → a ≠ 45 → a ≠ 46 → a ≠ 64 → a ≠ 65 → a ≠ 47 → ¬ (a = 43 ∧ (b = 0 ∨ b = 10 ∨ b = 11 ∨ b = 12)) → u.1 a b = sC.1 a b := fun a b x1 x2 x3 x4 x5 x6 x7 => by
    rw [rU a b x6 (by omega), c2.1 a x1 x2 x3 x4 x5, sF_get, if_neg (by omega)]
  have zu : iSize u P.W P.H P.C := by
    obtain ⟨z1, z2, z3, z4, z5, z6, z7⟩ := id hz
    refine ⟨?_, ?_, ?_, ?_, ?_, ?_, z7⟩
    · rw [rT 3 3 (by decide) (by decide) (by decide) (by decide) (by decide) (by decide) (by decide), rC 3 3 (by decide) (by decide) (by decide) (by decide), b4, a4]
    · rw [rT 3 4 (by decide) (by decide) (by decide) (by decide) (by decide) (by decide) (by decide), rC 3 4 (by decide) (by decide) (by decide) (by decide), b5, a5]
    · rw [rT 3 5 (by decide) (by decide) (by decide) (by decide) (by decide) (by decide) (by decide), rC 3 5 (by decide) (by decide) (by decide) (by decide), b6, a6]
    · rw [rT 43 1 (by decide) (by decide) (by decide) (by decide) (by decide) (by decide) (by decide), hi 43 (by omega)]
      exact z4
    · rw [rT 43 2 (by decide) (by decide) (by decide) (by decide) (by decide) (by decide) (by decide), hi 43 (by omega)]
      exact z5
    · rw [rT 43 3 (by decide) (by decide) (by decide) (by decide) (by decide) (by decide) (by decide), hi 43 (by omega)]
      exact z6
  have u44 : ∀ l, l < P.L → u.1 44 l = nI (RD P (s.1 15) l).1 := fun l hl => by rw [rU 44 l (by decide) (by omega)]; exact (c3 l hl).1
  have hrm := runMany9 (cn := fun l => (RD P (s.1 15) l).1) zu (fun l hl => ⟨RD_le hP f15 hl, u44 l hl⟩)
  have c36 : sC.1 3 6 = nI (smL (fun l => (RD P (s.1 15) l).1) (P.W + P.H)) := by
    rw [rC 3 6 (by decide) (by decide) (by decide) (by decide), b7]
    exact a7.2.1
  refine ⟨nI (smL (fun l => (RD P (s.1 15) l).1) (P.W + P.H)), sC, u, ?_, ?_, ?_⟩
  · unfold f_X8_draw
    rw [hp, obs, if_neg nz, a1, obs, b1, obs, eC, obs, c36]
  · unfold f_X9_draw
    have hmm : Mz (sF sC 43 0 0) P := (hm.hi hi : Mz sC P)
    rw [obs, hmm.is, obs, if_neg nz]
    show f_X9_draw_16 FU (nI 0) (sF sC 43 0 0) = _
    rw [c1, isNew9, obs, hu, hrm, obs]
  · refine Inv.ofNew (W := P.W) (H := P.H) (C := P.C) ?_ ?_ zu ?_ ?_ ?_ ?_ ?_ ?_ ?_ ?_ ?_
    · obtain ⟨n, n1, n2, n3, n4⟩ := h1
      refine ⟨n, n1, ?_, ?_, fun i hi' => ?_⟩
      · rw [rT 1 1 (by decide) (by decide) (by decide) (by decide) (by decide) (by decide) (by decide), rD 1 1 (by decide) (by decide) (by decide) (by decide) (by decide)]
        exact n2
      · rw [rT 43 16 (by decide) (by decide) (by decide) (by decide) (by decide) (by decide) (by decide), hi 43 (by omega)]
        exact n3
      · rw [rT 51 i (by decide) (by decide) (by decide) (by decide) (by decide) (by decide) (by omega), rT 2 i (by decide) (by decide) (by decide) (by decide) (by decide) (by decide) (by omega), hi 51 (by omega), rD 2 i (by decide) (by decide) (by decide) (by omega) (by decide)]
        exact n4 i hi'
    · rw [rT 0 13 (by decide) (by decide) (by decide) (by decide) (by decide) (by decide) (by decide), rT 43 19 (by decide) (by decide) (by decide) (by decide) (by decide) (by decide) (by decide), hi 43 (by omega), rD 0 13 (by decide) (by decide) (by decide) (by decide) (by decide)]
      exact h2
    · rw [rT 0 12 (by decide) (by decide) (by decide) (by decide) (by decide) (by decide) (by decide), ← hsC, sF_ne (by decide), sF_ne (by decide), sF_at]
    · rw [← hu, fillR_get, if_neg (by decide), sF_nj (by decide), sF_nj (by decide), sF_at]
    · rw [rT 33 2 (by decide) (by decide) (by decide) (by decide) (by decide) (by decide) (by decide), ← hsC, sF_nj (by decide), sF_at]
    · rw [rT 33 3 (by decide) (by decide) (by decide) (by decide) (by decide) (by decide) (by decide), ← hsC, sF_at]
    · rw [← hu, fillR_get, if_neg (by decide), sF_at]
    · rw [← hu, fillR_get, if_neg (by decide), sF_nj (by decide), sF_at]
    · refine ⟨fun l => (RD P (s.1 15) l).1, fun l => (RD P (s.1 15) l).2.1, fun l => (RD P (s.1 15) l).2.2, fun l hl => ?_, ?_⟩
      · have h12 := RD_le hP f15 hl
        obtain ⟨o1, o2, o3, -⟩ := RD_ok hP f15 hl
        have hn := Pz.n_le (l := l) hP
        have hl' : l < P.L := hl
        have hdl := a7.1 l hl
        refine ⟨h12, ?_, u44 l hl, o3, fun k hk => ?_⟩
        · rw [rT 4 l (by decide) (by decide) (by decide) (by decide) (by decide) (by decide) (by omega), rC 4 l (by decide) (by decide) (by decide) (by omega), b8 l (by omega)]
          exact hdl.1
        · have o2k := o2 k hk
          have hk' : 12 * l + k < 288 := by
            have : k < (RD P (s.1 15) l).1 := hk
            omega
          refine ⟨⟨o2k.1.1, Nat.le_trans o2k.1.2 hn.2⟩, o2k.2, ?_, ?_, ?_, ?_⟩
          · rw [rT 5 _ (by decide) (by decide) (by decide) (by decide) (by decide) (by decide) (by omega), rC 5 _ (by decide) (by decide) (by decide) (by omega), (b9 _ hk').1]
            exact (hdl.2 k hk).1
          · rw [rU 45 _ (by decide) (by omega)]
            exact ((c3 l hl).2 k hk).1
          · rw [rT 6 _ (by decide) (by decide) (by decide) (by decide) (by decide) (by decide) (by omega), rC 6 _ (by decide) (by decide) (by decide) (by omega), (b9 _ hk').2]
            exact (hdl.2 k hk).2
          · rw [rU 46 _ (by decide) (by omega)]
            exact ((c3 l hl).2 k hk).2
      · rw [rT 3 6 (by decide) (by decide) (by decide) (by decide) (by decide) (by decide) (by decide)]
        exact c36
    · refine grid_none (fun c hc => ?_) (fun c hc => ?_) ?_
      · rw [rT 13 c (by decide) (by decide) (by decide) (by decide) (by decide) (by decide) (by omega), ← hsC, sF_ne (by decide), sF_ne (by decide), sF_ne (by decide), sF_ne (by decide), fillR_get, if_pos ⟨rfl, hc⟩]
      · rw [← hu, fillR_get, if_pos ⟨rfl, hc⟩]
      · rw [rT 12 1 (by decide) (by decide) (by decide) (by decide) (by decide) (by decide) (by decide), ← hsC, sF_ne (by decide), sF_ne (by decide), sF_ne (by decide), sF_at]
    · have q15 : u.1 15 = s.1 15 := by
        funext b
        rw [rT 15 b (by decide) (by decide) (by decide) (by decide) (by decide) (by decide) (by omega), rD 15 b (by decide) (by decide) (by decide) (by omega) (by decide)]
      have q48 : u.1 48 = s.1 48 := by
        funext b
        rw [rT 48 b (by decide) (by decide) (by decide) (by decide) (by decide) (by decide) (by omega), hi 48 (by omega)]
      have q14 : u.1 14 1 = s.1 14 1 := by rw [rT 14 1 (by decide) (by decide) (by decide) (by decide) (by decide) (by decide) (by decide), rD 14 1 (by decide) (by decide) (by decide) (by decide) (by decide)]
      unfold iGrid
      rw [q15, q48, q14]
      exact hg15
