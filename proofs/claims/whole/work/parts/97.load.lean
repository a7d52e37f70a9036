/-! load -/
theorem Inv.tape0 {s : St} (hI : Inv s) (x : Int32) : Inv (sF (sF (sF (sF s 1 1 0) 0 13 x) 43 16 0) 43 19 x) := by
  obtain ⟨h1, h2, W, H, C, hz, hs, hf, hr⟩ := hI
  exact ⟨⟨0, by omega, by simp [sF_get]; rfl, by simp [sF_get]; rfl, fun i hi => absurd hi (Nat.not_lt_zero _)⟩, by simp [sF_get], W, H, C, by simpa [iSize, sF_get] using hz, by simpa [iSets, hasW, hasM, sF_get, sF_J] using hs, by simpa [iFound, sF_get] using hf, fun q => by simpa [iRuns, iGrid, sF_get, sF_ne] using hr q⟩
theorem copy206 : ∀ (m i fu : Nat) (s : St), i + m = 24 → m < fu → ∃ s', f_X9_load_206 fu (nI i) s = f_X9_load_232 FU (nI 0) s' ∧ (∀ a, a ≠ 44 → s'.1 a = s.1 a) ∧ s'.2 = s.2 ∧ ∀ j, j < 24 → s'.1 44 j = if i ≤ j then s.1 55 j else s.1 44 j := by
  intro m
  induction m with
  | zero =>
    intro i fu s h1 h2
    obtain ⟨fu, rfl⟩ : ∃ z, fu = z + 1 := ⟨fu - 1, by omega⟩
    refine ⟨s, ?_, fun _ _ => rfl, rfl, fun j hj => by rw [if_neg (by omega)]⟩
    rw [f_X9_load_206, if_pos (show (24 : Int32) ≤ nI i from nI_le (a := 24) (by omega) (by omega))]
    rfl
  | succ m ih =>
    intro i fu s h1 h2
    obtain ⟨fu, rfl⟩ : ∃ z, fu = z + 1 := ⟨fu - 1, by omega⟩
    rw [f_X9_load_206, if_neg (show ¬ (24 : Int32) ≤ nI i from nI_ge (b := 24) (by omega) (by omega)), aI_nI rfl (by show i < 24; omega) (by decide), obs, pI_nI rfl (by show i < 24; omega) (by decide), obs, nI_1]
    obtain ⟨s', e1, e2, e3, e4⟩ := ih (i + 1) fu (sF s 44 i (s.1 55 i)) (by omega) (by omega)
    refine ⟨s', e1, fun a ha => by rw [e2 a ha, sF_ne ha], e3, fun j hj => ?_⟩
    rw [e4 j hj, sF_ne (by decide)]
    by_cases c1 : i + 1 ≤ j
    · rw [if_pos c1, if_pos (by omega)]
    · rw [if_neg c1]
      by_cases c2 : j = i
      · rw [c2, sF_at, if_pos (Nat.le_refl _)]
      · rw [sF_nj c2, if_neg (by omega)]
theorem copy232 : ∀ (m i fu : Nat) (s : St), i + m = 288 → m < fu → ∃ s', f_X9_load_232 fu (nI i) s = (Option.bind (f_X9_isNew s') fun s2 => Option.bind (f_X9_noMarks s2) fun s3 => Option.bind (f_X9_runMany s3) fun r4 => some (r4.1, r4.2)) ∧ (∀ a, a ≠ 45 → a ≠ 46 → s'.1 a = s.1 a) ∧ s'.2 = s.2 ∧ ∀ j, j < 288 → s'.1 45 j = (if i ≤ j then s.1 56 j else s.1 45 j) ∧ s'.1 46 j = (if i ≤ j then s.1 57 j else s.1 46 j) := by
  intro m
  induction m with
  | zero =>
    intro i fu s h1 h2
    obtain ⟨fu, rfl⟩ : ∃ z, fu = z + 1 := ⟨fu - 1, by omega⟩
    refine ⟨s, ?_, fun _ _ _ => rfl, rfl, fun j hj => ⟨by rw [if_neg (by omega)], by rw [if_neg (by omega)]⟩⟩
    rw [f_X9_load_232, if_pos (show (288 : Int32) ≤ nI i from nI_le (a := 288) (by omega) (by omega))]
  | succ m ih =>
    intro i fu s h1 h2
    obtain ⟨fu, rfl⟩ : ∃ z, fu = z + 1 := ⟨fu - 1, by omega⟩
    rw [f_X9_load_232, if_neg (show ¬ (288 : Int32) ≤ nI i from nI_ge (b := 288) (by omega) (by omega)), aI_nI rfl (by show i < 288; omega) (by decide), obs, pI_nI rfl (by show i < 288; omega) (by decide), obs, aI_nI rfl (by show i < 288; omega) (by decide), obs, pI_nI rfl (by show i < 288; omega) (by decide), obs, nI_1, sF_ne (by decide)]
    generalize ht : sF (sF s 45 i (s.1 56 i)) 46 i (s.1 57 i) = t
    have t0 : ∀ a, a ≠ 45 → a ≠ 46 → t.1 a = s.1 a := fun a a1 a2 => by rw [← ht, sF_ne a2, sF_ne a1]
    have t45 : ∀ j, t.1 45 j = if j = i then s.1 56 i else s.1 45 j := fun j => by
      rw [← ht, sF_ne (by decide), sF_get]
      by_cases e : j = i
      · rw [if_pos ⟨rfl, e⟩, if_pos e]
      · rw [if_neg (fun z => e z.2), if_neg e]
    have t46 : ∀ j, t.1 46 j = if j = i then s.1 57 i else s.1 46 j := fun j => by
      rw [← ht, sF_get]
      by_cases e : j = i
      · rw [if_pos ⟨rfl, e⟩, if_pos e]
      · rw [if_neg (fun z => e z.2), if_neg e, sF_ne (by decide)]
    obtain ⟨s', e1, e2, e3, e4⟩ := ih (i + 1) fu t (by omega) (by omega)
    refine ⟨s', e1, fun a a1 a2 => by rw [e2 a a1 a2, t0 a a1 a2], by rw [e3, ← ht]; rfl, fun j hj => ?_⟩
    rw [(e4 j hj).1, (e4 j hj).2, t0 56 (by decide) (by decide), t0 57 (by decide) (by decide), t45, t46]
    by_cases c1 : i + 1 ≤ j
    · rw [if_pos c1, if_pos c1, if_pos (by omega), if_pos (by omega)]
      exact ⟨rfl, rfl⟩
    · rw [if_neg c1, if_neg c1]
      by_cases c2 : j = i
      · rw [if_pos c2, if_pos c2, if_pos (by omega), if_pos (by omega), c2]
        exact ⟨rfl, rfl⟩
      · rw [if_neg c2, if_neg c2, if_neg (by omega), if_neg (by omega)]
        exact ⟨rfl, rfl⟩
theorem st_load {s : St} (hI : Inv s) : Step f_X8_load f_X9_load s := by
  obtain ⟨⟨N, hN, t1', t2', t3'⟩, h2, W0, H0, C0', hz0, hs0, hf0, hr0⟩ := id hI
  -- the text
  generalize hb : (fun i => (s.1 51 i).toNatClampNeg) = b
  have hbi : ∀ i, i < N → b i < 256 ∧ s.1 51 i = nI (b i) ∧ s.1 2 i = sx (b i) := by
    intro i hi
    obtain ⟨n, n1, n2, n3⟩ := t3' i hi
    have : b i = n := by rw [← hb]; show (s.1 51 i).toNatClampNeg = n; rw [n2, nI_clamp (by omega)]
    rw [this]
    exact ⟨n1, n2, n3⟩
  have hTx : Tx s b N := ⟨hN, t1', fun i hi => ⟨(hbi i hi).1, (hbi i hi).2.2⟩⟩
  have hTm : ∀ t : St, (∀ a, 43 ≤ a → t.1 a = s.1 a) → Tm t b N := fun t ht => by
    unfold Tm
    rw [ht 43 (by omega), ht 51 (by omega)]
    exact ⟨hN, t2', fun i hi => ⟨(hbi i hi).1, (hbi i hi).2.1⟩⟩
  obtain ⟨a1, a2⟩ := readAll7 hTx
  by_cases c : (pX b N).1 = 0
  · obtain ⟨hlx, sA, d1, d2, d3, d4, d5, d6⟩ := a1 c
    -- sizes
    have hpx : pX b N = pT (tK b N) (tS b N) (tV b N) := by unfold pX; rw [hlx]
    have c' := c
    rw [hpx] at c'
    obtain ⟨y1, y2, y3, -, -⟩ := pT_0 c'
    have w0 := (szF_0 y1).2
    have w1 := (szF_0 y2).2
    have w2 := (szF_0 y3).2
    have hlow : ∀ sD : St, (∀ a, 43 ≤ a → sD.1 a = s.1 a) → ∃ t, f_X9_load sD = f_X9_load_153 t ∧ PFr sD t ∧ t.1 43 17 = 0 ∧ mSz t (tV b N 0) (tV b N 1) (tV b N 2) ∧ drN (pX b N).2.2 (tV b N 0 + tV b N 1) t := fun sD hD => (load9 (hTm sD hD)).1 c
    revert d4 d5 d6 hlow
    generalize (pX b N).2.2 = R
    generalize tV b N 0 = W at w0 ⊢
    generalize tV b N 1 = H at w1 ⊢
    generalize tV b N 2 = C at w2 ⊢
    intro d4 d5 d6 hlow
    generalize hsB0 : sF (sF sA 1 1 0) 0 13 0 = sB0
    obtain ⟨sB, b1, b2, b3, ⟨b4, b5, b6, b7⟩, b8, b9⟩ := copy37 (s := sB0)
    generalize hsC : sF (fillR sB 15 144 (-1)) 14 1 0 = sC
    generalize hsD : sF (sF (sF (sF (fillR sC 13 144 (-1)) 12 1 0) 0 12 0) 33 2 0) 33 3 (-1) = sD
    have rB0 : ∀ a i, ¬ (a = 1 ∧ i = 1) → ¬ (a = 0 ∧ i = 13) → sB0.1 a i = sA.1 a i := fun a i x1 x2 => by rw [← hsB0, sF_get, if_neg x2, sF_get, if_neg x1]
    have rD : ∀ a i, a ≠ 13 → a ≠ 12 → a ≠ 33 → a ≠ 14 → a ≠ 15 → ¬ (a = 0 ∧ i = 12) → sD.1 a i = sB.1 a i := fun a i x1 x2 x3 x4 x5 x6 => by
      rw [← hsD, sF_ne x3, sF_ne x3, sF_get, if_neg x6, sF_ne x2, fillR_get, if_neg (fun z => x1 z.1), ← hsC, sF_ne x4, fillR_get, if_neg (fun z => x5 z.1)]
    have rS : ∀ a, 43 ≤ a → sD.1 a = s.1 a := fun a ha => by
      funext i
      rw [rD a i (by omega) (by omega) (by omega) (by omega) (by omega) (by omega), b2 a (by omega) (by omega) (by omega) (by omega), rB0 a i (by omega) (by omega), d2.1 a (by omega) (by omega) (by omega) (by omega) (by omega)]
    obtain ⟨t, m1, m2, m3, m4, m5⟩ := hlow sD rS
    generalize ht7 : sF (sF (sF (sF (sF t 43 16 0) 43 19 0) 43 1 (nI W)) 43 2 (nI H)) 43 3 (nI C) = t7
    have r7 : ∀ a, a ≠ 43 → t7.1 a = t.1 a := fun a ha => by rw [← ht7, sF_ne ha, sF_ne ha, sF_ne ha, sF_ne ha, sF_ne ha]
    have h153 : f_X9_load_153 t = f_X9_load_206 FU (nI 0) t7 := by
      unfold f_X9_load_153
      rw [obs, obs, sF_nj (by decide), m3, good9 (by rw [sF_nj (by decide), sF_nj (by decide)]; exact m3), obs, if_neg nz, obs, obs, obs]
      show f_X9_load_206 FU (nI 0) (sF (sF (sF (sF (sF t 43 16 0) 43 19 0) 43 1 ((sF (sF t 43 16 0) 43 19 0).1 43 25)) 43 2 ((sF (sF (sF t 43 16 0) 43 19 0) 43 1 ((sF (sF t 43 16 0) 43 19 0).1 43 25)).1 43 26)) 43 3 ((sF (sF (sF (sF t 43 16 0) 43 19 0) 43 1 ((sF (sF t 43 16 0) 43 19 0).1 43 25)) 43 2 ((sF (sF (sF t 43 16 0) 43 19 0) 43 1 ((sF (sF t 43 16 0) 43 19 0).1 43 25)).1 43 26)).1 43 27)) = _
      have q25 : (sF (sF t 43 16 0) 43 19 0).1 43 25 = nI W := by rw [sF_nj (by decide), sF_nj (by decide)]; exact m4.1
      have q26 : (sF (sF (sF t 43 16 0) 43 19 0) 43 1 (nI W)).1 43 26 = nI H := by rw [sF_nj (by decide), sF_nj (by decide), sF_nj (by decide)]; exact m4.2.1
      have q27 : (sF (sF (sF (sF t 43 16 0) 43 19 0) 43 1 (nI W)) 43 2 (nI H)).1 43 27 = nI C := by rw [sF_nj (by decide), sF_nj (by decide), sF_nj (by decide), sF_nj (by decide)]; exact m4.2.2
      rw [q25, q26, q27, ht7]
    obtain ⟨u, u1, u2, u3, u4⟩ := copy206 24 0 FU t7 (by omega) (by unfold FU; omega)
    obtain ⟨v, v1, v2, v3, v4⟩ := copy232 288 0 FU u (by omega) (by unfold FU; omega)
    generalize hz : fillR (fillR (sF (sF (sF v 43 10 0) 43 11 0) 43 12 (-1)) 47 144 (-1)) 48 144 (-1) = z
    have rZ : ∀ a i, a ≠ 47 → a ≠ 48 → ¬ (a = 43 ∧ (i = 10 ∨ i = 11 ∨ i = 12)) → z.1 a i = v.1 a i := fun a i x1 x2 x3 => by
      rw [← hz, fillR_get, if_neg (fun q => x2 q.1), fillR_get, if_neg (fun q => x1 q.1), sF_get, if_neg (by omega), sF_get, if_neg (by omega), sF_get, if_neg (by omega)]
    have rV : ∀ a i, a ≠ 44 → a ≠ 45 → a ≠ 46 → a ≠ 43 → a ≠ 47 → a ≠ 48 → (a < 52 ∨ 57 < a) → z.1 a i = sD.1 a i := fun a i x1 x2 x3 x4 x5 x6 x7 => by
      rw [rZ a i x5 x6 (by omega), v2 a x2 x3, u2 a x1, r7 a x4, m2.1 a x4 (by omega) (by omega) (by omega) (by omega) (by omega) (by omega)]
    have z43 : ∀ i, i ≠ 10 → i ≠ 11 → i ≠ 12 → z.1 43 i = t7.1 43 i := fun i x1 x2 x3 => by rw [rZ 43 i (by decide) (by decide) (by omega), v2 43 (by decide) (by decide), u2 43 (by decide)]
    have zB : ∀ a i, a ≠ 13 → a ≠ 12 → a ≠ 33 → a ≠ 14 → a ≠ 15 → ¬ (a = 0 ∧ i = 12) → a < 43 → z.1 a i = sB.1 a i := fun a i x1 x2 x3 x4 x5 x6 x7 => by rw [rV a i (by omega) (by omega) (by omega) (by omega) (by omega) (by omega) (by omega), rD a i x1 x2 x3 x4 x5 x6]
    have zs : iSize z W H C := by
      refine ⟨?_, ?_, ?_, ?_, ?_, ?_, Or.inr (by omega)⟩
      · rw [zB 3 3 (by decide) (by decide) (by decide) (by decide) (by decide) (by decide) (by decide), b4, rB0 7 3 (by decide) (by decide)]
        exact d4.1
      · rw [zB 3 4 (by decide) (by decide) (by decide) (by decide) (by decide) (by decide) (by decide), b5, rB0 7 4 (by decide) (by decide)]
        exact d4.2.1
      · rw [zB 3 5 (by decide) (by decide) (by decide) (by decide) (by decide) (by decide) (by decide), b6, rB0 7 5 (by decide) (by decide)]
        exact d4.2.2
      · rw [z43 1 (by decide) (by decide) (by decide), ← ht7, sF_nj (by decide), sF_nj (by decide), sF_at]
      · rw [z43 2 (by decide) (by decide) (by decide), ← ht7, sF_nj (by decide), sF_at]
      · rw [z43 3 (by decide) (by decide) (by decide), ← ht7, sF_at]
    have z44 : ∀ l, l < W + H → z.1 44 l = nI (R l).1 := fun l hl => by
      rw [rZ 44 l (by decide) (by decide) (by omega), v2 44 (by decide) (by decide), u4 l (by omega), if_pos (Nat.zero_le _), r7 55 (by decide)]
      exact (m5 l hl).1
    have hrm := runMany9 (cn := fun l => (R l).1) zs (fun l hl => ⟨(d6 l hl).1.1, z44 l hl⟩)
    have z36 : sD.1 3 6 = nI (smL (fun l => (R l).1) (W + H)) := by
      rw [rD 3 6 (by decide) (by decide) (by decide) (by decide) (by decide) (by decide), b7, rB0 7 6 (by decide) (by decide)]
      exact d5.2.1
    refine ⟨nI (smL (fun l => (R l).1) (W + H)), sD, z, ?_, ?_, ?_⟩
    · unfold f_X8_load
      rw [d1, obs, obs, obs, if_neg nz]
      show Option.bind (f_X0_copy 3 7 (sF (sF sA 1 1 0) 0 13 ((sF sA 1 1 0).1 11 2))) _ = _
      rw [sF_ne (by decide), d3, hsB0, b1, obs, clear2 (g := 14) rfl rfl rfl, obs]
      show Option.bind (f_X8_beginPuzzle (sF (fillR sB 15 144 (-1)) 14 1 0)) _ = _
      rw [hsC, beginP, hsD, obs, z36]
    · rw [m1, h153, u1, v1, isNew9, obs, noMarks9, obs, hz, hrm, obs]
    · refine Inv.ofNew (W := W) (H := H) (C := C) ?_ ?_ zs ?_ ?_ ?_ ?_ ?_ ?_ ?_ ?_ ?_
      · refine ⟨0, by omega, ?_, ?_, fun i hi => absurd hi (Nat.not_lt_zero _)⟩
        · rw [zB 1 1 (by decide) (by decide) (by decide) (by decide) (by decide) (by decide) (by decide), b2 1 (by decide) (by decide) (by decide) (by decide), ← hsB0, sF_ne (by decide), sF_at]
          rfl
        · rw [z43 16 (by decide) (by decide) (by decide), ← ht7, sF_nj (by decide), sF_nj (by decide), sF_nj (by decide), sF_nj (by decide), sF_at]
          rfl
      · rw [zB 0 13 (by decide) (by decide) (by decide) (by decide) (by decide) (by decide) (by decide), b2 0 (by decide) (by decide) (by decide) (by decide), ← hsB0, sF_at, z43 19 (by decide) (by decide) (by decide), ← ht7, sF_nj (by decide), sF_nj (by decide), sF_nj (by decide), sF_at]
      · rw [rV 0 12 (by decide) (by decide) (by decide) (by decide) (by decide) (by decide) (by decide), ← hsD, sF_ne (by decide), sF_ne (by decide), sF_at]
      · rw [← hz, fillR_get, if_neg (by decide), fillR_get, if_neg (by decide), sF_nj (by decide), sF_nj (by decide), sF_at]
      · rw [rV 33 2 (by decide) (by decide) (by decide) (by decide) (by decide) (by decide) (by decide), ← hsD, sF_nj (by decide), sF_at]
      · rw [rV 33 3 (by decide) (by decide) (by decide) (by decide) (by decide) (by decide) (by decide), ← hsD, sF_at]
      · rw [← hz, fillR_get, if_neg (by decide), fillR_get, if_neg (by decide), sF_at]
      · rw [← hz, fillR_get, if_neg (by decide), fillR_get, if_neg (by decide), sF_nj (by decide), sF_at]
      · refine ⟨fun l => (R l).1, fun l => (R l).2.1, fun l => (R l).2.2, fun l hl => ?_, ?_⟩
        · obtain ⟨o1, o2⟩ := d6 l hl
          obtain ⟨p1, p2⟩ := d5.1 l hl
          obtain ⟨q1, q2⟩ := m5 l hl
          have hn : lnOf W H l ≤ 12 := by unfold lnOf; split <;> omega
          have o12 := o1.1
          refine ⟨o12, ?_, z44 l hl, o2, fun k hk => ?_⟩
          · rw [zB 4 l (by decide) (by decide) (by decide) (by decide) (by decide) (by omega) (by decide), b8 l (by omega), rB0 8 l (by omega) (by omega)]
            exact p1
          · have hk' : k < (R l).1 := hk
            have hln := len_need (len := (R l).2.1) (col := (R l).2.2) (R l).1 k hk'
            refine ⟨⟨(o1.2 k hk').1.1, by show (R l).2.1 k ≤ 12; omega⟩, (o1.2 k hk').2, ?_, ?_, ?_, ?_⟩
            · rw [zB 5 _ (by decide) (by decide) (by decide) (by decide) (by decide) (by omega) (by decide), (b9 _ (by omega)).1, rB0 9 _ (by omega) (by omega)]
              exact (p2 k hk').1
            · rw [rZ 45 _ (by decide) (by decide) (by omega), (v4 _ (by omega)).1, if_pos (Nat.zero_le _), u2 56 (by decide), r7 56 (by decide)]
              exact (q2 k hk').1
            · rw [zB 6 _ (by decide) (by decide) (by decide) (by decide) (by decide) (by omega) (by decide), (b9 _ (by omega)).2, rB0 10 _ (by omega) (by omega)]
              exact (p2 k hk').2
            · rw [rZ 46 _ (by decide) (by decide) (by omega), (v4 _ (by omega)).2, if_pos (Nat.zero_le _), u2 57 (by decide), r7 57 (by decide)]
              exact (q2 k hk').2
        · rw [rV 3 6 (by decide) (by decide) (by decide) (by decide) (by decide) (by decide) (by decide)]
          exact z36
      · refine grid_none (fun i hi => ?_) (fun i hi => ?_) ?_
        · rw [rV 13 i (by decide) (by decide) (by decide) (by decide) (by decide) (by decide) (by decide), ← hsD, sF_ne (by decide), sF_ne (by decide), sF_ne (by decide), sF_ne (by decide), fillR_get, if_pos ⟨rfl, hi⟩]
        · rw [← hz, fillR_get, if_neg (fun q => absurd q.1 (by decide)), fillR_get, if_pos ⟨rfl, hi⟩]
        · rw [rV 12 1 (by decide) (by decide) (by decide) (by decide) (by decide) (by decide) (by decide), ← hsD, sF_ne (by decide), sF_ne (by decide), sF_ne (by decide), sF_at]
      · refine grid_none (fun i hi => ?_) (fun i hi => ?_) ?_
        · rw [rV 15 i (by decide) (by decide) (by decide) (by decide) (by decide) (by decide) (by decide), ← hsD, sF_ne (by decide), sF_ne (by decide), sF_ne (by decide), sF_ne (by decide), fillR_get, if_neg (fun q => absurd q.1 (by decide)), ← hsC, sF_ne (by decide), fillR_get, if_pos ⟨rfl, hi⟩]
        · rw [← hz, fillR_get, if_pos ⟨rfl, hi⟩]
        · rw [rV 14 1 (by decide) (by decide) (by decide) (by decide) (by decide) (by decide) (by decide), ← hsD, sF_ne (by decide), sF_ne (by decide), sF_ne (by decide), sF_ne (by decide), fillR_get, if_neg (by decide), ← hsC, sF_at]
  · obtain ⟨sA, d1, d2, d3, d4⟩ := a2 c
    generalize hs1 : sF (sF sA 1 1 0) 0 13 (nI (pX b N).1) = s1
    have r1 : ∀ a, a ≠ 7 → a ≠ 8 → a ≠ 9 → a ≠ 10 → a ≠ 11 → a ≠ 0 → a ≠ 1 → s1.1 a = s.1 a := fun a x1 x2 x3 x4 x5 x6 x7 => by rw [← hs1, sF_ne x6, sF_ne x7, d2.1 a x1 x2 x3 x4 x5]
    obtain ⟨-, m2⟩ := load9 (b := b) (N := N) (s := s1) (hTm s1 (fun a ha => r1 a (by omega) (by omega) (by omega) (by omega) (by omega) (by omega) (by omega)))
    obtain ⟨t, e1, e2, e3, e4, e5⟩ := m2 c
    have hend := bad153 (x := (pX b N).1) (p := (pX b N).2.1) (by omega) e5 e3 e4
    refine ⟨-1 - nI (pX b N).2.1, s1, _, ?_, e1.trans hend, ?_⟩
    · unfold f_X8_load
      rw [d1, obs, obs, obs, if_pos rfl, sF_ne (by decide), sF_ne (by decide)]
      show some ((-1 : Int32) - (sF (sF sA 1 1 0) 0 13 ((sF sA 1 1 0).1 11 2)).1 11 3, sF (sF sA 1 1 0) 0 13 ((sF sA 1 1 0).1 11 2)) = _
      rw [sF_ne (by decide), sF_ne (by decide), d3, d4, hs1]
    · refine (hI.tape0 (nI (pX b N).1)).eqV ⟨fun i j v => ?_, fun j => ?_⟩
      · have hv := visR v
        by_cases q1 : i = 43 ∧ j = 19
        · rw [q1.1, q1.2, sF_at, sF_at]
        by_cases q2 : i = 43 ∧ j = 16
        · rw [q2.1, q2.2, sF_nj (by decide), sF_at, sF_nj (by decide), sF_at]
        rw [sF_get, if_neg q1, sF_get, if_neg q2, sF_get, if_neg q1, sF_get, if_neg q2]
        have : t.1 i j = s1.1 i j := by
          rcases hv with ⟨e, e'⟩ | e
          · rw [e, e2.2.1 j (by omega) (by omega) (by omega) (by omega) (by omega) (by omega) (by omega) (by omega) (by omega) (by omega)]
          · rw [e2.1 i (by omega) (by omega) (by omega) (by omega) (by omega) (by omega) (by omega)]
        rw [this, ← hs1, sF_get, sF_get, sF_get, sF_get, d2.1 i (by omega) (by omega) (by omega) (by omega) (by omega)]
      · show t.2.1 30 j = s.2.1 30 j
        rw [e2.2.2, ← hs1]
        show sA.2.1 30 j = _
        rw [d2.2]
