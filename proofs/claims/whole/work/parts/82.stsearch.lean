/-! search -/
theorem Inv.newFound {s s' : St} (hI : Inv s) {P : Pz} (hc : Cz s P) (r : ∀ a, [0, 1, 2, 3, 4, 5, 6, 12, 13, 14, 15, 44, 45, 46, 47, 48, 49, 51].contains a = true → s'.1 a = s.1 a) (r43 : ∀ b, [1, 2, 3, 10, 16, 19].contains b = true → s'.1 43 b = s.1 43 b) (l : ∀ b, s'.2.1 30 b = s.2.1 30 b) (hf : iFound s' P.W P.H P.C) : Inv s' := by
  obtain ⟨i1, i2, W, H, C, hz, hs, -, hr⟩ := hI
  obtain ⟨z1, z2, z3, z4, z5, z6, z7⟩ := hz
  have hle := z7.le
  obtain ⟨⟨W1, W2⟩, ⟨H1, H2⟩, ⟨C1, C2⟩, -⟩ := id hc.1
  obtain rfl : W = P.W := nI_inj (by omega) (by omega) (z1.symm.trans hc.2.1)
  obtain rfl : H = P.H := nI_inj (by omega) (by omega) (z2.symm.trans hc.2.2.1)
  obtain rfl : C = P.C := nI_inj (by omega) (by omega) (z3.symm.trans hc.2.2.2.1)
  refine ⟨?_, ?_, P.W, P.H, P.C, ?_, ?_, hf, fun h => ?_⟩
  · unfold iTape
    rw [r 1 rfl, r43 16 rfl, r 51 rfl, r 2 rfl]
    exact i1
  · rw [r 0 rfl, r43 19 rfl]
    exact i2
  · unfold iSize
    rw [r 3 rfl, r43 1 rfl, r43 2 rfl, r43 3 rfl]
    exact ⟨z1, z2, z3, z4, z5, z6, z7⟩
  · unfold iSets hasW hasM at hs ⊢
    simp only [r 0 rfl, r43 10 rfl, l, r 49 rfl]
    exact hs
  · have := hr h
    unfold iRuns iGrid at this ⊢
    rw [r 4 rfl, r 44 rfl, r 5 rfl, r 45 rfl, r 6 rfl, r 46 rfl, r 3 rfl, r 13 rfl, r 47 rfl, r 12 rfl, r 15 rfl, r 48 rfl, r 14 rfl]
    exact this
def HFr (s s' : St) : Prop := (∀ a, a ≠ 58 → a ≠ 59 → a ≠ 61 → a ≠ 62 → a ≠ 43 → s'.1 a = s.1 a) ∧ (∀ b, b ≠ 32 → b ≠ 33 → b ≠ 37 → b ≠ 41 → b ≠ 42 → b ≠ 43 → b ≠ 44 → b ≠ 45 → s'.1 43 b = s.1 43 b) ∧ ∀ a b, ¬ (a = 43 ∧ b = 36) → s'.2.1 a b = s.2.1 a b
theorem HFr.rfl' {s : St} : HFr s s := ⟨fun _ _ _ _ _ _ => rfl, fun _ _ _ _ _ _ _ _ _ => rfl, fun _ _ _ => rfl⟩
theorem HFr.trans {s t u : St} (h : HFr s t) (g : HFr t u) : HFr s u := ⟨fun a a1 a2 a3 a4 a5 => (g.1 a a1 a2 a3 a4 a5).trans (h.1 a a1 a2 a3 a4 a5), fun b b1 b2 b3 b4 b5 b6 b7 b8 => (g.2.1 b b1 b2 b3 b4 b5 b6 b7 b8).trans (h.2.1 b b1 b2 b3 b4 b5 b6 b7 b8), fun a b c => (g.2.2 a b c).trans (h.2.2 a b c)⟩
theorem JFr.k {d : Nat} {s t : St} (h : JFr d s t) : HFr s t := ⟨h.1, fun b b1 b2 b3 b4 _ _ b7 b8 => h.2.1 b b1 b2 b3 b4 b7 b8, h.2.2.1⟩
section Srch
variable {P : Pz} {cap bud : Nat}
theorem Mz.k {s s' : St} (h : Mz s P) (f : HFr s s') : Mz s' P := by
  unfold Mz
  rw [f.1 44 (by decide) (by decide) (by decide) (by decide) (by decide), f.1 45 (by decide) (by decide) (by decide) (by decide) (by decide), f.1 46 (by decide) (by decide) (by decide) (by decide) (by decide), f.2.1 1 (by decide) (by decide) (by decide) (by decide) (by decide) (by decide) (by decide) (by decide), f.2.1 2 (by decide) (by decide) (by decide) (by decide) (by decide) (by decide) (by decide) (by decide), f.2.1 3 (by decide) (by decide) (by decide) (by decide) (by decide) (by decide) (by decide) (by decide)]
  exact h
theorem searches9 {s : St} {f : Nat → Int32} (hm : Mz s P) (hg : ∀ c, c < 144 → f c = s.1 47 c ∧ gVal P.C (f c)) (hcap : cap ≤ 50) (hcap1 : 1 ≤ cap) (hbud : bud ≤ 1000) : ∃ s', f_X9_searches (nI cap) (nI bud) s = some s' ∧ HFr s s' ∧ mfd P cap bud s' (look P cap bud LOOKN (firstM f P.C) a00) := by
  have hP := hm.1
  obtain ⟨⟨W1, W2⟩, ⟨H1, H2⟩, ⟨C1, C2⟩, -⟩ := id hP
  generalize hs5 : sF (sF (sF (sF (sF s 43 41 0) 43 42 (nI bud)) 43 43 (nI cap)) 43 44 0) 43 45 0 = s5
  have k5 : HFr s s5 := by
    rw [← hs5]
    exact ⟨fun a _ _ _ _ h => by rw [sF_ne h, sF_ne h, sF_ne h, sF_ne h, sF_ne h], fun b _ _ _ b4 b5 b6 b7 b8 => by rw [sF_nj b8, sF_nj b7, sF_nj b6, sF_nj b5, sF_nj b4], fun _ _ _ => rfl⟩
  have hm5 := hm.k k5
  have e47 : s5.1 47 = s.1 47 := k5.1 47 (by decide) (by decide) (by decide) (by decide) (by decide)
  have e9 := first9 (s := s5) (C := P.C) (q := 61) hm5.2.2.2.1 C2 (by decide) (by decide) rfl (by decide) (by decide) (fun c hc => by rw [e47, ← (hg c hc).1]; exact (hg c hc).2)
  generalize hs6 : sRow s5 61 (fun j => if j < 144 then nI (fstN (s5.1 47) P.C j) else s5.1 61 j) = s6
  rw [hs6] at e9
  have k6 : HFr s5 s6 := by
    rw [← hs6]
    exact ⟨fun a _ _ h _ _ => by rw [sRow_get, if_neg h], fun b _ _ _ _ _ _ _ _ => by rw [sRow_get, if_neg (by decide)], fun _ _ _ => rfl⟩
  have e43 : s6.1 43 = s5.1 43 := by rw [← hs6, sRow_get, if_neg (by decide)]
  have hf6 : mfd P cap bud s6 a00 := by
    refine ⟨?_, ?_, ?_, ?_, ?_, Nat.zero_le _, fun k _ k2 => absurd k2 (Nat.not_lt_zero _)⟩
    · rw [e43, ← hs5, sF_nj (by decide), sF_nj (by decide), sF_nj (by decide), sF_nj (by decide), sF_at]
      rfl
    · rw [e43, ← hs5, sF_nj (by decide), sF_nj (by decide), sF_nj (by decide), sF_at]
    · rw [e43, ← hs5, sF_nj (by decide), sF_nj (by decide), sF_at]
    · rw [e43, ← hs5, sF_nj (by decide), sF_at]
      rfl
    · rw [e43, ← hs5, sF_at]
      rfl
  have hok := firstM_ok hP (fun c hc => (hg c hc).2)
  have hh6 : hasM s6 61 (144 * 0) P.W P.H (firstM f P.C) := by
    intro x y hx hy
    rw [firstM_at, ← hs6, sRow_get, if_pos rfl, show 144 * 0 + (12 * y + x) = 12 * y + x by omega, if_pos (by omega)]
    congr 1
    unfold fstN
    rw [e47, (hg (12 * y + x) (by omega)).1]
  have hfin : fin cap a00 = false := by
    unfold fin a00
    exact decide_eq_false (by show ¬ cap ≤ 0; omega)
  obtain ⟨s', z1, z2, z3⟩ := look9 hcap hbud LOOKN 0 s6 (firstM f P.C) a00 rfl (hm5.k k6) hok hh6 (by have := mc_le (g := firstM f P.C) hP; omega) hf6 (Nat.zero_le _) hfin
  refine ⟨s', ?_, k5.trans (k6.trans z2.k), z3⟩
  unfold f_X9_searches
  rw [obs, obs, obs, obs, obs, hs5, e9, obs]
  show Option.bind (f_X9_look LOOKN (nI 0) s6) _ = _
  rw [z1, obs]
theorem copy64 : ∀ (k i fu : Nat) (s : St), i + k = 288 → k < fu → ∃ s', f_X9_search_64 fu (nI i) s = some (if s.1 43 45 = 0 then s.1 43 44 else -2, s') ∧ (∀ a, a ≠ 50 → s'.1 a = s.1 a) ∧ s'.2 = s.2 ∧ ∀ j, j < 288 → s'.1 50 j = if i ≤ j then s.1 62 j else s.1 50 j := by
  intro k
  induction k with
  | zero =>
    intro i fu s h1 h2
    obtain ⟨fu, rfl⟩ : ∃ z, fu = z + 1 := ⟨fu - 1, by omega⟩
    refine ⟨s, ?_, fun _ _ => rfl, rfl, fun j hj => by rw [if_neg (by omega)]⟩
    rw [f_X9_search_64, if_pos (show (288 : Int32) ≤ nI i from nI_le (a := 288) (by omega) (by omega))]
    by_cases c : s.1 43 45 = 0
    · rw [if_pos c, if_pos c]
    · rw [if_neg c, if_neg c]
  | succ k ih =>
    intro i fu s h1 h2
    obtain ⟨fu, rfl⟩ : ∃ z, fu = z + 1 := ⟨fu - 1, by omega⟩
    rw [f_X9_search_64, if_neg (show ¬ (288 : Int32) ≤ nI i from nI_ge (b := 288) (by omega) (by omega)), aI_nI rfl (by show i < 288; omega) (by decide), obs, pI_nI rfl (by show i < 288; omega) (by decide), obs, nI_1]
    obtain ⟨s', e1, e2, e3, e4⟩ := ih (i + 1) fu (sF s 50 i (s.1 62 i)) (by omega) (by omega)
    refine ⟨s', ?_, fun a ha => by rw [e2 a ha, sF_ne ha], e3, fun j hj => ?_⟩
    · rw [e1, sF_ne (by decide)]
    · rw [e4 j hj, sF_ne (by decide)]
      by_cases c1 : i + 1 ≤ j
      · rw [if_pos c1, if_pos (by omega)]
      · rw [if_neg c1]
        by_cases c2 : j = i
        · rw [c2, sF_at, if_pos (Nat.le_refl _)]
        · rw [sF_nj c2, if_neg (by omega)]
end Srch
theorem n1000 : (1000 : Int32).toInt = 1000 := by decide +kernel
theorem n50 : (50 : Int32).toInt = 50 := by decide +kernel
theorem st_search {s : St} (hI : Inv s) (x y : Int32) : Step (f_X8_search x y) (f_X9_search x y) s := by
  obtain ⟨h1, h2, W, H, C, hz, hs, hf, hr⟩ := id hI
  by_cases hW : W = 0
  · subst hW
    refine ⟨-1, s, sF s 43 0 0, ?_, ?_, hI.thrown⟩
    · unfold f_X8_search
      rw [hasP8 hz, if_pos rfl, obs, if_pos rfl]
    · unfold f_X9_search
      rw [obs, noPz hz, obs, if_pos rfl]
  obtain ⟨P, rfl, rfl, rfl, hc, hm⟩ := hI.px hz (by omega)
  obtain ⟨⟨W1, W2⟩, ⟨H1, H2⟩, ⟨C1, C2⟩, -⟩ := id hc.1
  obtain ⟨hrn, hg13, hg15⟩ := hr W1
  have m0 : ∀ t : St, Mz t P → Mz (sF t 43 0 0) P := fun t h => h
  by_cases cx : x.toInt < 1 ∨ (50 : Int32).toInt < x.toInt
  · refine ⟨-1, s, sF s 43 0 0, ?_, ?_, hI.thrown⟩
    · unfold f_X8_search
      rw [hasP8 hz, if_neg hW, obs, if_neg nz, isSize8n cx, obs, if_pos rfl]
    · unfold f_X9_search
      rw [obs, (m0 s hm).is, obs, if_neg nz, in9n (by rw [t1]; exact cx), obs, if_pos rfl]
  by_cases cy : y.toInt < 0 ∨ (1000 : Int32).toInt < y.toInt
  · refine ⟨-1, s, sF s 43 0 0, ?_, ?_, hI.thrown⟩
    · unfold f_X8_search
      rw [hasP8 hz, if_neg hW, obs, if_neg nz, isSize8y (by omega) (by omega), obs, if_neg nz]
      by_cases c1 : y < 0
      · rw [if_pos c1]
      · rw [if_neg c1, if_neg]
        rw [Int32.le_iff_toInt_le]
        rw [nI_lt0] at c1
        omega
    · unfold f_X9_search
      rw [obs, (m0 s hm).is, obs, if_neg nz, in9y (by rw [t1]; omega) (by omega), obs, if_neg nz, in9n (by rw [t0]; exact cy), obs, if_pos rfl]
  rw [n50] at cx
  rw [n1000] at cy
  obtain ⟨cap, hcap1, hcap2, rfl⟩ : ∃ n, 1 ≤ n ∧ n ≤ 50 ∧ x = nI n := ⟨x.toInt.toNat, by omega, by omega, nI_of_toInt (by omega) (by omega)⟩
  obtain ⟨bud, hbud, rfl⟩ : ∃ n, n ≤ 1000 ∧ y = nI n := ⟨y.toInt.toNat, by omega, nI_of_toInt (by omega) (by omega)⟩
  obtain ⟨s1, a1, a2, a3⟩ := seekC (cap := cap) (bud := bud) f33 hc (fun c hc => (hg13.1 c hc).2) hbud hcap2 hcap1
  have e47 : s1.1 47 = s.1 47 := a3.1 47 (by decide) (by decide) (by decide) (by decide) (by decide) (by decide)
  have hm1 : Mz (sF s1 43 0 0) P := by
    apply m0
    unfold Mz
    rw [a3.1 43 (by decide) (by decide) (by decide) (by decide) (by decide) (by decide), a3.1 44 (by decide) (by decide) (by decide) (by decide) (by decide) (by decide), a3.1 45 (by decide) (by decide) (by decide) (by decide) (by decide) (by decide), a3.1 46 (by decide) (by decide) (by decide) (by decide) (by decide) (by decide)]
    exact hm
  obtain ⟨t8, b1, b2, b3⟩ := searches9 (s := sF s1 43 0 0) (f := s.1 13) hm1 (fun c hc => ⟨by rw [sF_ne (by decide), e47]; exact (hg13.1 c hc).1, (hg13.1 c hc).2⟩) hcap2 hcap1 hbud
  revert a2 b3
  generalize look P cap bud LOOKN (firstM (s.1 13) P.C) a00 = A
  intro a2 b3
  obtain ⟨u1, u2, u3, u4⟩ := a2
  obtain ⟨v1, v2, v3, v4, v5, v6, v7⟩ := b3
  generalize ht11 : sF (sF (sF t8 43 12 (nI A.1)) 43 11 1) 43 13 (nI A.2.1) = t11
  have r45 : t11.1 43 45 = t8.1 43 45 := by rw [← ht11, sF_nj (by decide), sF_nj (by decide), sF_nj (by decide)]
  have r44 : t11.1 43 44 = t8.1 43 44 := by rw [← ht11, sF_nj (by decide), sF_nj (by decide), sF_nj (by decide)]
  obtain ⟨t', c1, c2, c3, c4⟩ := copy64 288 0 FU t11 (by omega) (by unfold FU; omega)
  rw [r45, r44, v5, v4] at c1
  refine ⟨if A.2.2.1 = true then -2 else nI A.2.1, s1, t', ?_, ?_, ?_⟩
  · unfold f_X8_search
    rw [hasP8 hz, if_neg hW, obs, if_neg nz, isSize8y (by rw [nI_toInt (by omega)]; omega) (by rw [nI_toInt (by omega), n50]; omega), obs, if_neg nz, if_neg (by rw [nI_lt0, nI_toInt (by omega)]; omega), if_pos (show nI bud ≤ (1000 : Int32) from nI_le (b := 1000) hbud (by omega)), a1, obs, u3, u1]
    by_cases c : A.2.2.1 = true
    · rw [if_pos c, if_pos c, if_neg (show ¬ (1 : Int32) = 0 by decide)]
    · rw [if_neg c, if_neg c, if_pos rfl]
  · unfold f_X9_search
    rw [obs, hm1.is, obs, if_neg nz, in9y (by rw [t1, nI_toInt (by omega)]; omega) (by rw [nI_toInt (by omega), n50]; omega), obs, if_neg nz, in9y (by rw [t0, nI_toInt (by omega)]; omega) (by rw [nI_toInt (by omega), n1000]; omega), obs, if_neg nz, b1, obs, obs, obs, obs, v1]
    have e44 : (sF (sF t8 43 12 (nI A.1)) 43 11 1).1 43 44 = nI A.2.1 := by rw [sF_nj (by decide), sF_nj (by decide), v4]
    rw [e44, ht11]
    refine Eq.trans c1 ?_
    by_cases c : A.2.2.1 = true
    · rw [if_pos c, if_pos c, if_neg (show ¬ (1 : Int32) = 0 by decide)]
    · rw [if_neg c, if_neg c, if_pos rfl]
  · have g43 : ∀ b, b ≠ 0 → b ≠ 11 → b ≠ 12 → b ≠ 13 → b < 32 → t'.1 43 b = s.1 43 b := fun b b0 b1' b2' b3' b4 => by
      rw [c2 43 (by decide), ← ht11, sF_nj b3', sF_nj b1', sF_nj b2', b2.2.1 b (by omega) (by omega) (by omega) (by omega) (by omega) (by omega) (by omega) (by omega), sF_nj b0, a3.1 43 (by decide) (by decide) (by decide) (by decide) (by decide) (by decide)]
    have gr : ∀ a, a ≠ 17 → a ≠ 18 → a ≠ 21 → a ≠ 23 → a ≠ 24 → (a < 33 ∨ 33 + 4 < a) → a ≠ 43 → a ≠ 50 → a < 58 → t'.1 a = s.1 a := fun a w1 w2 w3 w4 w5 w6 w7 w8 w9 => by
      rw [c2 a w8, ← ht11, sF_ne w7, sF_ne w7, sF_ne w7, b2.1 a (by omega) (by omega) (by omega) (by omega) w7, sF_ne w7, a3.1 a w1 w2 w3 w4 w5 w6]
    have gF : ∀ a, 33 ≤ a → a ≤ 37 → t'.1 a = s1.1 a := fun a w1 w2 => by
      rw [c2 a (by omega), ← ht11, sF_ne (by omega), sF_ne (by omega), sF_ne (by omega), b2.1 a (by omega) (by omega) (by omega) (by omega) (by omega), sF_ne (by omega)]
    refine hI.newFound hc (fun a ha => ?_) (fun b hb => ?_) (fun b => ?_) ?_
    · rw [List.contains_iff_mem] at ha
      simp only [List.mem_cons, List.not_mem_nil, or_false] at ha
      exact gr a (by omega) (by omega) (by omega) (by omega) (by omega) (by omega) (by omega) (by omega) (by omega)
    · rw [List.contains_iff_mem] at hb
      simp only [List.mem_cons, List.not_mem_nil, or_false] at hb
      exact g43 b (by omega) (by omega) (by omega) (by omega) (by omega)
    · rw [c3, ← ht11]
      show t8.2.1 30 b = _
      rw [b2.2.2 30 b (fun z => absurd z.1 (by decide))]
      show s1.2.1 30 b = _
      rw [a3.2.1 30 (by decide) (by decide)]
    · unfold iFound
      rw [gF 33 (by decide) (by decide), gF 35 (by decide) (by decide), gF 37 (by decide) (by decide)]
      have k12 : t'.1 43 12 = nI A.1 := by rw [c2 43 (by decide), ← ht11, sF_nj (by decide), sF_nj (by decide), sF_at]
      have k11 : t'.1 43 11 = 1 := by rw [c2 43 (by decide), ← ht11, sF_nj (by decide), sF_at]
      have k13 : t'.1 43 13 = nI A.2.1 := by rw [c2 43 (by decide), ← ht11, sF_at]
      refine ⟨u2.trans k12.symm, A.2.1, by omega, u1, Or.inr ⟨k11, k13⟩, fun x y hx hy => ⟨fun hn => ?_, fun hn => ?_⟩⟩
      · rw [c4 _ (by omega), if_pos (Nat.zero_le _), ← ht11, sF_ne (by decide), sF_ne (by decide), sF_ne (by decide)]
        have z1 := u4 0 (by decide) hn x y hx hy
        have z2 := v7 0 (by decide) hn x y hx hy
        rw [show 144 * 0 + (12 * y + x) = 12 * y + x by omega] at z2
        exact z1.trans z2.symm
      · rw [c4 _ (by omega), if_pos (Nat.zero_le _), ← ht11, sF_ne (by decide), sF_ne (by decide), sF_ne (by decide)]
        have z1 := u4 1 (by decide) hn x y hx hy
        have z2 := v7 1 (by decide) hn x y hx hy
        rw [show 144 * 1 + (12 * y + x) = 144 + (12 * y + x) by omega] at z2
        exact z1.trans z2.symm
