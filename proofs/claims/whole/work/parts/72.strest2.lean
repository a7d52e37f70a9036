/-! rest -/
def eqW (s s' : St) : Prop := ∀ a b, visW a b = true → s'.1 a b = s.1 a b
theorem eqW.rfl' {s : St} : eqW s s := fun _ _ _ => rfl
theorem eqW.trans {s t u : St} (h : eqW s t) (g : eqW t u) : eqW s u := fun a b v => (g a b v).trans (h a b v)
theorem vW43 {b : Nat} (h : visW 43 b = true) : b = 1 ∨ b = 2 ∨ b = 3 ∨ b = 11 ∨ b = 12 ∨ b = 13 ∨ b = 16 ∨ b = 19 := by
  unfold visW vis at h
  simp only [Bool.and_eq_true, Bool.or_eq_true, Bool.not_eq_true', List.contains_iff_mem, List.mem_cons, List.not_mem_nil, or_false, beq_iff_eq, beq_eq_false_iff_ne, ne_eq, Bool.and_eq_false_iff, not_true, false_or] at h
  omega
theorem vWrow {a b : Nat} (h : visW a b = true) : a = 43 ∨ a = 0 ∨ a = 1 ∨ a = 2 ∨ a = 3 ∨ a = 4 ∨ a = 5 ∨ a = 6 ∨ a = 12 ∨ a = 13 ∨ a = 14 ∨ a = 15 ∨ a = 33 ∨ a = 35 ∨ a = 37 ∨ a = 44 ∨ a = 45 ∨ a = 46 ∨ a = 47 ∨ a = 48 ∨ a = 50 ∨ a = 51 := by
  unfold visW vis at h
  simp only [Bool.and_eq_true, Bool.or_eq_true, Bool.not_eq_true', List.contains_iff_mem, List.mem_cons, List.not_mem_nil, or_false, beq_iff_eq, beq_eq_false_iff_ne, ne_eq, Bool.and_eq_false_iff] at h
  omega
theorem SFr.eqW {q : Nat} {s s' : St} (h : SFr q s s') : eqW s s' := fun a b v => by
  have := vWrow v
  rw [h.1 a (by omega) (by omega)]
theorem TFr.eqW {q base : Nat} {s s' : St} (hq : 52 ≤ q ∨ q = 49) (h : TFr q base s s') : eqW s s' := fun a b v => by
  by_cases e : a = 43
  · subst e
    have := vW43 v
    exact h.2.1 b (by omega) (by omega) (by omega)
  · have := vWrow v
    rw [h.1 a (by omega) (by omega) (by omega) e]
theorem eqW.s {s : St} {k j : Nat} {v : Int32} (hv : visW k j = false) : eqW s (sF s k j v) := fun a b q => by
  rw [sF_get, if_neg]
  rintro ⟨rfl, rfl⟩
  rw [hv] at q
  cases q
/-- class and model get sets, and bring them to rest -/
theorem restB {s : St} (hI : Inv s) {P : Pz} (hc : Cz s P) (hm : Mz s P) : ∃ g s1, setsOK P.W P.H P.C g ∧ f_X8_rest s = some (if (restP P g).1 = true then nI ((restP P g).2.1 * P.L) else -2, s1) ∧ Cz s1 P ∧ hasWr (s1.2.1 30) P.W P.H (restP P g).2.2 ∧ s1.1 0 12 = 1 ∧ eqW s s1 ∧ (∀ a, 43 ≤ a → s1.1 a = s.1 a) ∧ ∀ t : St, (∀ a, 43 ≤ a → t.1 a = s.1 a) → ∃ tA tB, f_X9_is (sF t 43 0 0) = some (1, sF t 43 0 0) ∧ f_X9_needSets (sF t 43 0 0) = some tA ∧ f_X9_toRest 49 0 tA = some (if (restP P g).1 = true then 1 else 0, tB) ∧ Mz tB P ∧ hasM tB 49 0 P.W P.H (restP P g).2.2 ∧ tB.1 43 10 = 1 ∧ eqW t tB ∧ (∀ a, a < 43 → tB.1 a = t.1 a) ∧ (∀ b, tB.2.1 30 b = t.2.1 30 b) ∧ ((restP P g).1 = true → tB.1 43 37 = nI ((restP P g).2.1 * P.L)) := by
  obtain ⟨h1, h2, W, H, C, hz, hs, hf, hr⟩ := id hI
  have hP := hc.1
  obtain ⟨⟨W1, W2⟩, ⟨H1, H2⟩, ⟨C1, C2⟩, -⟩ := id hP
  have hle := hz.2.2.2.2.2.2.le
  obtain rfl : W = P.W := nI_inj (by omega) (by omega) (hz.1.symm.trans hc.2.1)
  obtain rfl : H = P.H := nI_inj (by omega) (by omega) (hz.2.1.symm.trans hc.2.2.1)
  obtain rfl : C = P.C := nI_inj (by omega) (by omega) (hz.2.2.1.symm.trans hc.2.2.2.1)
  obtain ⟨hrn, hg13, hg15⟩ := hr W1
  obtain ⟨q1, q2⟩ := hs
  -- the sets
  have key : ∃ g sA, setsOK P.W P.H P.C g ∧ f_X8_rest s = f_X8_rest_16 sA ∧ Cz sA P ∧ hasWr (sA.2.1 30) P.W P.H g ∧ sA.1 0 12 = 1 ∧ eqW s sA ∧ (∀ a, 43 ≤ a → sA.1 a = s.1 a) ∧ ∀ t : St, (∀ a, 43 ≤ a → t.1 a = s.1 a) → ∃ tA, f_X9_needSets (sF t 43 0 0) = some tA ∧ Mz tA P ∧ hasM tA 49 0 P.W P.H g ∧ tA.1 43 10 = 1 ∧ eqW t tA ∧ (∀ a, a < 43 → tA.1 a = t.1 a) ∧ tA.2.1 = t.2.1 := by
    have mz : ∀ t u : St, (∀ a, 43 ≤ a → t.1 a = s.1 a) → (∀ a, a ≠ 43 → a ≠ 49 → u.1 a = t.1 a) → (∀ b, b ≠ 0 → b ≠ 10 → u.1 43 b = t.1 43 b) → Mz u P := by
      intro t u ht hu hu2
      unfold Mz
      rw [hu2 1 (by decide) (by decide), hu2 2 (by decide) (by decide), hu2 3 (by decide) (by decide), hu 44 (by decide) (by decide), hu 45 (by decide) (by decide), hu 46 (by decide) (by decide), ht 43 (by omega), ht 44 (by omega), ht 45 (by omega), ht 46 (by omega)]
      exact hm
    have ew : ∀ t u : St, (∀ a, a ≠ 43 → a ≠ 49 → u.1 a = t.1 a) → (∀ b, b ≠ 0 → b ≠ 10 → u.1 43 b = t.1 43 b) → eqW t u := by
      intro t u hu hu2 a b v
      by_cases e : a = 43
      · subst e
        have := vW43 v
        exact hu2 b (by omega) (by omega)
      · have := vWrow v
        rw [hu a e (by omega)]
    rcases q2 with q2 | ⟨q2, -, g, k1, k2, k3⟩
    · obtain ⟨w, e1, e2⟩ := become4 (g := 29) (a := 12) hc.size rfl rfl rfl rfl rfl rfl (fun c hc => (hg13.1 c hc).2)
      refine ⟨firstM (s.1 13) P.C, sF (sRowL s 30 w) 0 12 1, ?_, ?_, ?_, e2, sF_at, eqW.s rfl, fun a ha => sF_ne (by omega), fun t ht => ?_⟩
      · intro x y hx hy
        rw [firstM_at]
        exact fstN_ok C2 (hg13.1 _ (by omega)).2
      · unfold f_X8_rest f_X8_fresh
        rw [if_pos q2, hasP8 hz, if_neg (by omega), obs, if_neg nz, e1, obs, obs, obs, if_neg nz]
        rfl
      · exact hc
      · have g47 : ∀ c, c < 144 → gVal P.C ((sF t 43 0 0).1 47 c) := fun c hc => by
          rw [sF_ne (by decide), ht 47 (by omega), ← (hg13.1 c hc).1]
          exact (hg13.1 c hc).2
        have e9 := first9 (s := sF t 43 0 0) (C := P.C) (q := 49) (by rw [sF_nj (by decide), ht 43 (by omega)]; exact hz.2.2.2.2.2.1) C2 (by decide) (by decide) rfl (by decide) (by decide) g47
        refine ⟨sF (frM (sF t 43 0 0) 49 P.C) 43 10 1, ?_, ?_, ?_, ?_, ?_, ?_, rfl⟩
        · unfold f_X9_needSets
          rw [if_pos (show (sF t 43 0 0).1 43 10 = 0 by rw [sF_nj (by decide), ht 43 (by omega), ← q1]; exact q2), e9, obs, obs]
          rfl
        · refine mz t _ ht (fun a a1 a2 => ?_) (fun b b1 b2 => ?_)
          · rw [sF_ne a1, frM, sRow_get, if_neg a2, sF_ne a1]
          · rw [sF_nj b2, frM, sRow_get, if_neg (by decide), sF_nj b1]
        · intro x y hx hy
          have hcell : 12 * y + x < 144 := by omega
          rw [firstM_at, sF_ne (by decide), frM, sRow_get, if_pos rfl, Nat.zero_add, if_pos hcell]
          congr 1
          unfold fstN
          have : (sF t 43 0 0).1 47 (12 * y + x) = s.1 13 (12 * y + x) := by
            rw [sF_ne (by decide), ht 47 (by omega)]
            exact ((hg13.1 _ hcell).1).symm
          rw [this]
        · rw [sF_at]
        · refine ew t _ (fun a a1 a2 => ?_) (fun b b1 b2 => ?_)
          · rw [sF_ne a1, frM, sRow_get, if_neg a2, sF_ne a1]
          · rw [sF_nj b2, frM, sRow_get, if_neg (by decide), sF_nj b1]
        · intro a ha
          rw [sF_ne (by omega), frM, sRow_get, if_neg (by omega), sF_ne (by omega)]
    · refine ⟨g, s, k1, ?_, hc, k2, q2, eqW.rfl', fun _ _ => rfl, fun t ht => ?_⟩
      · unfold f_X8_rest
        rw [if_neg (by rw [q2]; decide)]
      · refine ⟨sF (sF t 43 0 0) 43 10 1, ?_, ?_, ?_, ?_, ?_, ?_, rfl⟩
        · unfold f_X9_needSets
          rw [if_neg (show ¬ (sF t 43 0 0).1 43 10 = 0 by rw [sF_nj (by decide), ht 43 (by omega), ← q1, q2]; decide), obs]
        · exact mz t _ ht (fun a a1 _ => by rw [sF_ne a1, sF_ne a1]) (fun b b1 b2 => by rw [sF_nj b2, sF_nj b1])
        · intro x y hx hy
          rw [sF_ne (by decide), sF_ne (by decide), ht 49 (by omega)]
          exact k3 x y hx hy
        · rw [sF_at]
        · exact ew t _ (fun a a1 _ => by rw [sF_ne a1, sF_ne a1]) (fun b b1 b2 => by rw [sF_nj b2, sF_nj b1])
        · intro a ha
          rw [sF_ne (by omega), sF_ne (by omega)]
  obtain ⟨g, sA, a1, a2, a3, a4, a5, a6, a7, a8⟩ := key
  obtain ⟨s1, b1, b2, b3⟩ := settle_ok (G := 29) (q := 30) (v3 := ((1 : Int32) <<< (nI P.L &&& 31)) - 1) ⟨rfl, rfl, rfl, rfl⟩ a3 a1 a4 (fun m hm' hb => by
    have hall : ∀ L, L < 25 → ∀ m, m < L → bt (((1 : Int32) <<< (nI L &&& 31)) - 1) m = true := by decide +kernel
    have hL := Pz.L_le hP
    rw [hall P.L (by omega) m hm'] at hb
    cases hb)
  refine ⟨g, s1, a1, ?_, a3.s b1, b2, ?_, a6.trans b1.eqW, fun a ha => by rw [b1.1 a (by omega) (by omega), a7 a ha], fun t ht => ?_⟩
  · rw [a2]
    unfold f_X8_rest_16 f_X0_allLines
    rw [if_neg (fun x => x rfl), clines a3.size, obs, obs]
    show Option.bind (f_X5_settle 29 (((1 : Int32) <<< (nI P.L &&& 31)) - 1) sA) _ = _
    rw [b3, obs]
  · rw [b1.1 0 (by decide) (by decide)]
    exact a5
  · obtain ⟨tA, c1, c2, c3, c4, c5, c6, c7⟩ := a8 t ht
    obtain ⟨tB, d1, d2, d3, d4⟩ := toRest9 q49 c2 a1 c3
    refine ⟨tA, tB, ?_, c1, d3, c2.tr q49 d1, d2, ?_, c5.trans (d1.eqW (Or.inr rfl)), fun a ha => ?_, fun b => ?_, d4⟩
    · unfold f_X9_is
      rw [if_neg]
      rw [sF_nj (by decide), ht 43 (by omega), hm.2.1]
      exact nI_nle (by omega) (by omega)
    · rw [d1.2.1 10 (by decide) (by decide) (by decide)]
      exact c4
    · rw [d1.1 a (by omega) (by omega) (by omega) (by omega), c6 a ha]
    · rw [d1.2.2.1 30 b (fun x => absurd x.1 (by decide)), c7]
theorem noPz {s : St} {H C : Nat} (hz : iSize s 0 H C) : f_X9_is (sF s 43 0 0) = some (0, sF s 43 0 0) := by
  rw [is9 hz.thrown, if_pos rfl]
theorem st_rest {s : St} (hI : Inv s) : Step f_X8_rest f_X9_rest s := by
  obtain ⟨h1, h2, W, H, C, hz, hs, hf, hr⟩ := id hI
  by_cases hW : W = 0
  · subst hW
    have q0 : s.1 0 12 = 0 := by
      rcases hs.2 with q | ⟨-, q, -⟩
      · exact q
      · omega
    refine ⟨-1, s, sF s 43 0 0, ?_, ?_, hI.thrown⟩
    · unfold f_X8_rest f_X8_fresh
      rw [if_pos q0, hasP8 hz, if_pos rfl, obs, if_pos rfl, obs, if_pos rfl]
    · unfold f_X9_rest
      rw [obs, noPz hz, obs, if_pos rfl]
  obtain ⟨P, rfl, rfl, rfl, hc, hm⟩ := hI.px hz (by omega)
  obtain ⟨g, s1, a1, a2, a3, a4, a5, a6, a7, a8⟩ := restB hI hc hm
  obtain ⟨tA, tB, b1, b2, b3, b4, b5, b6, b7, b8, b9, b10⟩ := a8 s1 a7
  have hsp := restP_spec hc.1 a1
  refine ⟨_, s1, tB, a2, ?_, hI.newSets hc (a6.trans b7) ?_ b6 hsp.1 ?_ b5⟩
  · unfold f_X9_rest
    rw [obs, b1, obs, if_neg nz, b2, obs, b3, obs]
    by_cases c : (restP P g).1 = true
    · rw [if_pos c, if_pos c, if_neg nz, b10 c]
    · rw [if_neg c, if_neg c, if_pos rfl]
  · rw [b8 0 (by omega)]
    exact a5
  · have : tB.2.1 30 = s1.2.1 30 := by funext b; exact b9 b
    rw [this]
    exact a4
