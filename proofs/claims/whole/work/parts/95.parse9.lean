/-! the model reads the tokens -/
def NFr (s s' : St) : Prop := (∀ a, a ≠ 43 → a ≠ 55 → a ≠ 56 → a ≠ 57 → s'.1 a = s.1 a) ∧ (∀ j, j ≠ 17 → j ≠ 18 → j ≠ 24 → s'.1 43 j = s.1 43 j) ∧ s'.2 = s.2
theorem NFr.rfl' {s : St} : NFr s s := ⟨fun _ _ _ _ _ => rfl, fun _ _ _ _ => rfl, rfl⟩
theorem NFr.trans {s t u : St} (a : NFr s t) (c : NFr t u) : NFr s u := ⟨fun i i1 i2 i3 i4 => (c.1 i i1 i2 i3 i4).trans (a.1 i i1 i2 i3 i4), fun j j1 j2 j3 => (c.2.1 j j1 j2 j3).trans (a.2.1 j j1 j2 j3), c.2.2.trans a.2.2⟩
theorem NFr.s43 {s : St} {j : Nat} {v : Int32} (h : j = 17 ∨ j = 18 ∨ j = 24) : NFr s (sF s 43 j v) := ⟨fun a a1 _ _ _ => sF_ne a1, fun i i1 i2 i3 => sF_nj (by omega), rfl⟩
theorem NFr.sr {s : St} {k j : Nat} {v : Int32} (h : k = 55 ∨ k = 56 ∨ k = 57) : NFr s (sF s k j v) := ⟨fun a _ a1 a2 a3 => sF_ne (by omega), fun i _ _ _ => by rw [sF_ne (by omega)], rfl⟩
/-- tokens 0 to T lie in the rows, T is the end -/
def Tk (s : St) (b : Nat → Nat) (N T : Nat) : Prop := N ≤ 900 ∧ T ≤ N ∧ tK b N T = 3 ∧ wTk s b N (T + 1)
theorem Tk.n {s s' : St} {b : Nat → Nat} {N T : Nat} (h : Tk s b N T) (f : NFr s s') : Tk s' b N T := by
  refine ⟨h.1, h.2.1, h.2.2.1, fun j hj => ?_⟩
  rw [f.1 52 (by decide) (by decide) (by decide) (by decide), f.1 53 (by decide) (by decide) (by decide) (by decide), f.1 54 (by decide) (by decide) (by decide) (by decide)]
  exact h.2.2.2 j hj
theorem Tk.k {s : St} {b : Nat → Nat} {N T c : Nat} (h : Tk s b N T) (hc : c ≤ T) : aI s 52 (nI c) = some (nI (tK b N c)) ∧ aI s 53 (nI c) = some (nI (tS b N c)) ∧ aI s 54 (nI c) = some (nI (tV b N c)) := by
  obtain ⟨h1, h2, h3, h4⟩ := h
  obtain ⟨a1, a2, a3⟩ := h4 c (by omega)
  exact ⟨by rw [aI_nI rfl (by show c < 901; omega) (by decide), a1], by rw [aI_nI rfl (by show c < 901; omega) (by decide), a2], by rw [aI_nI rfl (by show c < 901; omega) (by decide), a3]⟩
theorem Tk.lt {s : St} {b : Nat → Nat} {N T c : Nat} (h : Tk s b N T) (hc : c ≤ T) (hk : tK b N c ≠ 3) : c + 1 ≤ T := by
  rcases Nat.lt_or_ge c T with z | z
  · exact z
  · exact absurd (by rw [show c = T by omega]; exact h.2.2.1) hk
theorem tS_end {b : Nat → Nat} {N k : Nat} (h : tK b N k = 3) : tS b N k = N := by
  unfold tK tk at h
  unfold tS tk
  revert h
  generalize skp b (N - tp b N k) (tp b N k) = q
  unfold tkAt
  by_cases c0 : N ≤ q
  · rw [if_pos c0]
    intro _
    rfl
  · rw [if_neg c0]
    by_cases c1 : dg (b q) = true
    · rw [if_pos c1]
      by_cases c2 : q + 1 < N ∧ dg (b (q + 1)) = true
      · rw [if_pos c2]
        intro h
        exact absurd (show (0 : Nat) = 3 from h) (by decide)
      · rw [if_neg c2]
        intro h
        exact absurd (show (0 : Nat) = 3 from h) (by decide)
    · rw [if_neg c1]
      by_cases c2 : lt (b q) = true
      · rw [if_pos c2]
        intro h
        exact absurd (show (1 : Nat) = 3 from h) (by decide)
      · rw [if_neg c2]
        intro h
        exact absurd (show (2 : Nat) = 3 from h) (by decide)
/-- sizes as the model keeps them while it reads -/
def mSz (s : St) (W H C : Nat) : Prop := s.1 43 25 = nI W ∧ s.1 43 26 = nI H ∧ s.1 43 27 = nI C
theorem mSz.n {s s' : St} {W H C : Nat} (h : mSz s W H C) (f : NFr s s') : mSz s' W H C := by
  unfold mSz
  rw [f.2.1 25 (by decide) (by decide) (by decide), f.2.1 26 (by decide) (by decide) (by decide), f.2.1 27 (by decide) (by decide) (by decide)]
  exact h
def mLn (s : St) (l r : Nat) (len col : Nat → Nat) : Prop := s.1 55 l = nI r ∧ ∀ k, k < r → s.1 56 (12 * l + k) = nI (len k) ∧ s.1 57 (12 * l + k) = nI (col k)
def mOth (l : Nat) (s s' : St) : Prop := (∀ j, j ≠ l → s'.1 55 j = s.1 55 j) ∧ ∀ j, (j < 12 * l ∨ 12 * l + 12 ≤ j) → s'.1 56 j = s.1 56 j ∧ s'.1 57 j = s.1 57 j
theorem mOth.rfl' {l : Nat} {s : St} : mOth l s s := ⟨fun _ _ => rfl, fun _ _ => ⟨rfl, rfl⟩⟩
theorem mOth.trans {l : Nat} {s t u : St} (a : mOth l s t) (c : mOth l t u) : mOth l s u := ⟨fun j hj => (c.1 j hj).trans (a.1 j hj), fun j hj => ⟨((c.2 j hj).1).trans (a.2 j hj).1, ((c.2 j hj).2).trans (a.2 j hj).2⟩⟩
theorem k01 : ∀ k, k ≤ 3 → (nI k = 0 ↔ k = 0) := by decide +kernel
theorem k11 : ∀ k, k ≤ 3 → (nI k = 1 ↔ k = 1) := by decide +kernel
theorem k21 : ∀ k, k ≤ 3 → (nI k = 2 ↔ k = 2) := by decide +kernel
theorem k31 : ∀ k, k ≤ 3 → (nI k = 3 ↔ k = 3) := by decide +kernel
section Parse9
variable {b : Nat → Nat} {N T W H C : Nat}
theorem ol47 {s : St} {l r c : Nat} {len col : Nat → Nat} (hz : mSz s W H C) (hk : Tk s b N T) (hc : c ≤ T) (h17 : s.1 43 17 = 0) (h24 : s.1 43 24 = nI c) (hl : l < W + H) (hW : W ≤ 12) (hH : H ≤ 12) (hC : C ≤ 3) (hs : mLn s l r len col) (ho : lOK C r len col) : (need len col r ≤ lnOf W H l → f_X9_oneLine_47 FU (nI l) 0 0 s = some (sF s 43 24 (nI (c + 1)))) ∧ (¬ need len col r ≤ lnOf W H l → f_X9_oneLine_47 FU (nI l) 0 0 s = some (sF (sF (sF s 43 17 (nI 6)) 43 18 (nI (tS b N c))) 43 24 (nI (c + 1)))) := by
  obtain ⟨h55, hkk⟩ := hs
  obtain ⟨hr, hb⟩ := ho
  have hn : lnOf W H l ≤ 12 := by unfold lnOf; split <;> omega
  have hnl := need_le (len := len) (col := col) r (fun j hj => (hb j hj).1.2)
  have fin : ∀ x : Nat, x ≤ 12 → (need len col r ≤ x → f_X9_oneLine_134 (nI x) (nI (need len col r)) s = some (sF s 43 24 (nI (c + 1)))) ∧ (¬ need len col r ≤ x → f_X9_oneLine_134 (nI x) (nI (need len col r)) s = some (sF (sF (sF s 43 17 (nI 6)) 43 18 (nI (tS b N c))) 43 24 (nI (c + 1)))) := by
    intro x hx
    unfold f_X9_oneLine_134 f_X9_oneLine_152
    refine ⟨fun h => ?_, fun h => ?_⟩
    · rw [if_pos (nI_le h (by omega)), obs, h24, nI_1]
    · rw [if_neg (nI_ge (by omega) (by omega)), h24, (hk.k hc).2.1, obs, fails9 h17, obs, obs, sF_nj (by decide), sF_nj (by decide), h24, nI_1]
      rfl
  have loop : ∀ (m k fu : Nat), k + m = r → m < fu → f_X9_oneLine_47 fu (nI l) (nI (need len col k)) (nI k) s = f_X9_oneLine_134 (nI (lnOf W H l)) (nI (need len col r)) s := by
    intro m
    induction m with
    | zero =>
      intro k fu h1 h2
      obtain ⟨fu, rfl⟩ : ∃ z, fu = z + 1 := ⟨fu - 1, by omega⟩
      obtain rfl : k = r := by omega
      rw [f_X9_oneLine_47, aI_nI rfl (by show l < 24; omega) (by decide), obs, h55, if_pos (nI_le (Nat.le_refl _) (by omega)), hz.1, hz.2.1]
      unfold lnOf
      by_cases e : l < H
      · rw [if_neg (nI_ge e (by omega)), if_pos e]
      · rw [if_pos (nI_le (by omega) (by omega)), if_neg e]
    | succ m ih =>
      intro k fu h1 h2
      obtain ⟨fu, rfl⟩ : ∃ z, fu = z + 1 := ⟨fu - 1, by omega⟩
      have hkr : k < r := by omega
      have ihn := ih (k + 1) fu (by omega) (by omega)
      rw [need] at ihn
      rw [f_X9_oneLine_47, aI_nI rfl (by show l < 24; omega) (by decide), obs, h55, if_neg (nI_ge hkr (by omega)), at12, aI_nI rfl (by show 12 * l + k < 288; omega) (by decide), obs, (hkk k hkr).1]
      by_cases c0 : k = 0
      · rw [if_pos (by rw [c0]; decide), f_X9_oneLine_104, f_X9_oneLine_105, nI_1, Int32.add_zero, nI_add]
        rw [if_neg (fun z => z.1 c0)] at ihn
        exact ihn
      · rw [if_neg (nI_nle (by omega) (by omega)), aI_nI rfl (by show 12 * l + k < 288; omega) (by decide), obs, (hkk k hkr).2, nI_sub1 (by omega), aI_nI rfl (by show 12 * l + k - 1 < 288; omega) (by decide), obs, show 12 * l + k - 1 = 12 * l + (k - 1) by omega, (hkk (k - 1) (by omega)).2]
        have b1 := (hb k hkr).2.2
        have b2 := (hb (k - 1) (by omega)).2.2
        by_cases e : col k = col (k - 1)
        · rw [if_pos (by rw [e]), f_X9_oneLine_105, nI_1, nI_1, nI_add]
          rw [if_pos ⟨c0, e⟩, Nat.add_assoc] at ihn
          exact ihn
        · rw [if_neg (fun z => e (nI_inj (by omega) (by omega) z)), f_X9_oneLine_104, f_X9_oneLine_105, nI_1, Int32.add_zero, nI_add]
          rw [if_neg (fun z => e z.2)] at ihn
          exact ihn
  have h0 := loop r 0 FU (by omega) (by unfold FU; omega)
  obtain ⟨f1, f2⟩ := fin (lnOf W H l) hn
  exact ⟨fun h => h0.trans (f1 h), fun h => h0.trans (f2 h)⟩
theorem ol7 {l : Nat} (hl : l < W + H) (hW : W ≤ 12) (hH : H ≤ 12) (hC : 1 ≤ C ∧ C ≤ 3) : ∀ (m fu c r : Nat) (len col : Nat → Nat) (s : St), m + r = 13 → 1 ≤ m → m < fu → Tk s b N T → c ≤ T → mSz s W H C → mLn s l r len col → lOK C r len col → s.1 43 17 = 0 → s.1 43 24 = nI c → ((pL (tK b N) (tS b N) (tV b N) C (lnOf W H l) m c r len col).1 = 0 → ∃ s', f_X9_oneLine_7 fu (nI l) s = some s' ∧ NFr s s' ∧ mOth l s s' ∧ s'.1 43 17 = 0 ∧ s'.1 43 24 = nI (pL (tK b N) (tS b N) (tV b N) C (lnOf W H l) m c r len col).2.2.1 ∧ (pL (tK b N) (tS b N) (tV b N) C (lnOf W H l) m c r len col).2.2.1 ≤ T ∧ mLn s' l (pL (tK b N) (tS b N) (tV b N) C (lnOf W H l) m c r len col).2.2.2.1 (pL (tK b N) (tS b N) (tV b N) C (lnOf W H l) m c r len col).2.2.2.2.1 (pL (tK b N) (tS b N) (tV b N) C (lnOf W H l) m c r len col).2.2.2.2.2 ∧ lOK C (pL (tK b N) (tS b N) (tV b N) C (lnOf W H l) m c r len col).2.2.2.1 (pL (tK b N) (tS b N) (tV b N) C (lnOf W H l) m c r len col).2.2.2.2.1 (pL (tK b N) (tS b N) (tV b N) C (lnOf W H l) m c r len col).2.2.2.2.2 ∧ need (pL (tK b N) (tS b N) (tV b N) C (lnOf W H l) m c r len col).2.2.2.2.1 (pL (tK b N) (tS b N) (tV b N) C (lnOf W H l) m c r len col).2.2.2.2.2 (pL (tK b N) (tS b N) (tV b N) C (lnOf W H l) m c r len col).2.2.2.1 ≤ lnOf W H l) ∧ ((pL (tK b N) (tS b N) (tV b N) C (lnOf W H l) m c r len col).1 ≠ 0 → ∃ s', f_X9_oneLine_7 fu (nI l) s = some s' ∧ NFr s s' ∧ s'.1 43 17 = nI (pL (tK b N) (tS b N) (tV b N) C (lnOf W H l) m c r len col).1 ∧ s'.1 43 18 = nI (pL (tK b N) (tS b N) (tV b N) C (lnOf W H l) m c r len col).2.1) := by
  -- a fault ends the line
  have bad : ∀ (fu x : Nat) (u : St), 1 ≤ x → x ≤ 7 → u.1 43 17 = nI x → f_X9_oneLine_7 (fu + 1) (nI l) u = some u := by
    intro fu x u x1 x2 hu
    have hb := bad9 (s := u) (by rw [hu]; exact nI_ne0 (by omega) (by omega))
    rw [f_X9_oneLine_7, hb, obs, if_pos rfl]
    unfold f_X9_oneLine_35
    rw [hb, obs, if_pos rfl]
  intro m
  induction m with
  | zero => intro fu c r len col s _ h; omega
  | succ m ih =>
    intro fu c r len col s h1 hm1 hfu hk hcT hz hs ho h17 h24
    obtain ⟨fu, rfl⟩ : ∃ z, fu = z + 1 := ⟨fu - 1, by omega⟩
    obtain ⟨k3, ks, kv, kl⟩ := tok_ok (b := b) (N := N) c
    obtain ⟨z1, z2, z3⟩ := id hz
    obtain ⟨s55, sk⟩ := id hs
    obtain ⟨t52, t53, t54⟩ := hk.k hcT
    have hr12 := ho.1
    rw [pL]
    have hexp : f_X9_oneLine_7 (fu + 1) (nI l) s = if tK b N c = 2 then f_X9_oneLine_47 FU (nI l) 0 0 s else Option.bind (f_X9_oneRun (nI l) s) fun s5 => f_X9_oneLine_7 fu (nI l) s5 := by
      rw [f_X9_oneLine_7, good9 h17, obs, if_neg nz, h24, t52, obs]
      by_cases e : tK b N c = 2
      · rw [if_pos ((k21 _ k3).mpr e), if_pos e]
        unfold f_X9_oneLine_35
        rw [good9 h17, obs, if_neg nz]
      · rw [if_neg (fun z => e ((k21 _ k3).mp z)), if_neg e]
    -- a fault in a run
    have fault : ∀ (x p : Nat) (t : St), 1 ≤ x → x ≤ 7 → NFr s t → f_X9_oneRun (nI l) s = some t → t.1 43 17 = nI x → t.1 43 18 = nI p → tK b N c ≠ 2 → ∃ s', f_X9_oneLine_7 (fu + 1) (nI l) s = some s' ∧ NFr s s' ∧ s'.1 43 17 = nI x ∧ s'.1 43 18 = nI p := by
      intro x p t x1 x2 ft ht a1 a2 hne
      obtain ⟨fu, rfl⟩ : ∃ z, fu = z + 1 := ⟨fu - 1, by omega⟩
      refine ⟨t, ?_, ft, a1, a2⟩
      rw [hexp, if_neg hne, ht, obs]
      exact bad fu x t x1 x2 a1
    have fr2 : ∀ x y : Int32, NFr s (sF (sF s 43 17 x) 43 18 y) := fun x y => (NFr.s43 (Or.inl rfl)).trans (NFr.s43 (Or.inr (Or.inl rfl)))
    by_cases e0 : tK b N c = 0
    · rw [if_pos e0]
      have ne2 : tK b N c ≠ 2 := by omega
      have hc1 := hk.lt hcT (by omega)
      by_cases e1 : tV b N c = 0
      · rw [if_pos e1]
        refine ⟨fun z => absurd (show (4 : Nat) = 0 from z) (by decide), fun _ => fault 4 (tS b N c) (sF (sF s 43 17 4) 43 18 (nI (tS b N c))) (by omega) (by omega) (fr2 _ _) ?_ (by rw [sF_nj (by decide), sF_at]; rfl) sF_at ne2⟩
        unfold f_X9_oneRun
        rw [h24, t52, obs, if_pos ((k01 _ k3).mpr e0), t54, obs, if_pos (by rw [e1]; rfl), t53, obs, fails9 h17, obs]
      · rw [if_neg e1]
        have v0 : ¬ nI (tV b N c) = 0 := nI_ne0 (by omega) (by omega)
        by_cases e2 : r = 12
        · rw [if_pos e2]
          refine ⟨fun z => absurd (show (5 : Nat) = 0 from z) (by decide), fun _ => fault 5 (tS b N c) (sF (sF s 43 17 5) 43 18 (nI (tS b N c))) (by omega) (by omega) (fr2 _ _) ?_ (by rw [sF_nj (by decide), sF_at]; rfl) sF_at ne2⟩
          unfold f_X9_oneRun
          rw [h24, t52, obs, if_pos ((k01 _ k3).mpr e0), t54, obs, if_neg v0, aI_nI rfl (by show l < 24; omega) (by decide), obs, s55, if_pos (by rw [e2]; rfl), t53, obs, fails9 h17, obs]
        · rw [if_neg e2]
          have hr : r < 12 := by omega
          generalize hu : sF (sF (sF (sF s 56 (12 * l + r) (nI (tV b N c))) 57 (12 * l + r) 1) 55 l (nI (r + 1))) 43 24 (nI (c + 1)) = u
          have fu1 : NFr s u := by
            rw [← hu]
            exact (NFr.sr (Or.inr (Or.inl rfl))).trans ((NFr.sr (Or.inr (Or.inr rfl))).trans ((NFr.sr (Or.inl rfl)).trans (NFr.s43 (Or.inr (Or.inr rfl)))))
          have u17 : u.1 43 17 = 0 := by rw [← hu, sF_nj (by decide), sF_ne (by decide), sF_ne (by decide), sF_ne (by decide)]; exact h17
          have u24 : u.1 43 24 = nI (c + 1) := by rw [← hu, sF_at]
          have u27 : u.1 43 27 = nI C := by rw [fu1.2.1 27 (by decide) (by decide) (by decide)]; exact z3
          have hku := hk.n fu1
          obtain ⟨m3, ms, mv, ml⟩ := tok_ok (b := b) (N := N) (c + 1)
          obtain ⟨w52, w53, w54⟩ := hku.k hc1
          have u55 : u.1 55 l = nI (r + 1) := by rw [← hu, sF_ne (by decide), sF_at]
          have uo : mOth l s u := by
            refine ⟨fun j hj => by rw [← hu, sF_ne (by decide), sF_nj hj, sF_ne (by decide), sF_ne (by decide)], fun j hj => ⟨?_, ?_⟩⟩
            · rw [← hu, sF_ne (by decide), sF_ne (by decide), sF_ne (by decide), sF_nj (by omega)]
            · rw [← hu, sF_ne (by decide), sF_ne (by decide), sF_nj (by omega), sF_ne (by decide)]
          have u56 : ∀ k, k < r + 1 → u.1 56 (12 * l + k) = nI (upd1 len r (tV b N c) k) := fun k hk' => by
            unfold upd1
            rw [← hu, sF_ne (by decide), sF_ne (by decide), sF_ne (by decide)]
            by_cases e : k = r
            · rw [if_pos e, e, sF_at]
            · rw [if_neg e, sF_nj (by omega)]
              exact (sk k (by omega)).1
          have u57 : ∀ k, k < r → u.1 57 (12 * l + k) = nI (col k) := fun k hk' => by
            rw [← hu, sF_ne (by decide), sF_ne (by decide), sF_nj (by omega), sF_ne (by decide)]
            exact (sk k hk').2
          have u57r : u.1 57 (12 * l + r) = 1 := by rw [← hu, sF_ne (by decide), sF_ne (by decide), sF_at]
          have hrun : f_X9_oneRun (nI l) s = if tK b N (c + 1) = 1 then (if tV b N (c + 1) ≤ C then f_X9_oneRun_178 (nI (12 * l + r)) u else f_X9_oneRun_178 (nI (12 * l + r)) (sF (sF u 43 17 4) 43 18 (nI (tS b N (c + 1))))) else some u := by
            unfold f_X9_oneRun
            rw [h24, t52, obs, if_pos ((k01 _ k3).mpr e0), t54, obs, if_neg v0, aI_nI rfl (by show l < 24; omega) (by decide), obs, s55, if_neg (show ¬ nI r = (12 : Int32) from fun z => e2 (nI_inj (b := 12) (by omega) (by omega) z)), obs, obs, at12, pI_nI rfl (by show 12 * l + r < 288; omega) (by decide), obs, pI_nI rfl (by show 12 * l + r < 288; omega) (by decide), obs, aI_nI rfl (by show l < 24; omega) (by decide), obs, sF_ne (by decide), sF_ne (by decide), s55, nI_1, pI_nI rfl (by show l < 24; omega) (by decide), obs, obs, sF_ne (by decide), sF_ne (by decide), sF_ne (by decide), h24, nI_1, hu, u24, w52, obs]
            by_cases q : tK b N (c + 1) = 1
            · rw [if_pos ((k11 _ m3).mpr q), if_pos q, w54, obs, u27]
              by_cases q2 : tV b N (c + 1) ≤ C
              · rw [if_pos (nI_le q2 (by omega)), if_pos q2]
              · rw [if_neg (nI_ge (by omega) (by omega)), if_neg q2, w53, obs, fails9 u17, obs]
            · rw [if_neg (fun z => q ((k11 _ m3).mp z)), if_neg q]
          by_cases q : tK b N (c + 1) = 1
          · rw [if_pos q] at hrun ⊢
            have hc2 := hk.lt hc1 (by omega)
            by_cases q2 : tV b N (c + 1) ≤ C
            · rw [if_pos q2] at hrun ⊢
              generalize hv : sF (sF u 57 (12 * l + r) (nI (tV b N (c + 1)))) 43 24 (nI (c + 2)) = v
              have h178 : f_X9_oneRun_178 (nI (12 * l + r)) u = some v := by
                unfold f_X9_oneRun_178
                rw [u24, w54, obs, pI_nI rfl (by show 12 * l + r < 288; omega) (by decide), obs, obs, sF_ne (by decide), u24, nI_1, hv]
              have fv : NFr s v := by rw [← hv]; exact fu1.trans ((NFr.sr (Or.inr (Or.inr rfl))).trans (NFr.s43 (Or.inr (Or.inr rfl))))
              have vo : mOth l s v := by
                refine uo.trans ⟨fun j hj => by rw [← hv, sF_ne (by decide), sF_ne (by decide)], fun j hj => ⟨by rw [← hv, sF_ne (by decide), sF_ne (by decide)], by rw [← hv, sF_ne (by decide), sF_nj (by omega)]⟩⟩
              have vl : mLn v l (r + 1) (upd1 len r (tV b N c)) (upd1 col r (tV b N (c + 1))) := by
                refine ⟨by rw [← hv, sF_ne (by decide), sF_ne (by decide)]; exact u55, fun k hk' => ⟨by rw [← hv, sF_ne (by decide), sF_ne (by decide)]; exact u56 k hk', ?_⟩⟩
                rw [← hv, sF_ne (by decide)]
                unfold upd1
                by_cases e : k = r
                · rw [if_pos e, e, sF_at]
                · rw [if_neg e, sF_nj (by omega)]
                  exact u57 k (by omega)
              obtain ⟨i1, i2⟩ := ih fu (c + 2) (r + 1) _ _ v (by omega) (by omega) (by omega) (hk.n fv) hc2 (hz.n fv) vl (ho.up hr ⟨by omega, kv⟩ ⟨(ml q).1, q2⟩) (by rw [← hv, sF_nj (by decide), sF_ne (by decide)]; exact u17) (by rw [← hv, sF_at])
              rw [hexp, if_neg ne2, hrun, h178, obs]
              refine ⟨fun z => ?_, fun z => ?_⟩
              · obtain ⟨s', y1, y2, y3, y4⟩ := i1 z
                exact ⟨s', y1, fv.trans y2, vo.trans y3, y4⟩
              · obtain ⟨s', y1, y2, y3⟩ := i2 z
                exact ⟨s', y1, fv.trans y2, y3⟩
            · rw [if_neg q2] at hrun ⊢
              refine ⟨fun z => absurd (show (4 : Nat) = 0 from z) (by decide), fun _ => ?_⟩
              generalize hx : sF (sF u 43 17 4) 43 18 (nI (tS b N (c + 1))) = x
              rw [hx] at hrun
              have fx : NFr s x := by rw [← hx]; exact fu1.trans ((NFr.s43 (Or.inl rfl)).trans (NFr.s43 (Or.inr (Or.inl rfl))))
              have x24 : x.1 43 24 = nI (c + 1) := by rw [← hx, sF_nj (by decide), sF_nj (by decide)]; exact u24
              have h178 : f_X9_oneRun_178 (nI (12 * l + r)) x = some (sF (sF x 57 (12 * l + r) (nI (tV b N (c + 1)))) 43 24 (nI (c + 2))) := by
                unfold f_X9_oneRun_178
                rw [x24, ((hk.n fx).k hc1).2.2, obs, pI_nI rfl (by show 12 * l + r < 288; omega) (by decide), obs, obs, sF_ne (by decide), x24, nI_1]
              refine fault 4 (tS b N (c + 1)) _ (by omega) (by omega) (fx.trans ((NFr.sr (Or.inr (Or.inr rfl))).trans (NFr.s43 (Or.inr (Or.inr rfl))))) (hrun.trans h178) ?_ ?_ ne2
              · rw [sF_nj (by decide), sF_ne (by decide), ← hx, sF_nj (by decide), sF_at]
                rfl
              · rw [sF_nj (by decide), sF_ne (by decide), ← hx, sF_at]
          · rw [if_neg q] at hrun ⊢
            have ul : mLn u l (r + 1) (upd1 len r (tV b N c)) (upd1 col r 1) := by
              refine ⟨u55, fun k hk' => ⟨u56 k hk', ?_⟩⟩
              unfold upd1
              by_cases e : k = r
              · rw [if_pos e, e, u57r]
                rfl
              · rw [if_neg e]
                exact u57 k (by omega)
            obtain ⟨i1, i2⟩ := ih fu (c + 1) (r + 1) _ _ u (by omega) (by omega) (by omega) hku hc1 (hz.n fu1) ul (ho.up hr ⟨by omega, kv⟩ ⟨by omega, hC.1⟩) u17 u24
            rw [hexp, if_neg ne2, hrun, obs]
            refine ⟨fun z => ?_, fun z => ?_⟩
            · obtain ⟨s', y1, y2, y3, y4⟩ := i1 z
              exact ⟨s', y1, fu1.trans y2, uo.trans y3, y4⟩
            · obtain ⟨s', y1, y2, y3⟩ := i2 z
              exact ⟨s', y1, fu1.trans y2, y3⟩
    · rw [if_neg e0]
      by_cases e2 : tK b N c = 2
      · rw [if_pos e2]
        have hc1 := hk.lt hcT (by omega)
        obtain ⟨y1, y2⟩ := ol47 hz hk hcT h17 h24 hl hW hH hC.2 hs ho
        rw [if_pos e2] at hexp
        by_cases e3 : need len col r ≤ lnOf W H l
        · rw [if_pos e3, hexp, y1 e3]
          refine ⟨fun _ => ⟨_, rfl, NFr.s43 (Or.inr (Or.inr rfl)), ⟨fun j _ => by rw [sF_ne (by decide)], fun j _ => ⟨by rw [sF_ne (by decide)], by rw [sF_ne (by decide)]⟩⟩, by rw [sF_nj (by decide)]; exact h17, sF_at, hc1, ⟨by rw [sF_ne (by decide)]; exact s55, fun k hk' => by rw [sF_ne (by decide), sF_ne (by decide)]; exact sk k hk'⟩, ho, e3⟩, fun z => absurd rfl z⟩
        · rw [if_neg e3, hexp, y2 e3]
          exact ⟨fun z => absurd (show (6 : Nat) = 0 from z) (by decide), fun _ => ⟨_, rfl, (fr2 _ _).trans (NFr.s43 (Or.inr (Or.inr rfl))), by rw [sF_nj (by decide), sF_nj (by decide), sF_at], by rw [sF_nj (by decide), sF_at]⟩⟩
      · rw [if_neg e2]
        refine ⟨fun z => absurd (show (2 : Nat) = 0 from z) (by decide), fun _ => fault 2 (tS b N c) (sF (sF s 43 17 2) 43 18 (nI (tS b N c))) (by omega) (by omega) (fr2 _ _) ?_ (by rw [sF_nj (by decide), sF_at]; rfl) sF_at e2⟩
        unfold f_X9_oneRun
        rw [h24, t52, obs, if_neg (fun z => e0 ((k01 _ k3).mp z)), t53, obs, fails9 h17, obs]
end Parse9
