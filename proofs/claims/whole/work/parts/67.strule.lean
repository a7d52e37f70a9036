/-! between the invariant and the contexts -/
theorem Inv.px {s : St} (hI : Inv s) {W H C : Nat} (hz : iSize s W H C) (hW : 1 ≤ W) : ∃ P : Pz, P.W = W ∧ P.H = H ∧ P.C = C ∧ Cz s P ∧ Mz s P := by
  obtain ⟨-, -, W', H', C', hz', -, -, hr⟩ := hI
  obtain ⟨a1, a2, a3, a4, a5, a6, a7⟩ := hz
  obtain ⟨b1, b2, b3, -, -, -, b7⟩ := hz'
  have l1 := a7.le
  have l2 := b7.le
  obtain rfl : W = W' := nI_inj (by omega) (by omega) (a1.symm.trans b1)
  obtain rfl : H = H' := nI_inj (by omega) (by omega) (a2.symm.trans b2)
  obtain rfl : C = C' := nI_inj (by omega) (by omega) (a3.symm.trans b3)
  obtain ⟨⟨cn, len, col, k1, -⟩, -⟩ := hr hW
  have hok : Pz.ok (W, H, C, cn, len, col) := by
    unfold iSz at a7
    refine ⟨(show 1 ≤ W ∧ W ≤ 12 by omega), (show 1 ≤ H ∧ H ≤ 12 by omega), (show 1 ≤ C ∧ C ≤ 3 by omega), fun l hl => ?_⟩
    obtain ⟨c1, c2, c3, c4, c5⟩ := k1 l hl
    exact ⟨c1, c4, fun k hk => ⟨(c5 k hk).1, (c5 k hk).2.1⟩⟩
  refine ⟨(W, H, C, cn, len, col), rfl, rfl, rfl, ⟨hok, a1, a2, a3, fun l hl => ?_⟩, ⟨hok, a4, a5, a6, fun l hl => ?_⟩⟩
  · obtain ⟨c1, c2, c3, c4, c5⟩ := k1 l hl
    exact ⟨c2, fun k hk => ⟨(c5 k hk).2.2.1, (c5 k hk).2.2.2.2.1⟩⟩
  · obtain ⟨c1, c2, c3, c4, c5⟩ := k1 l hl
    exact ⟨c3, fun k hk => ⟨(c5 k hk).2.2.2.1, (c5 k hk).2.2.2.2.2⟩⟩
def visW (a b : Nat) : Bool := vis a b && !(a == 49) && !(a == 0 && b == 12) && !(a == 43 && b == 10)
theorem Inv.newSets {s s' : St} (hI : Inv s) {P : Pz} (hc : Cz s P) (e : ∀ a b, visW a b = true → s'.1 a b = s.1 a b) (a1 : s'.1 0 12 = 1) (a2 : s'.1 43 10 = 1) {g : Gs} (hok : setsOK P.W P.H P.C g) (hw : hasWr (s'.2.1 30) P.W P.H g) (hm : hasM s' 49 0 P.W P.H g) : Inv s' := by
  have r : ∀ a, [1, 2, 3, 4, 5, 6, 12, 13, 14, 15, 33, 35, 37, 44, 45, 46, 47, 48, 50, 51].contains a = true → s'.1 a = s.1 a := fun a ha => by
    funext b
    apply e
    unfold visW vis
    have h49 : (a == 49) = false := by
      cases hb : (a == 49)
      · rfl
      · rw [beq_iff_eq] at hb
        subst hb
        exact absurd ha (by decide)
    have h0 : (a == 0) = false := by
      cases hb : (a == 0)
      · rfl
      · rw [beq_iff_eq] at hb
        subst hb
        exact absurd ha (by decide)
    have h43 : (a == 43) = false := by
      cases hb : (a == 43)
      · rfl
      · rw [beq_iff_eq] at hb
        subst hb
        exact absurd ha (by decide)
    have hin : [0, 1, 2, 3, 4, 5, 6, 12, 13, 14, 15, 33, 35, 37, 44, 45, 46, 47, 48, 49, 50, 51].contains a = true := by
      rw [List.contains_iff_mem] at ha ⊢
      simp only [List.mem_cons, List.not_mem_nil, or_false] at ha ⊢
      omega
    rw [hin, h49, h0, h43]
    rfl
  have r43 : ∀ b, [1, 2, 3, 11, 12, 13, 16, 19].contains b = true → s'.1 43 b = s.1 43 b := fun b hb => by
    apply e
    unfold visW vis
    have h10 : (b == 10) = false := by
      cases hx : (b == 10)
      · rfl
      · rw [beq_iff_eq] at hx
        subst hx
        exact absurd hb (by decide)
    have hin : [1, 2, 3, 10, 11, 12, 13, 16, 19].contains b = true := by
      rw [List.contains_iff_mem] at hb ⊢
      simp only [List.mem_cons, List.not_mem_nil, or_false] at hb ⊢
      omega
    rw [hin, h10]
    rfl
  have r013 : s'.1 0 13 = s.1 0 13 := e 0 13 rfl
  obtain ⟨i1, i2, W, H, C, hz, hs, hf, hr⟩ := hI
  obtain ⟨z1, z2, z3, z4, z5, z6, z7⟩ := hz
  have hle := z7.le
  obtain ⟨⟨W1, W2⟩, ⟨H1, H2⟩, ⟨C1, C2⟩, -⟩ := id hc.1
  obtain rfl : W = P.W := nI_inj (by omega) (by omega) (z1.symm.trans hc.2.1)
  obtain rfl : H = P.H := nI_inj (by omega) (by omega) (z2.symm.trans hc.2.2.1)
  obtain rfl : C = P.C := nI_inj (by omega) (by omega) (z3.symm.trans hc.2.2.2.1)
  refine ⟨?_, ?_, P.W, P.H, P.C, ?_, ⟨a1.trans a2.symm, Or.inr ⟨a1, W1, g, hok, hw, hm⟩⟩, ?_, fun h => ?_⟩
  · unfold iTape
    rw [r 1 rfl, r43 16 rfl, r 51 rfl, r 2 rfl]
    exact i1
  · rw [r013, r43 19 rfl]
    exact i2
  · unfold iSize
    rw [r 3 rfl, r43 1 rfl, r43 2 rfl, r43 3 rfl]
    exact ⟨z1, z2, z3, z4, z5, z6, z7⟩
  · unfold iFound
    rw [r 33 rfl, r43 12 rfl, r43 11 rfl, r43 13 rfl, r 35 rfl, r 50 rfl, r 37 rfl]
    exact hf
  · have := hr h
    unfold iRuns iGrid at this ⊢
    rw [r 4 rfl, r 44 rfl, r 5 rfl, r 45 rfl, r 6 rfl, r 46 rfl, r 3 rfl, r 13 rfl, r 47 rfl, r 12 rfl, r 15 rfl, r 48 rfl, r 14 rfl]
    exact this
theorem Cz.sRowL {s : St} {P : Pz} {q : Nat} {w : Nat → Int64} (h : Cz s P) : Cz (sRowL s q w) P := h
theorem chg01 {P : Pz} {g : Gs} {l p : Nat} : chg P g l p = 0 ∨ chg P g l p = 1 := by unfold chg; split <;> simp
theorem q49 : qOK 49 0 := ⟨rfl, by decide, by decide, by decide⟩
theorem st_rule {s : St} (hI : Inv s) (x : Int32) : Step (f_X8_rule x) (f_X9_rule x) s := by
  obtain ⟨h1, h2, W, H, C, hz, hs, hf, hr⟩ := id hI
  have hle := hz.2.2.2.2.2.2.le
  obtain ⟨q1, q2⟩ := hs
  rcases line_or hz.2.2.2.2.2.2 x with h | ⟨l, hl, hW, rfl⟩
  · refine ⟨-1, s, sF s 43 0 0, ?_, ?_, hI.thrown⟩
    · unfold f_X8_rule; rw [isLine8_no hz h, obs, if_pos rfl]
    · unfold f_X9_rule; rw [obs, isLine9_no hz.thrown h, obs, if_pos rfl]
  · have hW : 1 ≤ W := by have := hz.2.2.2.2.2.2; unfold iSz at this; omega
    rcases q2 with q2 | ⟨q2, -, g, k1, k2, k3⟩
    · refine ⟨-1, s, sF s 43 0 0, ?_, ?_, hI.thrown⟩
      · unfold f_X8_rule; rw [isLine8_yes hz hl, obs, if_neg nz, if_pos q2]
      · unfold f_X9_rule
        rw [obs, isLine9_yes hz.thrown hl hW, obs, if_neg nz, if_pos (show (sF s 43 0 0).1 43 10 = 0 by rw [sF_nj (by decide), ← q1]; exact q2)]
    obtain ⟨P, rfl, rfl, rfl, hc, hm⟩ := hI.px hz hW
    have hP := hc.1
    have h16 : ∀ x y, x < P.W → y < P.H → g x y < 16 := fun x y a b => lt16 hle.2.2 (k1 x y a b).2
    obtain ⟨kp, t, e1, e2, e3, e4⟩ := keptN (g := g) hc hl (k2 l hl)
    have hct := hc.k e2
    have n8 : ¬ s.1 0 12 = 0 := by rw [q2]; decide
    have a8 : f_X8_rule (nI l) s = if (lg_cmp kp (0 : Int64)) = 0 then some ((-2 : Int32), t) else Option.bind (f_X4_narrow 29 (nI l) kp t) fun r7 => Option.bind (f_J6_bitCount_0f7a4 r7.1 r7.2) fun r8 => some (r8.1, r8.2) := by
      unfold f_X8_rule
      rw [isLine8_yes hz hl, obs, if_neg nz, if_neg n8, aJ_nI rfl (by show l < 24; omega) (by decide), obs, e1, obs]
    have ht30 : t.2.1 30 = s.2.1 30 := by rw [e2.2]
    -- what the model does, from a state t' that agrees with s on what it sees
    have mod : ∀ t' : St, (∀ a, a ≠ 17 → a ≠ 18 → t'.1 a = s.1 a) → ∃ s2, MFr 49 0 (sF t' 43 0 0) s2 ∧ (((∀ w, ¬ w ∈ wy P g l) ∧ f_X9_rule (nI l) t' = some (-2, s2) ∧ hasM s2 49 0 P.W P.H g) ∨ ((∃ w, w ∈ wy P g l) ∧ f_X9_rule (nI l) t' = some (nI (smL (chg P g l) (P.n l)), s2) ∧ hasM s2 49 0 P.W P.H (nar P g l))) := by
      intro t' ht
      have hm' : Mz (sF t' 43 0 0) P := by
        unfold Mz
        rw [sF_nj (by decide), sF_nj (by decide), sF_nj (by decide), sF_ne (by decide), sF_ne (by decide), sF_ne (by decide), ht 43 (by decide) (by decide), ht 44 (by decide) (by decide), ht 45 (by decide) (by decide), ht 46 (by decide) (by decide)]
        exact hm
      have hz' : iSize (sF t' 43 0 0) P.W P.H P.C := by
        unfold iSize
        rw [sF_nj (by decide), sF_nj (by decide), sF_nj (by decide), sF_ne (by decide), ht 43 (by decide) (by decide), ht 3 (by decide) (by decide)]
        exact hz
      have hg' : hasM (sF t' 43 0 0) 49 0 P.W P.H g := by
        unfold hasM
        rw [sF_ne (by decide), ht 49 (by decide) (by decide)]
        exact k3
      have h10 : ¬ (sF t' 43 0 0).1 43 10 = 0 := by
        rw [sF_nj (by decide), ht 43 (by decide) (by decide), ← q1]
        exact n8
      obtain ⟨s2, m1, m2⟩ := lineRule9 (g := g) hm' q49 hl h16 hg'
      refine ⟨s2, m1, ?_⟩
      unfold f_X9_rule
      rw [obs, isLine9_yes hz' hl hW, obs, if_neg nz, if_neg h10]
      rcases m2 with ⟨b1, b2, b3⟩ | ⟨b1, b2, b3⟩
      · refine Or.inl ⟨b1, ?_, b3⟩
        show Option.bind (f_X9_lineRule 49 (nI 0) (nI l) (sF t' 43 0 0)) _ = _
        rw [b2]
        rfl
      · refine Or.inr ⟨b1, ?_, b3⟩
        show Option.bind (f_X9_lineRule 49 (nI 0) (nI l) (sF t' 43 0 0)) _ = _
        rw [b2]
        rfl
    have fin : ∀ (t' s2 : St) (g' : Gs), (∀ a, a ≠ 17 → a ≠ 18 → t'.1 a = s.1 a) → MFr 49 0 (sF t' 43 0 0) s2 → hasWr (t'.2.1 30) P.W P.H g' → setsOK P.W P.H P.C g' → hasM s2 49 0 P.W P.H g' → Inv s2 := by
      intro t' s2 g' ht f hw hok hmm
      have q43 : ∀ b, b ≠ 32 → b ≠ 33 → b ≠ 37 → b ≠ 0 → s2.1 43 b = s.1 43 b := fun b b1 b2 b3 b4 => by rw [f.2.1 b b1 b2, sF_nj b4, ht 43 (by decide) (by decide)]
      refine hI.newSets hc (fun a b hv => ?_) ?_ ?_ hok ?_ hmm
      · by_cases a43 : a = 43
        · subst a43
          have : ∀ b, visW 43 b = true → b ≠ 32 ∧ b ≠ 33 ∧ b ≠ 37 ∧ b ≠ 0 := by
            intro b hb
            refine ⟨?_, ?_, ?_, ?_⟩ <;> (rintro rfl; exact absurd hb (by decide))
          obtain ⟨b1, b2, b3, b4⟩ := this b hv
          exact q43 b b1 b2 b3 b4
        · have : ∀ c, visW c b = true → c ≠ 58 ∧ c ≠ 59 ∧ c ≠ 49 ∧ c ≠ 17 ∧ c ≠ 18 := by
            intro c hc
            unfold visW at hc
            refine ⟨?_, ?_, ?_, ?_, ?_⟩ <;> (rintro rfl; simp [vis] at hc)
          obtain ⟨c1, c2, c3, c4, c5⟩ := this a hv
          rw [f.1 a c1 c2 c3 a43, sF_ne a43, ht a c4 c5]
      · rw [f.1 0 (by decide) (by decide) (by decide) (by decide), sF_ne (by decide), ht 0 (by decide) (by decide)]
        exact q2
      · rw [q43 10 (by decide) (by decide) (by decide) (by decide), ← q1]
        exact q2
      · have : s2.2.1 30 = t'.2.1 30 := by
          funext b
          rw [f.2.2.1 30 b (fun x => absurd x.1 (by decide)), sF_J]
        rw [this]
        exact hw
    by_cases c : ∃ w, w ∈ wy P g l
    · obtain ⟨kn, kb⟩ := e4 c
      obtain ⟨w', mk, n1', n2, n3⟩ := narrow4 (G := 29) (q := 30) (g := g) hct hl rfl rfl rfl rfl h16 (by rw [ht30]; exact k2) kb
      have hbc : bcV mk = nI (smL (chg P g l) (P.n l)) := bc_win (b := crL P l) (chg P g l) (by unfold crL; split <;> omega) (Pz.n_le hP).2 (fun p _ => chg01) n3
      obtain ⟨s2, m1, m2⟩ := mod (sRowL t 30 w') (fun a a1 a2 => e2.1 a a1 a2)
      rcases m2 with ⟨b1, -⟩ | ⟨-, b2, b3⟩
      · obtain ⟨w, hw⟩ := c
        exact absurd hw (b1 w)
      refine ⟨nI (smL (chg P g l) (P.n l)), sRowL t 30 w', s2, ?_, b2, fin (sRowL t 30 w') s2 (nar P g l) (fun a a1 a2 => e2.1 a a1 a2) m1 (by rw [sRowL_row]; exact n2) (nar_ok hP hl hle.2.2 k1 c) b3⟩
      rw [a8, if_neg (fun x => kn ((lg0 _).mp x)), n1', obs]
      show some (bcV mk, sRowL t 30 w') = _
      rw [hbc]
    · have k0 := e3 (fun w hw => c ⟨w, hw⟩)
      obtain ⟨s2, m1, m2⟩ := mod t (fun a a1 a2 => e2.1 a a1 a2)
      rcases m2 with ⟨-, b2, b3⟩ | ⟨b1, -⟩
      · refine ⟨-2, t, s2, ?_, b2, fin _ _ g (fun a a1 a2 => e2.1 a a1 a2) m1 (by rw [ht30]; exact k2) k1 b3⟩
        rw [a8, if_pos ((lg0 _).mpr k0)]
      · exact absurd b1 c
