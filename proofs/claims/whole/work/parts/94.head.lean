/-! the head of the text; the class reads all -/
theorem pT_0 {K S V : Nat → Nat} (h : (pT K S V).1 = 0) : (szF K S V 0 12).1 = 0 ∧ (szF K S V 1 12).1 = 0 ∧ (szF K S V 2 3).1 = 0 ∧ K 3 = 2 ∧ pT K S V = pAll K S V (V 0) (V 1) (V 2) (V 0 + V 1) 4 R0 := by
  unfold pT at h ⊢
  by_cases c1 : (szF K S V 0 12).1 = 0
  · rw [if_pos c1] at h ⊢
    by_cases c2 : (szF K S V 1 12).1 = 0
    · rw [if_pos c2] at h ⊢
      by_cases c3 : (szF K S V 2 3).1 = 0
      · rw [if_pos c3] at h ⊢
        by_cases c4 : K 3 = 2
        · rw [if_pos c4]
          exact ⟨c1, c2, c3, c4, rfl⟩
        · rw [if_neg c4] at h
          exact absurd (show (2 : Nat) = 0 from h) (by decide)
      · rw [if_neg c3] at h
        exact absurd h c3
    · rw [if_neg c2] at h
      exact absurd h c2
  · rw [if_neg c1] at h
    exact absurd h c1
def BFr (s s' : St) : Prop := (∀ a, a ≠ 7 → a ≠ 8 → a ≠ 9 → a ≠ 10 → a ≠ 11 → s'.1 a = s.1 a) ∧ s'.2 = s.2
theorem BFr.trans {s t u : St} (a : BFr s t) (c : BFr t u) : BFr s u := ⟨fun i i1 i2 i3 i4 i5 => (c.1 i i1 i2 i3 i4 i5).trans (a.1 i i1 i2 i3 i4 i5), c.2.trans a.2⟩
theorem GFr.b {s s' : St} (h : GFr s s') : BFr s s' := ⟨h.1, h.2.2⟩
theorem begin7 {s : St} {W H C : Nat} : ∃ s', f_X0_begin 7 (nI W) (nI H) (nI C) s = some s' ∧ (∀ a, a ≠ 7 → a ≠ 8 → s'.1 a = s.1 a) ∧ s'.2 = s.2 ∧ dSz s' W H C ∧ s'.1 7 6 = 0 ∧ ∀ j, j < 24 → s'.1 8 j = 0 := by
  generalize hs4 : sF (sF (sF (sF s 7 3 (nI W)) 7 4 (nI H)) 7 5 (nI C)) 7 6 0 = s4
  refine ⟨sRow s4 8 (fun j => if j < 24 then 0 else s4.1 8 j), ?_, fun a a1 a2 => ?_, ?_, ⟨?_, ?_, ?_⟩, ?_, fun j hj => ?_⟩
  · unfold f_X0_begin
    rw [if_neg (fun x => x rfl), obs, obs, obs, obs, hs4]
    show Option.bind (f_J7_fill_53178 8 (0 : Int32) s4) _ = _
    rw [fill_ok (q := 8) (N := 24) rfl rfl (by decide), obs]
  · rw [sRow_get, if_neg a2, ← hs4, sF_ne a1, sF_ne a1, sF_ne a1, sF_ne a1]
  · rw [← hs4]
    rfl
  · rw [sRow_get, if_neg (by decide), ← hs4, sF_nj (by decide), sF_nj (by decide), sF_nj (by decide), sF_at]
  · rw [sRow_get, if_neg (by decide), ← hs4, sF_nj (by decide), sF_nj (by decide), sF_at]
  · rw [sRow_get, if_neg (by decide), ← hs4, sF_nj (by decide), sF_at]
  · rw [sRow_get, if_neg (by decide), ← hs4, sF_at]
  · rw [sRow_get, if_pos rfl, if_pos hj]
section Head
variable {b : Nat → Nat} {N : Nat}
theorem size7 {s : St} {c mx : Nat} (hT : Tx s b N) (hcl : cln b N) (hc : cAt s b N c) (hmx : mx ≤ 12) : ((szF (tK b N) (tS b N) (tV b N) c mx).1 = 0 → ∃ s', f_X7_sizeRead (nI mx) s = some (nI (tV b N c), s') ∧ RFr s s' ∧ cAt s' b N (c + 1)) ∧ ((szF (tK b N) (tS b N) (tV b N) c mx).1 ≠ 0 → ∃ s', f_X7_sizeRead (nI mx) s = some (-1, s') ∧ GFr s s' ∧ s'.1 11 2 = nI (szF (tK b N) (tS b N) (tV b N) c mx).1 ∧ s'.1 11 3 = nI (szF (tK b N) (tS b N) (tV b N) c mx).2) := by
  obtain ⟨c4, c5, c6, c7⟩ := id hc
  obtain ⟨k3, ks, kv, -⟩ := tok_ok (b := b) (N := N) c
  unfold szF f_X7_sizeRead
  rw [c4, c6]
  by_cases e : tK b N c = 0
  · rw [if_pos e, if_pos ((kC_1 _ k3).mpr e)]
    by_cases d : 1 ≤ tV b N c ∧ tV b N c ≤ mx
    · rw [if_pos d]
      refine ⟨fun _ => ?_, fun z => absurd rfl z⟩
      obtain ⟨s', e1, e2, e3⟩ := adv7 hT hcl c7
      refine ⟨s', ?_, e2, e3⟩
      rw [isSize8y (by rw [nI_toInt (by omega)]; omega) (by rw [nI_toInt (by omega), nI_toInt (by omega)]; omega), obs, if_neg nz]
      show Option.bind (f_X7_advance s) (fun s4 => some (s.1 11 6, s4)) = _
      rw [e1, obs, c6]
    · rw [if_neg d]
      refine ⟨fun z => absurd (show (3 : Nat) = 0 from z) (by decide), fun _ => ⟨sF (sF s 11 2 3) 11 3 (nI (tS b N c)), ?_, GFr.s11.trans GFr.s11, by rw [sF_nj (by decide), sF_at]; rfl, sF_at⟩⟩
      rw [isSize8n (by rw [nI_toInt (by omega), nI_toInt (by omega)]; omega), obs, if_pos rfl]
      show Option.bind (f_X7_refuse 3 s) _ = _
      rw [refuse7 c5, obs]
  · rw [if_neg e, if_neg (fun z => e ((kC_1 _ k3).mp z))]
    refine ⟨fun z => absurd (show (2 : Nat) = 0 from z) (by decide), fun _ => ⟨sF (sF s 11 2 2) 11 3 (nI (tS b N c)), ?_, GFr.s11.trans GFr.s11, by rw [sF_nj (by decide), sF_at]; rfl, sF_at⟩⟩
    rw [refuse7 c5, obs]
theorem nI_m1 {n : Nat} (h : n < 2 ^ 31) : ¬ nI n = -1 := fun e => by
  have := congrArg Int32.toInt e
  rw [nI_toInt h, m1_toInt] at this
  omega
theorem head7 {s : St} (hT : Tx s b N) (hcl : cln b N) (hc : cAt s b N 0) : ((szF (tK b N) (tS b N) (tV b N) 0 12).1 = 0 → (szF (tK b N) (tS b N) (tV b N) 1 12).1 = 0 → (szF (tK b N) (tS b N) (tV b N) 2 3).1 = 0 → tK b N 3 = 2 → ∃ s', f_X7_readsHead s = some (1, s') ∧ BFr s s' ∧ cAt s' b N 4 ∧ (∀ j, j < 4 → s'.1 11 j = s.1 11 j) ∧ dSz s' (tV b N 0) (tV b N 1) (tV b N 2) ∧ s'.1 7 6 = 0 ∧ ∀ j, j < 24 → s'.1 8 j = 0) ∧ (¬ ((szF (tK b N) (tS b N) (tV b N) 0 12).1 = 0 ∧ (szF (tK b N) (tS b N) (tV b N) 1 12).1 = 0 ∧ (szF (tK b N) (tS b N) (tV b N) 2 3).1 = 0 ∧ tK b N 3 = 2) → ∃ s', f_X7_readsHead s = some (0, s') ∧ BFr s s' ∧ s'.1 11 2 = nI (pT (tK b N) (tS b N) (tV b N)).1 ∧ s'.1 11 3 = nI (pT (tK b N) (tS b N) (tV b N)).2.1) := by
  obtain ⟨a1, a2⟩ := size7 (c := 0) (mx := 12) hT hcl hc (by omega)
  have v0 := (tok_ok (b := b) (N := N) 0).2.2.1
  have v1 := (tok_ok (b := b) (N := N) 1).2.2.1
  have v2 := (tok_ok (b := b) (N := N) 2).2.2.1
  have k3 := (tok_ok (b := b) (N := N) 3).1
  by_cases c1 : (szF (tK b N) (tS b N) (tV b N) 0 12).1 = 0
  · obtain ⟨s1, d1, d2, d3⟩ := a1 c1
    obtain ⟨b1, b2⟩ := size7 (c := 1) (mx := 12) (hT.r d2) hcl d3 (by omega)
    by_cases c2 : (szF (tK b N) (tS b N) (tV b N) 1 12).1 = 0
    · obtain ⟨s2, e1, e2, e3⟩ := b1 c2
      obtain ⟨g1, g2⟩ := size7 (c := 2) (mx := 3) (hT.r (d2.trans e2)) hcl e3 (by omega)
      have hexp : f_X7_readsHead s = Option.bind (f_X7_sizeRead (nI 3) s2) fun r2 => f_X7_readsHead_37 (nI (tV b N 0)) (nI (tV b N 1)) r2.1 r2.2 := by
        unfold f_X7_readsHead
        show Option.bind (f_X7_sizeRead (nI 12) s) _ = _
        rw [d1, obs, if_neg (nI_m1 (by omega))]
        show Option.bind (f_X7_sizeRead (nI 12) s1) _ = _
        rw [e1, obs, f_X7_readsHead_22, if_neg (nI_m1 (by omega))]
        rfl
      by_cases c3 : (szF (tK b N) (tS b N) (tV b N) 2 3).1 = 0
      · obtain ⟨s3, i1, i2, i3⟩ := g1 c3
        obtain ⟨j4, j5, j6, j7⟩ := id i3
        have f3 : RFr s s3 := d2.trans (e2.trans i2)
        by_cases c4 : tK b N 3 = 2
        · refine ⟨fun _ _ _ _ => ?_, fun z => absurd ⟨c1, c2, c3, c4⟩ z⟩
          obtain ⟨s4, k1, k2, k3'⟩ := adv7 (hT.r f3) hcl j7
          obtain ⟨s5, m1, m2, m3, m4, m5, m6⟩ := begin7 (s := s4) (W := tV b N 0) (H := tV b N 1) (C := tV b N 2)
          have f4 : RFr s s4 := f3.trans k2
          refine ⟨s5, ?_, ⟨fun a x1 x2 _ _ x5 => by rw [m2 a x1 x2, f4.1 a x5], by rw [m3, f4.2.2]⟩, ?_, fun j hj => by rw [m2 11 (by decide) (by decide), f4.2.1 j (by omega)], m4, m5, m6⟩
          · rw [hexp, i1, obs, f_X7_readsHead_37, if_neg (nI_m1 (by omega))]
            show (if s3.1 11 4 = 3 then Option.bind (f_X7_advance s3) _ else _) = _
            rw [j4, if_pos ((kC_3 _ k3).mpr c4), k1, obs]
            show Option.bind (f_X0_begin 7 (nI (tV b N 0)) (nI (tV b N 1)) (nI (tV b N 2)) s4) _ = _
            rw [m1, obs]
          · unfold cAt
            rw [m2 11 (by decide) (by decide)]
            exact k3'
        · refine ⟨fun _ _ _ z => absurd z c4, fun _ => ⟨sF (sF s3 11 2 2) 11 3 (nI (tS b N 3)), ?_, (f3.g.trans (GFr.s11.trans GFr.s11)).b, ?_, ?_⟩⟩
          · rw [hexp, i1, obs, f_X7_readsHead_37, if_neg (nI_m1 (by omega))]
            show (if s3.1 11 4 = 3 then _ else Option.bind (f_X7_refuse 2 s3) _) = _
            rw [j4, if_neg (fun z => c4 ((kC_3 _ k3).mp z)), refuse7 j5, obs, if_pos (Or.inl rfl)]
          · rw [sF_nj (by decide), sF_at]
            unfold pT
            rw [if_pos c1, if_pos c2, if_pos c3, if_neg c4]
            rfl
          · rw [sF_at]
            unfold pT
            rw [if_pos c1, if_pos c2, if_pos c3, if_neg c4]
      · obtain ⟨s3, i1, i2, i3, i4⟩ := g2 c3
        refine ⟨fun _ _ z => absurd z c3, fun _ => ⟨s3, ?_, (d2.g.trans (e2.g.trans i2)).b, ?_, ?_⟩⟩
        · rw [hexp, i1, obs, f_X7_readsHead_37, if_pos rfl]
        · rw [i3]
          unfold pT
          rw [if_pos c1, if_pos c2, if_neg c3]
        · rw [i4]
          unfold pT
          rw [if_pos c1, if_pos c2, if_neg c3]
    · obtain ⟨s2, e1, e2, e3, e4⟩ := b2 c2
      refine ⟨fun _ z => absurd z c2, fun _ => ⟨s2, ?_, (d2.g.trans e2).b, ?_, ?_⟩⟩
      · unfold f_X7_readsHead
        show Option.bind (f_X7_sizeRead (nI 12) s) _ = _
        rw [d1, obs, if_neg (nI_m1 (by omega))]
        show Option.bind (f_X7_sizeRead (nI 12) s1) _ = _
        rw [e1, obs, f_X7_readsHead_22, if_pos rfl, f_X7_readsHead_37, if_pos rfl]
      · rw [e3]
        unfold pT
        rw [if_pos c1, if_neg c2]
      · rw [e4]
        unfold pT
        rw [if_pos c1, if_neg c2]
  · obtain ⟨s1, d1, d2, d3, d4⟩ := a2 c1
    refine ⟨fun z => absurd z c1, fun _ => ⟨s1, ?_, d2.b, ?_, ?_⟩⟩
    · unfold f_X7_readsHead
      show Option.bind (f_X7_sizeRead (nI 12) s) _ = _
      rw [d1, obs, if_pos rfl, f_X7_readsHead_22, if_pos rfl, f_X7_readsHead_37, if_pos rfl]
    · rw [d3]
      unfold pT
      rw [if_neg c1]
    · rw [d4]
      unfold pT
      rw [if_neg c1]
/-- code and place of the fault, and the lines -/
def pX (b : Nat → Nat) (N : Nat) : Nat × Nat × (Nat → LnR) := match lxF b N 0 0 with
  | some p => (1, p, R0)
  | none => pT (tK b N) (tS b N) (tV b N)
theorem readAll7 {s : St} (hT : Tx s b N) : ((pX b N).1 = 0 → lxF b N 0 0 = none ∧ ∃ s', f_X7_readsAll s = some (1, s') ∧ BFr s s' ∧ s'.1 11 2 = 0 ∧ dSz s' (tV b N 0) (tV b N 1) (tV b N 2) ∧ drR (pX b N).2.2 (tV b N 0 + tV b N 1) s' ∧ rGood (tV b N 0) (tV b N 1) (tV b N 2) (tV b N 0 + tV b N 1) (pX b N).2.2) ∧ ((pX b N).1 ≠ 0 → ∃ s', f_X7_readsAll s = some (0, s') ∧ BFr s s' ∧ s'.1 11 2 = nI (pX b N).1 ∧ s'.1 11 3 = nI (pX b N).2.1) := by
  have hN := hT.1
  generalize hs2 : sF (sF s 11 2 0) 11 3 0 = s2
  have g2 : GFr s s2 := by rw [← hs2]; exact GFr.s11.trans GFr.s11
  have hT2 := hT.g g2
  obtain ⟨q1, q2⟩ := cut4 (b := b) (N := N) N 0 0 FU s2 (by omega) (by unfold FU; omega) (by omega) (by omega) hT2
  unfold pX
  cases hlx : lxF b N 0 0 with
  | some p =>
    obtain ⟨e1, e2⟩ := q2 p hlx
    refine ⟨fun z => absurd (show (1 : Nat) = 0 from z) (by decide), fun _ => ⟨sF (sF (sF s2 11 5 (nI p)) 11 2 1) 11 3 (nI p), ?_, (g2.trans (GFr.s11.trans (GFr.s11.trans GFr.s11))).b, by rw [sF_nj (by decide), sF_at]; rfl, by rw [sF_at]⟩⟩
    unfold f_X7_readsAll
    rw [obs, obs, hs2]
    unfold f_X7_cutsClean
    show Option.bind (f_X7_cutsClean_4 FU (nI 0) (nI 0) s2) _ = _
    rw [e1, obs, if_pos rfl]
  | none =>
    have e1 := q1 hlx
    have hcl : cln b N := by
      obtain ⟨a1, a2, -⟩ := lx_cln (b := b) (N := N) N 0 0 (by omega) (by omega) hlx
      exact ⟨fun i hi => a1 i (Nat.zero_le _) hi, fun i hi => a2 i (Nat.zero_le _) hi⟩
    have f5 : RFr s2 (sF s2 11 7 0) := RFr.s (by omega) (by omega)
    obtain ⟨s6, i1, i2, i3⟩ := adv7 (k := 0) (hT2.r f5) hcl sF_at
    have f6 : RFr s2 s6 := f5.trans i2
    obtain ⟨h1, h2⟩ := head7 (hT2.r f6) hcl i3
    have hexp : f_X7_readsAll s = Option.bind (f_X7_readsHead s6) fun r7 => if r7.1 = 0 then some (0, r7.2) else f_X7_readsAll_39 FU (nI 0) r7.2 := by
      unfold f_X7_readsAll
      rw [obs, obs, hs2]
      unfold f_X7_cutsClean
      show Option.bind (f_X7_cutsClean_4 FU (nI 0) (nI 0) s2) _ = _
      rw [e1, obs, if_neg nz, obs, i1, obs]
      rfl
    have b6 : BFr s s6 := (g2.trans f6.g).b
    show ((pT (tK b N) (tS b N) (tV b N)).1 = 0 → _) ∧ ((pT (tK b N) (tS b N) (tV b N)).1 ≠ 0 → _)
    by_cases c : (szF (tK b N) (tS b N) (tV b N) 0 12).1 = 0 ∧ (szF (tK b N) (tS b N) (tV b N) 1 12).1 = 0 ∧ (szF (tK b N) (tS b N) (tV b N) 2 3).1 = 0 ∧ tK b N 3 = 2
    · obtain ⟨c1, c2, c3, c4⟩ := c
      obtain ⟨s7, j1, j2, j3, j4, j5, j6, j7⟩ := h1 c1 c2 c3 c4
      have w0 := szF_0 c1
      have w1 := szF_0 c2
      have w2 := szF_0 c3
      have hT7 : Tx s7 b N := hT.fr (by rw [j2.1 1 (by decide) (by decide) (by decide) (by decide) (by decide), b6.1 1 (by decide) (by decide) (by decide) (by decide) (by decide)]) (by rw [j2.1 2 (by decide) (by decide) (by decide) (by decide) (by decide), b6.1 2 (by decide) (by decide) (by decide) (by decide) (by decide)])
      obtain ⟨r1, r2⟩ := ra39 (W := tV b N 0) (H := tV b N 1) (C := tV b N 2) hcl w0.2 w1.2 w2.2 (tV b N 0 + tV b N 1) FU 4 R0 s7 (Nat.le_refl _) (by unfold FU; omega) hT7 j5 (by
        rw [Nat.sub_self]
        exact ⟨fun l hl => absurd hl (Nat.not_lt_zero _), j6, fun j _ hj => j7 j hj⟩) (by
        rw [Nat.sub_self]
        exact fun l hl => absurd hl (Nat.not_lt_zero _)) j3
      rw [Nat.sub_self] at r1 r2
      have hpT : pT (tK b N) (tS b N) (tV b N) = pAll (tK b N) (tS b N) (tV b N) (tV b N 0) (tV b N 1) (tV b N 2) (tV b N 0 + tV b N 1) 4 R0 := by
        unfold pT
        rw [if_pos c1, if_pos c2, if_pos c3, if_pos c4]
      rw [hpT]
      refine ⟨fun z => ⟨rfl, ?_⟩, fun z => ?_⟩
      · obtain ⟨s', x1, x2, x3, x4, x5⟩ := r1 z
        refine ⟨s', ?_, b6.trans (j2.trans x2.b), ?_, j5.g x2, x3, x4⟩
        · rw [hexp, j1, obs, if_neg nz, x1]
        · rw [x5 2 (by omega), j4 2 (by omega), f6.2.1 2 (by omega), ← hs2, sF_nj (by decide), sF_at]
      · obtain ⟨s', x1, x2, x3, x4⟩ := r2 z
        refine ⟨s', ?_, b6.trans (j2.trans x2.b), x3, x4⟩
        rw [hexp, j1, obs, if_neg nz, x1]
    · obtain ⟨s7, j1, j2, j3, j4⟩ := h2 c
      refine ⟨fun z => ?_, fun _ => ⟨s7, ?_, b6.trans j2, j3, j4⟩⟩
      · obtain ⟨y1, y2, y3, y4, -⟩ := pT_0 z
        exact absurd ⟨y1, y2, y3, y4⟩ c
      · rw [hexp, j1, obs, if_pos rfl]
end Head
