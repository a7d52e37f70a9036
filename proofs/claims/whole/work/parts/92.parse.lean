/-! reading tokens, as functions; the class reads lines -/
abbrev LnR : Type := Nat × (Nat → Nat) × (Nat → Nat)
def upd1 (f : Nat → Nat) (r v : Nat) : Nat → Nat := fun j => if j = r then v else f j
def pL (K S V : Nat → Nat) (C n : Nat) : Nat → Nat → Nat → (Nat → Nat) → (Nat → Nat) → Nat × Nat × Nat × LnR
  | 0, c, r, len, col => (2, 0, c, r, len, col)
  | m + 1, c, r, len, col => if K c = 0 then (if V c = 0 then (4, S c, c, r, len, col) else if r = 12 then (5, S c, c, r, len, col) else if K (c + 1) = 1 then (if V (c + 1) ≤ C then pL K S V C n m (c + 2) (r + 1) (upd1 len r (V c)) (upd1 col r (V (c + 1))) else (4, S (c + 1), c, r, len, col)) else pL K S V C n m (c + 1) (r + 1) (upd1 len r (V c)) (upd1 col r 1)) else if K c = 2 then (if need len col r ≤ n then (0, 0, c + 1, r, len, col) else (6, S c, c, r, len, col)) else (2, S c, c, r, len, col)
/-- the runs that were read -/
def lOK (C r : Nat) (len col : Nat → Nat) : Prop := r ≤ 12 ∧ ∀ k, k < r → (1 ≤ len k ∧ len k ≤ 99) ∧ (1 ≤ col k ∧ col k ≤ C)
theorem lOK.up {C r v x : Nat} {len col : Nat → Nat} (h : lOK C r len col) (hr : r < 12) (hv : 1 ≤ v ∧ v ≤ 99) (hx : 1 ≤ x ∧ x ≤ C) : lOK C (r + 1) (upd1 len r v) (upd1 col r x) := by
  refine ⟨by omega, fun k hk => ?_⟩
  unfold upd1
  by_cases e : k = r
  · rw [if_pos e, if_pos e]
    exact ⟨hv, hx⟩
  · rw [if_neg e, if_neg e]
    exact h.2 k (by omega)
theorem need_le {len col : Nat → Nat} : ∀ k, (∀ j, j < k → len j ≤ 99) → need len col k ≤ 100 * k := by
  intro k
  induction k with
  | zero => intro _; exact Nat.le_refl _
  | succ k ih =>
    intro h
    have a := ih (fun j hj => h j (by omega))
    have c := h k (by omega)
    rw [need]
    split <;> omega
theorem len_need {len col : Nat → Nat} : ∀ k j, j < k → len j ≤ need len col k := by
  intro k
  induction k with
  | zero => intro j h; omega
  | succ k ih =>
    intro j h
    rw [need]
    by_cases e : j = k
    · rw [e]
      omega
    · have := ih j (by omega)
      omega
/-- line l of the draft -/
def lSt (s : St) (l T r : Nat) (len col : Nat → Nat) : Prop := s.1 8 l = nI r ∧ s.1 7 6 = nI (T + r) ∧ ∀ k, k < r → s.1 9 (12 * l + k) = nI (len k) ∧ s.1 10 (12 * l + k) = nI (col k)
/-- sizes of the draft -/
def dSz (s : St) (W H C : Nat) : Prop := s.1 7 3 = nI W ∧ s.1 7 4 = nI H ∧ s.1 7 5 = nI C
/-- what reading changes -/
def GFr (s s' : St) : Prop := (∀ a, a ≠ 7 → a ≠ 8 → a ≠ 9 → a ≠ 10 → a ≠ 11 → s'.1 a = s.1 a) ∧ (∀ j, j ≠ 6 → s'.1 7 j = s.1 7 j) ∧ s'.2 = s.2
theorem GFr.rfl' {s : St} : GFr s s := ⟨fun _ _ _ _ _ _ => rfl, fun _ _ => rfl, rfl⟩
theorem GFr.trans {s t u : St} (a : GFr s t) (c : GFr t u) : GFr s u := ⟨fun i i1 i2 i3 i4 i5 => (c.1 i i1 i2 i3 i4 i5).trans (a.1 i i1 i2 i3 i4 i5), fun j hj => (c.2.1 j hj).trans (a.2.1 j hj), c.2.2.trans a.2.2⟩
theorem RFr.g {s s' : St} (h : RFr s s') : GFr s s' := ⟨fun a _ _ _ _ a5 => h.1 a a5, fun j _ => by rw [h.1 7 (by decide)], h.2.2⟩
theorem DFr.g {s s' : St} (h : DFr s s') : GFr s s' := ⟨fun a a1 a2 a3 a4 _ => h.1 a a1 a2 a3 a4, h.2.1, h.2.2⟩
theorem GFr.s11 {s : St} {j : Nat} {v : Int32} : GFr s (sF s 11 j v) := ⟨fun a _ _ _ _ h => sF_ne h, fun _ _ => by rw [sF_ne (by decide)], rfl⟩
theorem Tx.g {s s' : St} {b : Nat → Nat} {N : Nat} (h : Tx s b N) (f : GFr s s') : Tx s' b N := h.fr (f.1 1 (by decide) (by decide) (by decide) (by decide) (by decide)) (f.1 2 (by decide) (by decide) (by decide) (by decide) (by decide))
theorem dSz.g {s s' : St} {W H C : Nat} (h : dSz s W H C) (f : GFr s s') : dSz s' W H C := by
  unfold dSz
  rw [f.2.1 3 (by decide), f.2.1 4 (by decide), f.2.1 5 (by decide)]
  exact h
theorem cAt.d {s s' : St} {b : Nat → Nat} {N k : Nat} (h : cAt s b N k) (f : DFr s s') : cAt s' b N k := by
  unfold cAt
  rw [f.1 11 (by decide) (by decide) (by decide) (by decide)]
  exact h
theorem oth.r {l : Nat} {s s' : St} (f : RFr s s') : oth l s s' := ⟨fun j _ => by rw [f.1 8 (by decide)], fun j _ => ⟨by rw [f.1 9 (by decide)], by rw [f.1 10 (by decide)]⟩⟩
theorem refuse7 {s : St} {x : Int32} {p : Nat} (h : s.1 11 5 = nI p) : f_X7_refuse x s = some (0, sF (sF s 11 2 x) 11 3 (nI p)) := by
  unfold f_X7_refuse
  rw [obs, obs, sF_nj (by decide), h]
theorem kC_1 : ∀ k, k ≤ 3 → (nI (kC k) = 1 ↔ k = 0) := by decide +kernel
theorem kC_2 : ∀ k, k ≤ 3 → (nI (kC k) = 2 ↔ k = 1) := by decide +kernel
theorem kC_3 : ∀ k, k ≤ 3 → (nI (kC k) = 3 ↔ k = 2) := by decide +kernel
theorem kC_0 : ∀ k, k ≤ 3 → (nI (kC k) = 0 ↔ k = 3) := by decide +kernel
section ParseC
variable {b : Nat → Nat} {N W H C : Nat}
theorem cells7 {s : St} {l : Nat} (hz : dSz s W H C) (hl : l < W + H) (hW : W ≤ 12) (hH : H ≤ 12) : f_X0_cellsOf 7 (nI l) s = some (nI (lnOf W H l), s) := by
  unfold f_X0_cellsOf lnOf
  rw [if_neg (fun x => x rfl), hz.1, hz.2.1]
  by_cases c : l < H
  · rw [if_neg (nI_ge c (by omega)), if_pos c]
  · rw [if_pos (nI_le (by omega) (by omega)), if_neg c]
theorem fits7 {s : St} {l T r : Nat} {len col : Nat → Nat} (hz : dSz s W H C) (hl : l < W + H) (hW : W ≤ 12) (hH : H ≤ 12) (hC : C ≤ 3) (hs : lSt s l T r len col) (ho : lOK C r len col) : f_X0_fitsItsCells 7 (nI l) s = some (if need len col r ≤ lnOf W H l then 1 else 0, s) := by
  obtain ⟨h8, -, hk⟩ := hs
  obtain ⟨hr, hb⟩ := ho
  have hn : lnOf W H l ≤ 12 := by unfold lnOf; split <;> omega
  have loop : ∀ (m k fu : Nat), k + m = r → m < fu → f_X0_fitsItsCells_4 7 fu (nI l) (nI (need len col k)) (nI k) s = some (if need len col r ≤ lnOf W H l then 1 else 0, s) := by
    intro m
    induction m with
    | zero =>
      intro k fu h1 h2
      obtain ⟨fu, rfl⟩ : ∃ z, fu = z + 1 := ⟨fu - 1, by omega⟩
      obtain rfl : k = r := by omega
      have hnl := need_le (len := len) (col := col) k (fun j hj => (hb j hj).1.2)
      rw [f_X0_fitsItsCells_4]
      show Option.bind (aI s 8 (nI l)) _ = _
      rw [aI_nI rfl (by show l < 24; omega) (by decide), obs, h8, if_pos (nI_le (Nat.le_refl _) (by omega)), cells7 hz hl hW hH, obs]
      by_cases c : need len col k ≤ lnOf W H l
      · rw [if_neg (nI_nlt c (by omega)), if_pos c]
      · rw [if_pos (nI_lt (by omega) (by omega)), if_neg c]
    | succ m ih =>
      intro k fu h1 h2
      obtain ⟨fu, rfl⟩ : ∃ z, fu = z + 1 := ⟨fu - 1, by omega⟩
      have hkr : k < r := by omega
      have hgap : f_X0_needsGapAhead 7 (nI l) (nI k) s = some (if k ≠ 0 ∧ col k = col (k - 1) then 1 else 0, s) := by
        unfold f_X0_needsGapAhead
        rw [if_neg (fun x => x rfl)]
        by_cases c0 : k = 0
        · rw [if_pos (by rw [c0]; decide), if_neg (fun z => z.1 c0)]
        · rw [if_neg (nI_nle (by omega) (by omega))]
          show Option.bind (aI s 8 (nI l)) _ = _
          rw [aI_nI rfl (by show l < 24; omega) (by decide), obs, h8, if_neg (nI_ge hkr (by omega)), at12]
          show Option.bind (aI s 10 (nI (12 * l + k) - 1)) _ = _
          rw [nI_sub1 (by omega), aI_nI rfl (by show 12 * l + k - 1 < 288; omega) (by decide), obs]
          show Option.bind (aI s 10 (nI (12 * l + k))) _ = _
          rw [aI_nI rfl (by show 12 * l + k < 288; omega) (by decide), obs, (hk k hkr).2, show 12 * l + k - 1 = 12 * l + (k - 1) by omega, (hk (k - 1) (by omega)).2]
          have b1 := (hb k hkr).2.2
          have b2 := (hb (k - 1) (by omega)).2.2
          by_cases e : col k = col (k - 1)
          · rw [if_pos (by rw [e]), if_pos ⟨c0, e⟩]
          · rw [if_neg (fun z => e (nI_inj (by omega) (by omega) z).symm), if_neg (fun z => e z.2)]
      rw [f_X0_fitsItsCells_4]
      show Option.bind (aI s 8 (nI l)) _ = _
      rw [aI_nI rfl (by show l < 24; omega) (by decide), obs, h8, if_neg (nI_ge hkr (by omega)), lenOf (g := 7) rfl rfl rfl (by omega), obs]
      show Option.bind (f_X0_needsGapAhead 7 (nI l) (nI k) s) _ = _
      rw [hgap, obs]
      have ihn := ih (k + 1) fu (by omega) (by omega)
      rw [need] at ihn
      show (if (if k ≠ 0 ∧ col k = col (k - 1) then (1 : Int32) else 0) = 0 then f_X0_fitsItsCells_35 7 (f_X0_fitsItsCells_4 7 fu) (nI l) (nI k) 0 (s.1 9 (12 * l + k)) (nI (need len col k)) s else f_X0_fitsItsCells_35 7 (f_X0_fitsItsCells_4 7 fu) (nI l) (nI k) 1 (s.1 9 (12 * l + k)) (nI (need len col k)) s) = _
      rw [(hk k hkr).1]
      by_cases c : k ≠ 0 ∧ col k = col (k - 1)
      · rw [if_pos c] at ihn ⊢
        rw [if_neg (show ¬ (1 : Int32) = 0 by decide), f_X0_fitsItsCells_35, nI_1, nI_1, nI_add, ← Nat.add_assoc]
        exact ihn
      · rw [if_neg c] at ihn ⊢
        rw [if_pos rfl, f_X0_fitsItsCells_35, nI_1, Int32.add_zero, nI_add]
        exact ihn
  unfold f_X0_fitsItsCells
  rw [if_neg (fun x => x rfl)]
  exact loop r 0 FU (by omega) (by unfold FU; omega)
theorem rl33 {s : St} {l T r c : Nat} {len col : Nat → Nat} (hT : Tx s b N) (hcl : cln b N) (hz : dSz s W H C) (hl : l < W + H) (hW : W ≤ 12) (hH : H ≤ 12) (hC : C ≤ 3) (hs : lSt s l T r len col) (ho : lOK C r len col) (hc : cAt s b N c) : (tK b N c = 2 → need len col r ≤ lnOf W H l → ∃ s', f_X7_readsLine_33 (nI l) s = some (1, s') ∧ RFr s s' ∧ cAt s' b N (c + 1)) ∧ (tK b N c = 2 → ¬ need len col r ≤ lnOf W H l → ∃ s', f_X7_readsLine_33 (nI l) s = some (0, s') ∧ GFr s s' ∧ s'.1 11 2 = nI 6 ∧ s'.1 11 3 = nI (tS b N c)) ∧ (tK b N c ≠ 2 → ∃ s', f_X7_readsLine_33 (nI l) s = some (0, s') ∧ GFr s s' ∧ s'.1 11 2 = nI 2 ∧ s'.1 11 3 = nI (tS b N c)) := by
  obtain ⟨c4, c5, c6, c7⟩ := id hc
  have k3 := (tok_ok (b := b) (N := N) c).1
  have hf := fits7 hz hl hW hH hC hs ho
  refine ⟨fun hk hn => ?_, fun hk hn => ?_, fun hk => ?_⟩
  · obtain ⟨s', e1, e2, e3⟩ := adv7 hT hcl c7
    refine ⟨s', ?_, e2, e3⟩
    unfold f_X7_readsLine_33
    rw [c4, if_pos ((kC_3 _ k3).mpr hk), hf, if_pos hn, obs, if_neg nz]
    show Option.bind (f_X7_advance s) _ = _
    rw [e1, obs]
  · refine ⟨sF (sF s 11 2 6) 11 3 (nI (tS b N c)), ?_, GFr.s11.trans GFr.s11, by rw [sF_nj (by decide), sF_at]; rfl, sF_at⟩
    unfold f_X7_readsLine_33
    rw [c4, if_pos ((kC_3 _ k3).mpr hk), hf, if_neg hn, obs, if_pos rfl]
    show Option.bind (f_X7_refuse 6 s) _ = _
    rw [refuse7 c5, obs, if_pos (Or.inl rfl)]
  · refine ⟨sF (sF s 11 2 2) 11 3 (nI (tS b N c)), ?_, GFr.s11.trans GFr.s11, by rw [sF_nj (by decide), sF_at]; rfl, sF_at⟩
    unfold f_X7_readsLine_33
    rw [c4, if_neg (fun e => hk ((kC_3 _ k3).mp e)), refuse7 c5, obs, if_pos (Or.inl rfl)]
theorem rl2 {l T : Nat} (hcl : cln b N) (hl : l < W + H) (hW : W ≤ 12) (hH : H ≤ 12) (hC : 1 ≤ C ∧ C ≤ 3) : ∀ (m fu c r : Nat) (len col : Nat → Nat) (s : St), m + r = 13 → 1 ≤ m → m ≤ fu → Tx s b N → dSz s W H C → lSt s l T r len col → lOK C r len col → cAt s b N c → ((pL (tK b N) (tS b N) (tV b N) C (lnOf W H l) m c r len col).1 = 0 → ∃ s', f_X7_readsLine_2 fu (nI l) (nI r) s = some (1, s') ∧ GFr s s' ∧ oth l s s' ∧ cAt s' b N (pL (tK b N) (tS b N) (tV b N) C (lnOf W H l) m c r len col).2.2.1 ∧ lSt s' l T (pL (tK b N) (tS b N) (tV b N) C (lnOf W H l) m c r len col).2.2.2.1 (pL (tK b N) (tS b N) (tV b N) C (lnOf W H l) m c r len col).2.2.2.2.1 (pL (tK b N) (tS b N) (tV b N) C (lnOf W H l) m c r len col).2.2.2.2.2 ∧ lOK C (pL (tK b N) (tS b N) (tV b N) C (lnOf W H l) m c r len col).2.2.2.1 (pL (tK b N) (tS b N) (tV b N) C (lnOf W H l) m c r len col).2.2.2.2.1 (pL (tK b N) (tS b N) (tV b N) C (lnOf W H l) m c r len col).2.2.2.2.2 ∧ need (pL (tK b N) (tS b N) (tV b N) C (lnOf W H l) m c r len col).2.2.2.2.1 (pL (tK b N) (tS b N) (tV b N) C (lnOf W H l) m c r len col).2.2.2.2.2 (pL (tK b N) (tS b N) (tV b N) C (lnOf W H l) m c r len col).2.2.2.1 ≤ lnOf W H l ∧ ∀ j, j < 4 → s'.1 11 j = s.1 11 j) ∧ ((pL (tK b N) (tS b N) (tV b N) C (lnOf W H l) m c r len col).1 ≠ 0 → ∃ s', f_X7_readsLine_2 fu (nI l) (nI r) s = some (0, s') ∧ GFr s s' ∧ s'.1 11 2 = nI (pL (tK b N) (tS b N) (tV b N) C (lnOf W H l) m c r len col).1 ∧ s'.1 11 3 = nI (pL (tK b N) (tS b N) (tV b N) C (lnOf W H l) m c r len col).2.1) := by
  intro m
  induction m with
  | zero => intro fu c r len col s _ h; omega
  | succ m ih =>
    intro fu c r len col s h1 hm1 hfu hT hz hs ho hc
    obtain ⟨fu, rfl⟩ : ∃ z, fu = z + 1 := ⟨fu - 1, by omega⟩
    obtain ⟨c4, c5, c6, c7⟩ := id hc
    obtain ⟨k3, ks, kv, kl⟩ := tok_ok (b := b) (N := N) c
    obtain ⟨z1, z2, z3⟩ := id hz
    obtain ⟨s8, s6, sk⟩ := id hs
    obtain ⟨x1, x2, x3⟩ := rl33 hT hcl hz hl hW hH hC.2 hs ho hc
    rw [pL]
    have h12 : ¬ (12 : Int32) < nI r := nI_nlt (a := 12) (show r ≤ 12 by omega) (by omega)
    by_cases e0 : tK b N c = 0
    · rw [if_pos e0]
      have hexp : f_X7_readsLine_2 (fu + 1) (nI l) (nI r) s = Option.bind (f_X7_readsRun (nI l) (nI r) s) fun r3 => if r3.1 = 0 then some (0, r3.2) else f_X7_readsLine_2 fu (nI l) (nI (r + 1)) r3.2 := by
        rw [f_X7_readsLine_2, if_neg h12, c4, if_pos ((kC_1 _ k3).mpr e0), nI_1]
      rw [hexp]
      by_cases e1 : tV b N c = 0
      · rw [if_pos e1]
        refine ⟨fun z => absurd (show (4 : Nat) = 0 from z) (by decide), fun _ => ⟨sF (sF s 11 2 4) 11 3 (nI (tS b N c)), ?_, GFr.s11.trans GFr.s11, by rw [sF_nj (by decide), sF_at]; rfl, sF_at⟩⟩
        unfold f_X7_readsRun
        rw [c6, if_pos (by rw [e1]; rfl), refuse7 c5, obs, if_pos (Or.inl rfl), obs, if_pos rfl]
      · rw [if_neg e1]
        have v0 : ¬ nI (tV b N c) = 0 := nI_ne0 (by omega) (by omega)
        by_cases e2 : r = 12
        · rw [if_pos e2]
          refine ⟨fun z => absurd (show (5 : Nat) = 0 from z) (by decide), fun _ => ⟨sF (sF s 11 2 5) 11 3 (nI (tS b N c)), ?_, GFr.s11.trans GFr.s11, by rw [sF_nj (by decide), sF_at]; rfl, sF_at⟩⟩
          unfold f_X7_readsRun
          rw [c6, if_neg v0, if_neg (show ¬ nI r < (12 : Int32) from nI_nlt (b := 12) (by omega) (by omega)), refuse7 c5, obs, if_pos (Or.inl rfl), obs, if_pos rfl]
        · rw [if_neg e2]
          have hr12 : r < 12 := by omega
          obtain ⟨t, a1, a2, a3⟩ := adv7 hT hcl c7
          obtain ⟨d4, d5, d6, d7⟩ := id a3
          obtain ⟨m3, ms, mv, ml⟩ := tok_ok (b := b) (N := N) (c + 1)
          have hTt := hT.r a2
          have t75 : t.1 7 5 = nI C := by rw [a2.1 7 (by decide)]; exact z3
          have hrun : f_X7_readsRun (nI l) (nI r) s = if tK b N (c + 1) = 1 then (if tV b N (c + 1) ≤ C then Option.bind (f_X7_advance t) fun s6 => f_X7_readsRun_75 (nI l) (nI (tV b N c)) (nI (tV b N (c + 1))) s6 else some (0, sF (sF t 11 2 4) 11 3 (nI (tS b N (c + 1))))) else f_X7_readsRun_75 (nI l) (nI (tV b N c)) 1 t := by
            unfold f_X7_readsRun
            rw [c6, if_neg v0, if_pos (show nI r < (12 : Int32) from nI_lt (b := 12) hr12 (by omega)), a1, obs, d4]
            by_cases q : tK b N (c + 1) = 1
            · rw [if_pos ((kC_2 _ m3).mpr q), if_pos q, d6, t75]
              by_cases q2 : tV b N (c + 1) ≤ C
              · rw [if_pos (nI_le q2 (by omega)), if_pos q2]
              · rw [if_neg (nI_ge (by omega) (by omega)), if_neg q2, refuse7 d5, obs, if_pos (Or.inl rfl)]
            · rw [if_neg (fun e => q ((kC_2 _ m3).mp e)), if_neg q]
          rw [hrun]
          -- a run is added, then on
          have goOn : ∀ (w : St) (x c' : Nat), RFr s w → cAt w b N c' → 1 ≤ x → x ≤ C → ∃ u, f_X7_readsRun_75 (nI l) (nI (tV b N c)) (nI x) w = some (1, u) ∧ GFr s u ∧ oth l s u ∧ Tx u b N ∧ dSz u W H C ∧ lSt u l T (r + 1) (upd1 len r (tV b N c)) (upd1 col r x) ∧ cAt u b N c' ∧ ∀ j, j < 4 → u.1 11 j = s.1 11 j := by
            intro w x c' fw hw hx1 hx2
            obtain ⟨u, g1, g2, g3, g4, g5, g6, g7, g8⟩ := add7 (s := w) (l := l) (F := r) (m := tV b N c) (k := x) (T := T + r) (by omega) hr12 (by rw [fw.1 8 (by decide)]; exact s8) (by rw [fw.1 7 (by decide)]; exact s6)
            have gu : GFr s u := fw.g.trans g2.g
            refine ⟨u, ?_, gu, (oth.r fw).trans g3, hT.g gu, hz.g gu, ⟨g4, by rw [g5, Nat.add_assoc], fun k hk => ?_⟩, hw.d g2, fun j hj => by rw [g2.1 11 (by decide) (by decide) (by decide) (by decide), fw.2.1 j (by omega)]⟩
            · unfold f_X7_readsRun_75
              rw [g1, obs]
            · unfold upd1
              by_cases e : k = r
              · rw [if_pos e, if_pos e, e, g7, g8]
                exact ⟨rfl, rfl⟩
              · rw [if_neg e, if_neg e, (g6 k e).1, (g6 k e).2, fw.1 9 (by decide), fw.1 10 (by decide)]
                exact sk k (by omega)
          by_cases q : tK b N (c + 1) = 1
          · rw [if_pos q, if_pos q]
            by_cases q2 : tV b N (c + 1) ≤ C
            · rw [if_pos q2, if_pos q2]
              obtain ⟨t2, j1, j2, j3⟩ := adv7 hTt hcl d7
              obtain ⟨u, g1, g2, g3, g4, g5, g6, g7, g8⟩ := goOn t2 (tV b N (c + 1)) (c + 2) (a2.trans j2) j3 (ml q).1 q2
              obtain ⟨i1, i2⟩ := ih fu (c + 2) (r + 1) _ _ u (by omega) (by omega) (by omega) g4 g5 g6 (ho.up hr12 ⟨by omega, kv⟩ ⟨(ml q).1, q2⟩) g7
              rw [j1, obs, g1, obs, if_neg nz]
              refine ⟨fun z => ?_, fun z => ?_⟩
              · obtain ⟨s', y1, y2, y3, y4, y5, y6, y7, y8⟩ := i1 z
                exact ⟨s', y1, g2.trans y2, g3.trans y3, y4, y5, y6, y7, fun j hj => by rw [y8 j hj, g8 j hj]⟩
              · obtain ⟨s', y1, y2, y3⟩ := i2 z
                exact ⟨s', y1, g2.trans y2, y3⟩
            · rw [if_neg q2, if_neg q2, obs, if_pos rfl]
              exact ⟨fun z => absurd (show (4 : Nat) = 0 from z) (by decide), fun _ => ⟨_, rfl, a2.g.trans (GFr.s11.trans GFr.s11), by rw [sF_nj (by decide), sF_at]; rfl, sF_at⟩⟩
          · rw [if_neg q, if_neg q]
            obtain ⟨u, g1, g2, g3, g4, g5, g6, g7, g8⟩ := goOn t 1 (c + 1) a2 a3 (by omega) hC.1
            obtain ⟨i1, i2⟩ := ih fu (c + 1) (r + 1) _ _ u (by omega) (by omega) (by omega) g4 g5 g6 (ho.up hr12 ⟨by omega, kv⟩ ⟨by omega, hC.1⟩) g7
            rw [show (1 : Int32) = nI 1 from rfl, g1, obs, if_neg nz]
            refine ⟨fun z => ?_, fun z => ?_⟩
            · obtain ⟨s', y1, y2, y3, y4, y5, y6, y7, y8⟩ := i1 z
              exact ⟨s', y1, g2.trans y2, g3.trans y3, y4, y5, y6, y7, fun j hj => by rw [y8 j hj, g8 j hj]⟩
            · obtain ⟨s', y1, y2, y3⟩ := i2 z
              exact ⟨s', y1, g2.trans y2, y3⟩
    · rw [if_neg e0]
      have hexp : f_X7_readsLine_2 (fu + 1) (nI l) (nI r) s = f_X7_readsLine_33 (nI l) s := by
        rw [f_X7_readsLine_2, if_neg h12, c4, if_neg (fun e => e0 ((kC_1 _ k3).mp e))]
      rw [hexp]
      by_cases e2 : tK b N c = 2
      · rw [if_pos e2]
        by_cases e3 : need len col r ≤ lnOf W H l
        · rw [if_pos e3]
          obtain ⟨s', y1, y2, y3⟩ := x1 e2 e3
          refine ⟨fun _ => ⟨s', y1, y2.g, oth.r y2, y3, ⟨?_, ?_, fun k hk => ?_⟩, ho, e3, fun j hj => y2.2.1 j (by omega)⟩, fun z => absurd rfl z⟩
          · rw [y2.1 8 (by decide)]
            exact s8
          · rw [y2.1 7 (by decide)]
            exact s6
          · rw [y2.1 9 (by decide), y2.1 10 (by decide)]
            exact sk k hk
        · rw [if_neg e3]
          exact ⟨fun z => absurd (show (6 : Nat) = 0 from z) (by decide), fun _ => x2 e2 e3⟩
      · rw [if_neg e2]
        exact ⟨fun z => absurd (show (2 : Nat) = 0 from z) (by decide), fun _ => x3 e2⟩
end ParseC
