/-! the model: sums of colours, all lines, head -/
theorem ctd_snoc {R : Nat → LnR} {x : Nat} : ∀ m l, ctd R x (m + 1) l = ctd R x m l + cs (R (l + m)) x (R (l + m)).1 := by
  intro m
  induction m with
  | zero => intro l; rw [ctd, ctd, ctd, Nat.add_zero, Nat.add_zero, Nat.zero_add]
  | succ m ih =>
    intro l
    rw [ctd, ih (l + 1), ctd, show l + 1 + m = l + (m + 1) by omega, Nat.add_assoc]
def sg (R : Nat → LnR) (x H : Nat) : Nat → Int32
  | 0 => 0
  | l + 1 => if l < H then sg R x H l + nI (cs (R l) x (R l).1) else sg R x H l - nI (cs (R l) x (R l).1)
theorem sg_rows {R : Nat → LnR} {x H : Nat} : ∀ l, l ≤ H → sg R x H l = nI (ctd R x l 0) := by
  intro l
  induction l with
  | zero => intro _; rfl
  | succ l ih =>
    intro h
    rw [sg, if_pos (by omega), ih (by omega), ctd_snoc, Nat.zero_add, nI_add]
theorem sub_nI {a : Int32} {p y : Nat} : a - nI p - nI y = a - nI (p + y) := by
  rw [← nI_add, Int32.sub_eq_add_neg, Int32.sub_eq_add_neg, Int32.sub_eq_add_neg, Int32.add_assoc, Int32.neg_add, Int32.sub_eq_add_neg]
theorem sg_cols {R : Nat → LnR} {x H : Nat} : ∀ j, sg R x H (H + j) = nI (ctd R x H 0) - nI (ctd R x j H) := by
  intro j
  induction j with
  | zero =>
    rw [Nat.add_zero, sg_rows H (Nat.le_refl _), ctd]
    show _ = nI (ctd R x H 0) - 0
    rw [Int32.sub_zero]
  | succ j ih =>
    show sg R x H (H + j + 1) = _
    rw [sg, if_neg (by omega), ih, ctd_snoc, sub_nI]
def drN (R : Nat → LnR) (n : Nat) (s : St) : Prop := ∀ l, l < n → mLn s l (R l).1 (R l).2.1 (R l).2.2
section Load9
variable {b : Nat → Nat} {N T W H C : Nat}
theorem cd30 {K2 : Int32 → St → Option (Int32 × St)} {K14 : Int32 → Int32 → Int32 → St → Option (Int32 × St)} {s : St} {R : Nat → LnR} {n l x : Nat} {v : Int32} (hz : mSz s W H C) (hd : drN R n s) (hg : rGood W H C n R) (hl : l < n) (hn : n ≤ 24) (hH : H ≤ 12) (hC : C ≤ 3) (hx : x ≤ 3) : ∀ (m k fu : Nat), k + m = (R l).1 → m < fu → f_X9_colourSumsDiffer_30 K2 K14 fu (nI x) (if l < H then v + nI (cs (R l) x k) else v - nI (cs (R l) x k)) (nI l) (nI k) s = K14 (nI x) (if l < H then v + nI (cs (R l) x (R l).1) else v - nI (cs (R l) x (R l).1)) (nI (l + 1)) s := by
  obtain ⟨h55, hk⟩ := hd l hl
  have ho := (hg l hl).1
  have ho12 := ho.1
  intro m
  induction m with
  | zero =>
    intro k fu h1 h2
    obtain ⟨fu, rfl⟩ : ∃ z, fu = z + 1 := ⟨fu - 1, by omega⟩
    obtain rfl : k = (R l).1 := by omega
    rw [f_X9_colourSumsDiffer_30, aI_nI rfl (by show l < 24; omega) (by decide), obs, h55, if_pos (nI_le (Nat.le_refl _) (by omega)), nI_1]
  | succ m ih =>
    intro k fu h1 h2
    obtain ⟨fu, rfl⟩ : ∃ z, fu = z + 1 := ⟨fu - 1, by omega⟩
    have hkr : k < (R l).1 := by omega
    have hb := ho.2 k hkr
    have ihn := ih (k + 1) fu (by omega) (by omega)
    rw [cs] at ihn
    rw [f_X9_colourSumsDiffer_30, aI_nI rfl (by show l < 24; omega) (by decide), obs, h55, if_neg (nI_ge hkr (by omega)), at12, aI_nI rfl (by show 12 * l + k < 288; omega) (by decide), obs, (hk k hkr).2]
    by_cases c : (R l).2.2 k = x
    · rw [if_pos (show nI ((R l).2.2 k) = nI x by rw [c]), hz.2.1, aI_nI rfl (by show 12 * l + k < 288; omega) (by decide), obs, obs, (hk k hkr).1, f_X9_colourSumsDiffer_94, f_X9_colourSumsDiffer_94, f_X9_colourSumsDiffer_96, f_X9_colourSumsDiffer_96, nI_1]
      rw [if_pos c] at ihn
      by_cases d : l < H
      · rw [if_neg (nI_ge d (by omega)), if_pos d, if_pos d, Int32.add_assoc, nI_add]
        rw [if_pos d, if_pos d] at ihn
        exact ihn
      · rw [if_pos (nI_le (by omega) (by omega)), if_neg d, if_neg d, ← Int32.sub_eq_add_neg, sub_nI]
        rw [if_neg d, if_neg d] at ihn
        exact ihn
    · rw [if_neg (show ¬ nI ((R l).2.2 k) = nI x from fun e => c (nI_inj (by omega) (by omega) e)), f_X9_colourSumsDiffer_96, nI_1]
      rw [if_neg c, Nat.add_zero] at ihn
      exact ihn
theorem cd14 {K2 : Int32 → St → Option (Int32 × St)} {s : St} {R : Nat → LnR} {x : Nat} (hz : mSz s W H C) (hd : drN R (W + H) s) (hg : rGood W H C (W + H) R) (hW : W ≤ 12) (hH : H ≤ 12) (hC : C ≤ 3) (hx : x ≤ 3) : ∀ (m l fu : Nat), l + m = W + H → m < fu → f_X9_colourSumsDiffer_14 K2 fu (nI x) (sg R x H l) (nI l) s = if ctd R x H 0 = ctd R x W H then K2 (nI (x + 1)) s else some (1, s) := by
  have l1 := ctd_le (x := x) hg H 0 (by omega)
  have l2 := ctd_le (x := x) hg W H (by omega)
  intro m
  induction m with
  | zero =>
    intro l fu h1 h2
    obtain ⟨fu, rfl⟩ : ∃ z, fu = z + 1 := ⟨fu - 1, by omega⟩
    obtain rfl : l = H + W := by omega
    rw [f_X9_colourSumsDiffer_14, hz.1, hz.2.1, nI_add, if_pos (nI_le (by omega) (by omega)), sg_cols, nI_1]
    by_cases c : ctd R x H 0 = ctd R x W H
    · rw [if_pos (by rw [c, Int32.sub_self]), if_pos c]
    · rw [if_neg, if_neg c]
      intro e
      apply c
      have : nI (ctd R x H 0) = nI (ctd R x W H) := by
        have h3 := congrArg (fun z => z + nI (ctd R x W H)) e
        simpa [Int32.sub_add_cancel] using h3
      exact nI_inj (by omega) (by omega) this
  | succ m ih =>
    intro l fu h1 h2
    obtain ⟨fu, rfl⟩ : ∃ z, fu = z + 1 := ⟨fu - 1, by omega⟩
    have ho12 := (hg l (by omega)).1.1
    have h30 := cd30 (K2 := K2) (K14 := f_X9_colourSumsDiffer_14 K2 fu) (v := sg R x H l) hz hd hg (show l < W + H by omega) (by omega) hH hC hx (R l).1 0 FU (by omega) (by unfold FU; omega)
    have e0 : (if l < H then sg R x H l + nI (cs (R l) x 0) else sg R x H l - nI (cs (R l) x 0)) = sg R x H l := by
      show (if l < H then sg R x H l + 0 else sg R x H l - 0) = sg R x H l
      split
      · exact Int32.add_zero _
      · exact Int32.sub_zero _
    rw [e0] at h30
    rw [f_X9_colourSumsDiffer_14, hz.1, hz.2.1, nI_add, if_neg (nI_ge (by omega) (by omega))]
    refine Eq.trans h30 ?_
    exact ih (l + 1) fu (by omega) (by omega)
theorem cd2 {s : St} {R : Nat → LnR} (hz : mSz s W H C) (hd : drN R (W + H) s) (hg : rGood W H C (W + H) R) (hW : W ≤ 12) (hH : H ≤ 12) (hC : C ≤ 3) : ∀ (m x fu : Nat), x + m = C + 1 → 1 ≤ x → m < fu → f_X9_colourSumsDiffer_2 fu (nI x) s = some (if balF R W H m x = true then 0 else 1, s) := by
  intro m
  induction m with
  | zero =>
    intro x fu h1 hx h2
    obtain ⟨fu, rfl⟩ : ∃ z, fu = z + 1 := ⟨fu - 1, by omega⟩
    rw [f_X9_colourSumsDiffer_2, hz.2.2, if_pos (nI_lt (by omega) (by omega))]
    rfl
  | succ m ih =>
    intro x fu h1 hx h2
    obtain ⟨fu, rfl⟩ : ∃ z, fu = z + 1 := ⟨fu - 1, by omega⟩
    rw [f_X9_colourSumsDiffer_2, hz.2.2, if_neg (nI_nlt (by omega) (by omega))]
    show f_X9_colourSumsDiffer_14 (f_X9_colourSumsDiffer_2 fu) FU (nI x) (sg R x H 0) (nI 0) s = _
    rw [cd14 hz hd hg hW hH hC (by omega) (W + H) 0 FU (by omega) (by unfold FU; omega), balF]
    by_cases c : ctd R x H 0 = ctd R x W H
    · rw [if_pos c, if_pos c]
      exact ih (x + 1) fu (by omega) (by omega) (by omega)
    · rw [if_neg c, if_neg c]
      rfl
theorem bad95 {s : St} {x : Nat} (h1 : 1 ≤ x) (h2 : x ≤ 7) (h : s.1 43 17 = nI x) : f_X9_load_95 s = f_X9_load_153 s := by
  have hb := bad9 (s := s) (by rw [h]; exact nI_ne0 (by omega) (by omega))
  unfold f_X9_load_95 f_X9_load_129
  rw [hb, obs, if_pos rfl]
  show Option.bind (f_X9_good s) _ = _
  rw [hb, obs, if_pos rfl]
theorem bad64 {s : St} {x fu : Nat} {v : Int32} (h1 : 1 ≤ x) (h2 : x ≤ 7) (h : s.1 43 17 = nI x) : f_X9_load_64 (fu + 1) v s = f_X9_load_153 s := by
  have hb := bad9 (s := s) (by rw [h]; exact nI_ne0 (by omega) (by omega))
  rw [f_X9_load_64, hb, obs, if_pos rfl, bad95 h1 h2 h]
theorem bad153 {s : St} {x p : Nat} (h1 : 1 ≤ x) (h2 : x ≤ 7) (h : s.1 43 17 = nI x) (hp : s.1 43 18 = nI p) : f_X9_load_153 s = some (-1 - nI p, sF (sF s 43 16 0) 43 19 (nI x)) := by
  unfold f_X9_load_153
  rw [obs, obs, sF_nj (by decide), h, bad9 (by rw [sF_nj (by decide), sF_nj (by decide), h]; exact nI_ne0 (by omega) (by omega)), obs, if_pos rfl]
  show some ((-1 : Int32) - (sF (sF s 43 16 0) 43 19 (nI x)).1 43 18, sF (sF s 43 16 0) 43 19 (nI x)) = _
  rw [sF_nj (by decide), sF_nj (by decide), hp]
theorem pL_code {K S V : Nat → Nat} {C n : Nat} : ∀ m c r len col, (pL K S V C n m c r len col).1 ≤ 7 := by
  intro m
  induction m with
  | zero => intro c r len col; show 2 ≤ 7; omega
  | succ m ih =>
    intro c r len col
    rw [pL]
    by_cases c0 : K c = 0
    · rw [if_pos c0]
      by_cases c1 : V c = 0
      · rw [if_pos c1]; show 4 ≤ 7; omega
      · rw [if_neg c1]
        by_cases c2 : r = 12
        · rw [if_pos c2]; show 5 ≤ 7; omega
        · rw [if_neg c2]
          by_cases c3 : K (c + 1) = 1
          · rw [if_pos c3]
            by_cases c4 : V (c + 1) ≤ C
            · rw [if_pos c4]; exact ih _ _ _ _
            · rw [if_neg c4]; show 4 ≤ 7; omega
          · rw [if_neg c3]; exact ih _ _ _ _
    · rw [if_neg c0]
      by_cases c1 : K c = 2
      · rw [if_pos c1]
        by_cases c2 : need len col r ≤ n
        · rw [if_pos c2]; show 0 ≤ 7; omega
        · rw [if_neg c2]; show 6 ≤ 7; omega
      · rw [if_neg c1]; show 2 ≤ 7; omega
theorem l64 (hW : 1 ≤ W ∧ W ≤ 12) (hH : 1 ≤ H ∧ H ≤ 12) (hC : 1 ≤ C ∧ C ≤ 3) : ∀ (k fu c : Nat) (R : Nat → LnR) (s : St), k ≤ W + H → k + 1 < fu → Tk s b N T → s.1 43 16 = nI N → c ≤ T → mSz s W H C → drN R (W + H - k) s → rGood W H C (W + H - k) R → s.1 43 17 = 0 → s.1 43 24 = nI c → ((pAll (tK b N) (tS b N) (tV b N) W H C k c R).1 = 0 → ∃ s', f_X9_load_64 fu (nI (W + H - k)) s = f_X9_load_153 s' ∧ NFr s s' ∧ s'.1 43 17 = 0 ∧ drN (pAll (tK b N) (tS b N) (tV b N) W H C k c R).2.2 (W + H) s') ∧ ((pAll (tK b N) (tS b N) (tV b N) W H C k c R).1 ≠ 0 → ∃ s', f_X9_load_64 fu (nI (W + H - k)) s = f_X9_load_153 s' ∧ NFr s s' ∧ s'.1 43 17 = nI (pAll (tK b N) (tS b N) (tV b N) W H C k c R).1 ∧ s'.1 43 18 = nI (pAll (tK b N) (tS b N) (tV b N) W H C k c R).2.1 ∧ (pAll (tK b N) (tS b N) (tV b N) W H C k c R).1 ≤ 7) := by
  have fr2 : ∀ (s : St) (x y : Int32), NFr s (sF (sF s 43 17 x) 43 18 y) := fun s x y => (NFr.s43 (Or.inl rfl)).trans (NFr.s43 (Or.inr (Or.inl rfl)))
  intro k
  induction k with
  | zero =>
    intro fu c R s hk hf hT h16 hc hz hd hg h17 h24
    obtain ⟨fu, rfl⟩ : ∃ z, fu = z + 1 := ⟨fu - 1, by omega⟩
    have k3 := (tok_ok (b := b) (N := N) c).1
    rw [Nat.sub_zero] at hd hg ⊢
    obtain ⟨t52, t53, t54⟩ := hT.k hc
    have hcd := cd2 hz hd hg hW.2 hH.2 hC.2 C 1 FU (by omega) (by omega) (by unfold FU; omega)
    have hexp : f_X9_load_64 (fu + 1) (nI (W + H)) s = if tK b N c = 3 then (if balF R W H C 1 = true then f_X9_load_153 s else f_X9_load_153 (sF (sF s 43 17 7) 43 18 (nI N))) else f_X9_load_153 (sF (sF s 43 17 2) 43 18 (nI (tS b N c))) := by
      rw [f_X9_load_64, good9 h17, obs, if_neg nz]
      show (if s.1 43 25 + s.1 43 26 ≤ nI (W + H) then f_X9_load_95 s else _) = _
      rw [hz.1, hz.2.1, nI_add, if_pos (nI_le (Nat.le_refl _) (by omega))]
      unfold f_X9_load_95
      rw [good9 h17, obs, if_neg nz]
      show Option.bind (aI s 52 (s.1 43 24)) _ = _
      rw [h24, t52, obs]
      by_cases e : tK b N c = 3
      · rw [if_pos ((k31 _ k3).mpr e), if_pos e]
        unfold f_X9_load_129
        show Option.bind (f_X9_good s) _ = _
        rw [good9 h17, obs, if_neg nz]
        show Option.bind (f_X9_colourSumsDiffer_2 FU (nI 1) s) _ = _
        rw [hcd, obs]
        by_cases d : balF R W H C 1 = true
        · rw [if_pos d, if_pos rfl, if_pos d]
        · rw [if_neg d, if_neg nz, if_neg d]
          show Option.bind (f_X9_fails 7 (s.1 43 16) s) _ = _
          rw [h16, fails9 h17, obs]
      · rw [if_neg (fun z => e ((k31 _ k3).mp z)), if_neg e]
        show Option.bind (aI s 53 (nI c)) _ = _
        rw [t53, obs]
        show Option.bind (f_X9_fails 2 (nI (tS b N c)) s) _ = _
        rw [fails9 h17, obs]
        unfold f_X9_load_129
        rw [bad9 (by rw [sF_nj (by decide), sF_at]; decide), obs, if_pos rfl]
    rw [hexp, pAll]
    by_cases e : tK b N c = 3
    · rw [if_pos e, if_pos e]
      by_cases d : balF R W H C 1 = true
      · rw [if_pos d, if_pos d]
        exact ⟨fun _ => ⟨s, rfl, NFr.rfl', h17, hd⟩, fun z => absurd rfl z⟩
      · rw [if_neg d, if_neg d]
        exact ⟨fun z => absurd (show (7 : Nat) = 0 from z) (by decide), fun _ => ⟨_, rfl, fr2 s _ _, by rw [sF_nj (by decide), sF_at]; rfl, by rw [sF_at, tS_end e], Nat.le_refl _⟩⟩
    · rw [if_neg e, if_neg e]
      exact ⟨fun z => absurd (show (2 : Nat) = 0 from z) (by decide), fun _ => ⟨_, rfl, fr2 s _ _, by rw [sF_nj (by decide), sF_at]; rfl, sF_at, by show 2 ≤ 7; omega⟩⟩
  | succ k ih =>
    intro fu c R s hk hf hT h16 hc hz hd hg h17 h24
    obtain ⟨fu, rfl⟩ : ∃ z, fu = z + 1 := ⟨fu - 1, by omega⟩
    have hl : W + H - (k + 1) < W + H := by omega
    have hnx : W + H - (k + 1) + 1 = W + H - k := by omega
    rw [pAll]
    revert hl hnx hd hg
    generalize W + H - (k + 1) = l
    intro hd hg hl hnx
    generalize hs1 : sF s 55 l 0 = s1
    have f1 : NFr s s1 := by rw [← hs1]; exact NFr.sr (Or.inl rfl)
    have hexp : f_X9_load_64 (fu + 1) (nI l) s = Option.bind (f_X9_oneLine_7 FU (nI l) s1) fun s4 => f_X9_load_64 fu (nI (l + 1)) s4 := by
      rw [f_X9_load_64, good9 h17, obs, if_neg nz]
      show (if s.1 43 25 + s.1 43 26 ≤ nI l then _ else Option.bind (f_X9_oneLine (nI l) s) _) = _
      rw [hz.1, hz.2.1, nI_add, if_neg (nI_ge hl (by omega)), nI_1]
      unfold f_X9_oneLine
      rw [pI_nI rfl (by show l < 24; omega) (by decide), obs, hs1]
    have z24 : s1.1 43 24 = nI c := by rw [← hs1, sF_ne (by decide)]; exact h24
    have z17 : s1.1 43 17 = 0 := by rw [← hs1, sF_ne (by decide)]; exact h17
    obtain ⟨y1, y2⟩ := ol7 hl hW.2 hH.2 hC 13 FU c 0 z1 z1 s1 (by omega) (by omega) (by unfold FU; omega) (hT.n f1) hc (hz.n f1) ⟨by rw [← hs1, sF_at]; rfl, fun k hk => absurd hk (Nat.not_lt_zero _)⟩ ⟨Nat.zero_le _, fun k hk => absurd hk (Nat.not_lt_zero _)⟩ z17 z24
    have hcode := pL_code (K := tK b N) (S := tS b N) (V := tV b N) (C := C) (n := lnOf W H l) 13 c 0 z1 z1
    rw [hexp]
    revert y1 y2 hcode
    generalize pL (tK b N) (tS b N) (tV b N) C (lnOf W H l) 13 c 0 z1 z1 = q
    intro y1 y2 hcode
    by_cases e : q.1 = 0
    · rw [if_pos e]
      obtain ⟨t, g1, g2, g3, g4, g5, g6, g7, g8, g9⟩ := y1 e
      rw [g1, obs, hnx]
      have ft : NFr s t := f1.trans g2
      have hdt : drN (fun j => if j = l then q.2.2.2 else R j) (W + H - k) t := by
        rw [← hnx]
        intro j hj
        show mLn t j (if j = l then q.2.2.2 else R j).1 (if j = l then q.2.2.2 else R j).2.1 (if j = l then q.2.2.2 else R j).2.2
        by_cases ej : j = l
        · rw [if_pos ej, ej]
          exact g7
        · rw [if_neg ej]
          obtain ⟨d1, d2⟩ := hd j (by omega)
          have h12 := (hg j (by omega)).1.1
          refine ⟨by rw [g3.1 j ej, ← hs1, sF_nj ej]; exact d1, fun i hi => ?_⟩
          rw [(g3.2 (12 * j + i) (by omega)).1, (g3.2 (12 * j + i) (by omega)).2, ← hs1, sF_ne (by decide), sF_ne (by decide)]
          exact d2 i hi
      have hgt : rGood W H C (W + H - k) (fun j => if j = l then q.2.2.2 else R j) := by
        rw [← hnx]
        intro j hj
        show lOK C (if j = l then q.2.2.2 else R j).1 (if j = l then q.2.2.2 else R j).2.1 (if j = l then q.2.2.2 else R j).2.2 ∧ need (if j = l then q.2.2.2 else R j).2.1 (if j = l then q.2.2.2 else R j).2.2 (if j = l then q.2.2.2 else R j).1 ≤ lnOf W H j
        by_cases ej : j = l
        · rw [if_pos ej, ej]
          exact ⟨g8, g9⟩
        · rw [if_neg ej]
          exact hg j (by omega)
      obtain ⟨i1, i2⟩ := ih fu q.2.2.1 _ t (by omega) (by omega) (hT.n ft) (by rw [ft.2.1 16 (by decide) (by decide) (by decide)]; exact h16) g6 (hz.n ft) hdt hgt g4 g5
      refine ⟨fun z => ?_, fun z => ?_⟩
      · obtain ⟨s', w1, w2, w3, w4⟩ := i1 z
        exact ⟨s', w1, ft.trans w2, w3, w4⟩
      · obtain ⟨s', w1, w2, w3⟩ := i2 z
        exact ⟨s', w1, ft.trans w2, w3⟩
    · rw [if_neg e]
      obtain ⟨t, g1, g2, g3, g4⟩ := y2 e
      obtain ⟨fu, rfl⟩ : ∃ z, fu = z + 1 := ⟨fu - 1, by omega⟩
      rw [g1, obs, bad64 (x := q.1) (by omega) hcode g3]
      exact ⟨fun z => absurd z e, fun _ => ⟨t, rfl, f1.trans g2, g3, g4, hcode⟩⟩
theorem num9 {s : St} {c mx : Nat} (hk : Tk s b N T) (hc : c ≤ T) (h17 : s.1 43 17 = 0) (h24 : s.1 43 24 = nI c) (hmx : mx ≤ 12) : ((szF (tK b N) (tS b N) (tV b N) c mx).1 = 0 → f_X9_number 1 (nI mx) s = some (nI (tV b N c), sF s 43 24 (nI (c + 1)))) ∧ ((szF (tK b N) (tS b N) (tV b N) c mx).1 ≠ 0 → f_X9_number 1 (nI mx) s = some (nI (tV b N c), sF (sF (sF s 43 17 (nI (szF (tK b N) (tS b N) (tV b N) c mx).1)) 43 18 (nI (szF (tK b N) (tS b N) (tV b N) c mx).2)) 43 24 (nI (c + 1)))) := by
  obtain ⟨k3, ks, kv, -⟩ := tok_ok (b := b) (N := N) c
  obtain ⟨t52, t53, t54⟩ := hk.k hc
  have h69 : ∀ u : St, u.1 54 = s.1 54 → u.1 43 24 = nI c → f_X9_number_69 u = some (nI (tV b N c), sF u 43 24 (nI (c + 1))) := by
    intro u hu h24u
    unfold f_X9_number_69
    rw [obs, h24u, nI_1, sF_at, nI_sub1 (by omega), show c + 1 - 1 = c from rfl]
    have : aI (sF u 43 24 (nI (c + 1))) 54 (nI c) = some (nI (tV b N c)) := by
      unfold aI at t54 ⊢
      rw [sF_ne (by decide), hu]
      exact t54
    rw [this, obs]
  unfold f_X9_number szF
  rw [good9 h17, obs, if_neg nz]
  show (_ → Option.bind (aI s 52 (s.1 43 24)) _ = _) ∧ (_ → Option.bind (aI s 52 (s.1 43 24)) _ = _)
  rw [h24, t52, obs]
  by_cases e : tK b N c = 0
  · rw [if_pos e, if_pos ((k01 _ k3).mpr e)]
    show (_ → Option.bind (aI s 54 (nI c)) _ = _) ∧ (_ → Option.bind (aI s 54 (nI c)) _ = _)
    rw [t54, obs]
    by_cases d : 1 ≤ tV b N c ∧ tV b N c ≤ mx
    · rw [if_pos d]
      refine ⟨fun _ => ?_, fun z => absurd rfl z⟩
      show Option.bind (f_X9_in (nI (tV b N c)) 1 (nI mx) s) _ = _
      rw [in9y (by rw [t1, nI_toInt (by omega)]; omega) (by rw [nI_toInt (by omega), nI_toInt (by omega)]; omega), obs, if_neg nz]
      exact h69 s rfl h24
    · rw [if_neg d]
      refine ⟨fun z => absurd (show (3 : Nat) = 0 from z) (by decide), fun _ => ?_⟩
      show Option.bind (f_X9_in (nI (tV b N c)) 1 (nI mx) s) _ = _
      rw [in9n (by rw [t1, nI_toInt (show tV b N c < 2 ^ 31 by omega), nI_toInt (show mx < 2 ^ 31 by omega)]; omega), obs, if_pos rfl]
      show Option.bind (aI s 53 (s.1 43 24)) _ = _
      rw [h24, t53, obs]
      show Option.bind (f_X9_fails 3 (nI (tS b N c)) s) _ = _
      rw [fails9 h17, obs]
      exact h69 _ (by rw [sF_ne (by decide), sF_ne (by decide)]) (by rw [sF_nj (by decide), sF_nj (by decide)]; exact h24)
  · rw [if_neg e, if_neg (fun z => e ((k01 _ k3).mp z))]
    refine ⟨fun z => absurd (show (2 : Nat) = 0 from z) (by decide), fun _ => ?_⟩
    show Option.bind (aI s 53 (nI c)) _ = _
    rw [t53, obs]
    show Option.bind (f_X9_fails 2 (nI (tS b N c)) s) _ = _
    rw [fails9 h17, obs]
    exact h69 _ (by rw [sF_ne (by decide), sF_ne (by decide)]) (by rw [sF_nj (by decide), sF_nj (by decide)]; exact h24)
theorem numB {s : St} {x : Nat} {m : Int32} (h1 : 1 ≤ x) (h2 : x ≤ 7) (h : s.1 43 17 = nI x) : f_X9_number 1 m s = some (1, s) := by
  unfold f_X9_number
  rw [bad9 (by rw [h]; exact nI_ne0 (by omega) (by omega)), obs, if_pos rfl]
theorem semiB {s : St} {x : Nat} (h1 : 1 ≤ x) (h2 : x ≤ 7) (h : s.1 43 17 = nI x) : f_X9_semi s = some s := by
  unfold f_X9_semi
  rw [bad9 (by rw [h]; exact nI_ne0 (by omega) (by omega)), obs, if_pos rfl]
/-- what loading may change in the model before it takes the puzzle over -/
def PFr (s s' : St) : Prop := (∀ a, a ≠ 43 → a ≠ 52 → a ≠ 53 → a ≠ 54 → a ≠ 55 → a ≠ 56 → a ≠ 57 → s'.1 a = s.1 a) ∧ (∀ j, j ≠ 0 → j ≠ 16 → j ≠ 17 → j ≠ 18 → j ≠ 19 → j ≠ 23 → j ≠ 24 → j ≠ 25 → j ≠ 26 → j ≠ 27 → s'.1 43 j = s.1 43 j) ∧ s'.2 = s.2
theorem PFr.trans {s t u : St} (a : PFr s t) (c : PFr t u) : PFr s u := ⟨fun i i1 i2 i3 i4 i5 i6 i7 => (c.1 i i1 i2 i3 i4 i5 i6 i7).trans (a.1 i i1 i2 i3 i4 i5 i6 i7), fun j j1 j2 j3 j4 j5 j6 j7 j8 j9 j10 => (c.2.1 j j1 j2 j3 j4 j5 j6 j7 j8 j9 j10).trans (a.2.1 j j1 j2 j3 j4 j5 j6 j7 j8 j9 j10), c.2.2.trans a.2.2⟩
theorem NFr.p {s s' : St} (h : NFr s s') : PFr s s' := ⟨fun a a1 _ _ _ a5 a6 a7 => h.1 a a1 a5 a6 a7, fun j _ _ j3 j4 _ _ j7 _ _ _ => h.2.1 j j3 j4 j7, h.2.2⟩
theorem CFr.p {s s' : St} (h : CFr s s') : PFr s s' := ⟨fun a a1 a2 a3 a4 _ _ _ => h.1 a a1 a2 a3 a4, fun j _ _ j3 j4 _ j6 _ _ _ _ => h.2.1 j j3 j4 j6, h.2.2⟩
theorem PFr.s {s : St} {j : Nat} {v : Int32} (h : j = 0 ∨ j = 16 ∨ j = 17 ∨ j = 18 ∨ j = 19 ∨ j = 23 ∨ j = 24 ∨ j = 25 ∨ j = 26 ∨ j = 27) : PFr s (sF s 43 j v) := ⟨fun a a1 _ _ _ _ _ _ => sF_ne a1, fun i _ _ _ _ _ _ _ _ _ _ => sF_nj (by omega), rfl⟩
theorem load9 {s : St} (hT : Tm s b N) : ((pX b N).1 = 0 → ∃ s', f_X9_load s = f_X9_load_153 s' ∧ PFr s s' ∧ s'.1 43 17 = 0 ∧ mSz s' (tV b N 0) (tV b N 1) (tV b N 2) ∧ drN (pX b N).2.2 (tV b N 0 + tV b N 1) s') ∧ ((pX b N).1 ≠ 0 → ∃ s', f_X9_load s = f_X9_load_153 s' ∧ PFr s s' ∧ s'.1 43 17 = nI (pX b N).1 ∧ s'.1 43 18 = nI (pX b N).2.1 ∧ (pX b N).1 ≤ 7) := by
  have hN := hT.1
  generalize hs2 : sF (sF s 43 0 0) 43 17 0 = s2
  have f2 : PFr s s2 := by rw [← hs2]; exact (PFr.s (by omega)).trans (PFr.s (by omega))
  have hT2 : Tm s2 b N := by
    unfold Tm
    rw [← hs2, sF_nj (by decide), sF_nj (by decide), sF_ne (by decide), sF_ne (by decide)]
    exact hT
  obtain ⟨s3, c1, c2, c3⟩ := cut9 hT2 (by rw [← hs2, sF_at])
  generalize hs4 : sF s3 43 24 0 = s4
  have f4 : PFr s s4 := by rw [← hs4]; exact f2.trans (c2.p.trans (PFr.s (by omega)))
  have r17 : s4.1 43 17 = s3.1 43 17 := by rw [← hs4, sF_nj (by decide)]
  have r18 : s4.1 43 18 = s3.1 43 18 := by rw [← hs4, sF_nj (by decide)]
  have r16 : s4.1 43 16 = nI N := by rw [← hs4, sF_nj (by decide)]; exact (hT2.c c2).2.1
  have r24 : s4.1 43 24 = nI 0 := by rw [← hs4, sF_at]; rfl
  have hexp : f_X9_load s = Option.bind (f_X9_good s4) fun r5 => if r5.1 = 0 then f_X9_load_62 r5.2 else Option.bind (f_X9_number (1 : Int32) (nI 12) r5.2) fun r7 => Option.bind (f_X9_number (1 : Int32) (nI 12) (sF r7.2 43 25 r7.1)) fun r9 => Option.bind (f_X9_number (1 : Int32) (nI 3) (sF r9.2 43 26 r9.1)) fun r11 => Option.bind (f_X9_semi (sF r11.2 43 27 r11.1)) fun s13 => f_X9_load_62 s13 := by
    unfold f_X9_load
    rw [obs, obs, hs2, c1, obs, obs, hs4]
    rfl
  -- faults end it
  have bad : ∀ (x p : Nat) (t : St), 1 ≤ x → x ≤ 7 → PFr s t → t.1 43 17 = nI x → t.1 43 18 = nI p → f_X9_load_62 t = f_X9_load_153 t := by
    intro x p t x1 x2 _ a1 _
    unfold f_X9_load_62
    rw [show FU = 4095 + 1 from rfl]
    exact bad64 x1 x2 a1
  unfold pX
  cases hlx : lxF b N 0 0 with
  | some p =>
    refine ⟨fun z => absurd (show (1 : Nat) = 0 from z) (by decide), fun _ => ?_⟩
    rcases c3 with ⟨p', e1, e2, e3⟩ | ⟨e1, -⟩
    · rw [hlx] at e1
      injection e1 with e1
      have a1 : s4.1 43 17 = nI 1 := by rw [r17, e2]; rfl
      have a2 : s4.1 43 18 = nI p := by rw [r18, e3, e1]
      refine ⟨s4, ?_, f4, a1, a2, by show 1 ≤ 7; omega⟩
      rw [hexp, bad9 (by rw [a1]; decide), obs, if_pos rfl]
      exact bad 1 p s4 (by omega) (by omega) f4 a1 a2
    · rw [hlx] at e1
      cases e1
  | none =>
    rcases c3 with ⟨p', e1, -⟩ | ⟨-, e2, T, e3, e4, e5⟩
    · rw [hlx] at e1
      cases e1
    have a17 : s4.1 43 17 = 0 := by rw [r17, e2]
    have hTk : Tk s4 b N T := by
      refine ⟨hN, e3, e4, fun j hj => ?_⟩
      rw [← hs4, sF_ne (by decide), sF_ne (by decide), sF_ne (by decide)]
      exact e5 j hj
    rw [good9 a17, obs, if_neg nz] at hexp
    have hexp' : f_X9_load s = Option.bind (f_X9_number (1 : Int32) (nI 12) s4) fun r7 => Option.bind (f_X9_number (1 : Int32) (nI 12) (sF r7.2 43 25 r7.1)) fun r9 => Option.bind (f_X9_number (1 : Int32) (nI 3) (sF r9.2 43 26 r9.1)) fun r11 => Option.bind (f_X9_semi (sF r11.2 43 27 r11.1)) fun s13 => f_X9_load_62 s13 := hexp
    have sC : ∀ c mx, (szF (tK b N) (tS b N) (tV b N) c mx).1 ≤ 7 := by
      intro c mx
      unfold szF
      split
      · split
        · show 0 ≤ 7; omega
        · show 3 ≤ 7; omega
      · show 2 ≤ 7; omega
    have tkp : ∀ t : St, PFr s4 t → (t.1 52 = s4.1 52 ∧ t.1 53 = s4.1 53 ∧ t.1 54 = s4.1 54) → Tk t b N T := by
      intro t _ ⟨h1, h2, h3⟩
      refine ⟨hN, e3, e4, fun j hj => ?_⟩
      rw [h1, h2, h3]
      exact hTk.2.2.2 j hj
    obtain ⟨n1a, n1b⟩ := num9 (mx := 12) hTk (Nat.zero_le _) a17 r24 (by omega)
    show ((pT (tK b N) (tS b N) (tV b N)).1 = 0 → _) ∧ ((pT (tK b N) (tS b N) (tV b N)).1 ≠ 0 → _)
    by_cases q1 : (szF (tK b N) (tS b N) (tV b N) 0 12).1 = 0
    · have w0 := szF_0 q1
      have hc1 := hTk.lt (Nat.zero_le _) (by rw [w0.1]; decide)
      generalize hs5 : sF (sF s4 43 24 (nI (0 + 1))) 43 25 (nI (tV b N 0)) = s5
      have f5 : PFr s4 s5 := by rw [← hs5]; exact (PFr.s (by omega)).trans (PFr.s (by omega))
      have t5 : Tk s5 b N T := tkp s5 f5 (by rw [← hs5, sF_ne (by decide), sF_ne (by decide), sF_ne (by decide), sF_ne (by decide), sF_ne (by decide), sF_ne (by decide)]; exact ⟨rfl, rfl, rfl⟩)
      have s517 : s5.1 43 17 = 0 := by rw [← hs5, sF_nj (by decide), sF_nj (by decide)]; exact a17
      have s524 : s5.1 43 24 = nI 1 := by rw [← hs5, sF_nj (by decide), sF_at]
      rw [n1a q1, obs, hs5] at hexp'
      obtain ⟨n2a, n2b⟩ := num9 (mx := 12) t5 hc1 s517 s524 (by omega)
      by_cases q2 : (szF (tK b N) (tS b N) (tV b N) 1 12).1 = 0
      · have w1 := szF_0 q2
        have hc2 := hTk.lt hc1 (by rw [w1.1]; decide)
        generalize hs6 : sF (sF s5 43 24 (nI (0 + 1 + 1))) 43 26 (nI (tV b N 1)) = s6
        have f6 : PFr s4 s6 := by rw [← hs6]; exact f5.trans ((PFr.s (by omega)).trans (PFr.s (by omega)))
        have t6 : Tk s6 b N T := tkp s6 f6 (by rw [← hs6, sF_ne (by decide), sF_ne (by decide), sF_ne (by decide), sF_ne (by decide), sF_ne (by decide), sF_ne (by decide), ← hs5, sF_ne (by decide), sF_ne (by decide), sF_ne (by decide), sF_ne (by decide), sF_ne (by decide), sF_ne (by decide)]; exact ⟨rfl, rfl, rfl⟩)
        have s617 : s6.1 43 17 = 0 := by rw [← hs6, sF_nj (by decide), sF_nj (by decide)]; exact s517
        have s624 : s6.1 43 24 = nI 2 := by rw [← hs6, sF_nj (by decide), sF_at]
        rw [n2a q2, obs] at hexp'
        rw [show sF (nI (tV b N (0 + 1)), sF s5 43 24 (nI (0 + 1 + 1))).2 43 26 (nI (tV b N (0 + 1)), sF s5 43 24 (nI (0 + 1 + 1))).1 = s6 from hs6] at hexp'
        obtain ⟨n3a, n3b⟩ := num9 (mx := 3) t6 hc2 s617 s624 (by omega)
        by_cases q3 : (szF (tK b N) (tS b N) (tV b N) 2 3).1 = 0
        · have w2 := szF_0 q3
          have hc3 := hTk.lt hc2 (by rw [w2.1]; decide)
          generalize hs7 : sF (sF s6 43 24 (nI (0 + 1 + 1 + 1))) 43 27 (nI (tV b N 2)) = s7
          have f7 : PFr s4 s7 := by rw [← hs7]; exact f6.trans ((PFr.s (by omega)).trans (PFr.s (by omega)))
          have t7 : Tk s7 b N T := tkp s7 f7 (by rw [← hs7, sF_ne (by decide), sF_ne (by decide), sF_ne (by decide), sF_ne (by decide), sF_ne (by decide), sF_ne (by decide), ← hs6, sF_ne (by decide), sF_ne (by decide), sF_ne (by decide), sF_ne (by decide), sF_ne (by decide), sF_ne (by decide), ← hs5, sF_ne (by decide), sF_ne (by decide), sF_ne (by decide), sF_ne (by decide), sF_ne (by decide), sF_ne (by decide)]; exact ⟨rfl, rfl, rfl⟩)
          have s717 : s7.1 43 17 = 0 := by rw [← hs7, sF_nj (by decide), sF_nj (by decide)]; exact s617
          have s724 : s7.1 43 24 = nI 3 := by rw [← hs7, sF_nj (by decide), sF_at]
          have s716 : s7.1 43 16 = nI N := by rw [← hs7, sF_nj (by decide), sF_nj (by decide), ← hs6, sF_nj (by decide), sF_nj (by decide), ← hs5, sF_nj (by decide), sF_nj (by decide)]; exact r16
          have z7 : mSz s7 (tV b N 0) (tV b N 1) (tV b N 2) := by
            refine ⟨?_, ?_, ?_⟩
            · rw [← hs7, sF_nj (by decide), sF_nj (by decide), ← hs6, sF_nj (by decide), sF_nj (by decide), ← hs5, sF_at]
            · rw [← hs7, sF_nj (by decide), sF_nj (by decide), ← hs6, sF_at]
            · rw [← hs7, sF_at]
          rw [n3a q3, obs] at hexp'
          rw [show sF (nI (tV b N (0 + 1 + 1)), sF s6 43 24 (nI (0 + 1 + 1 + 1))).2 43 27 (nI (tV b N (0 + 1 + 1)), sF s6 43 24 (nI (0 + 1 + 1 + 1))).1 = s7 from hs7] at hexp'
          have k3 := (tok_ok (b := b) (N := N) 3).1
          obtain ⟨u52, u53, u54⟩ := t7.k hc3
          have hsemi : f_X9_semi s7 = if tK b N 3 = 2 then some (sF s7 43 24 (nI 4)) else some (sF (sF (sF s7 43 17 2) 43 18 (nI (tS b N 3))) 43 24 (nI 4)) := by
            unfold f_X9_semi f_X9_semi_35
            rw [good9 s717, obs, if_neg nz]
            show Option.bind (aI s7 52 (s7.1 43 24)) _ = _
            rw [s724, u52, obs]
            by_cases e : tK b N 3 = 2
            · rw [if_pos ((k21 _ k3).mpr e), if_pos e, obs]
              show some (sF s7 43 24 (nI 3 + 1)) = _
              rw [nI_1]
            · rw [if_neg (fun z => e ((k21 _ k3).mp z)), if_neg e]
              show Option.bind (aI s7 53 (nI 3)) _ = _
              rw [u53, obs]
              show Option.bind (f_X9_fails 2 (nI (tS b N 3)) s7) _ = _
              rw [fails9 s717, obs, obs, sF_nj (by decide), sF_nj (by decide), s724, nI_1]
          by_cases q4 : tK b N 3 = 2
          · have hpT : pT (tK b N) (tS b N) (tV b N) = pAll (tK b N) (tS b N) (tV b N) (tV b N 0) (tV b N 1) (tV b N 2) (tV b N 0 + tV b N 1) 4 R0 := by
              unfold pT
              rw [if_pos q1, if_pos q2, if_pos q3, if_pos q4]
            rw [hsemi, if_pos q4, obs] at hexp'
            have hc4 := hTk.lt hc3 (by rw [q4]; decide)
            have f8 : NFr s7 (sF s7 43 24 (nI 4)) := NFr.s43 (Or.inr (Or.inr rfl))
            obtain ⟨r1, r2⟩ := l64 w0.2 w1.2 w2.2 (tV b N 0 + tV b N 1) FU 4 R0 (sF s7 43 24 (nI 4)) (Nat.le_refl _) (by unfold FU; omega) (t7.n f8) (by rw [sF_nj (by decide)]; exact s716) hc4 (z7.n f8) (by rw [Nat.sub_self]; exact fun l hl => absurd hl (Nat.not_lt_zero _)) (by rw [Nat.sub_self]; exact fun l hl => absurd hl (Nat.not_lt_zero _)) (by rw [sF_nj (by decide)]; exact s717) sF_at
            rw [Nat.sub_self] at r1 r2
            have h62 : f_X9_load s = f_X9_load_64 FU (nI 0) (sF s7 43 24 (nI 4)) := hexp'
            have f9 : PFr s (sF s7 43 24 (nI 4)) := f4.trans (f7.trans f8.p)
            rw [hpT]
            refine ⟨fun z => ?_, fun z => ?_⟩
            · obtain ⟨s', x1, x2, x3, x4⟩ := r1 z
              exact ⟨s', h62.trans x1, f9.trans x2.p, x3, (z7.n f8).n x2, x4⟩
            · obtain ⟨s', x1, x2, x3, x4, x5⟩ := r2 z
              exact ⟨s', h62.trans x1, f9.trans x2.p, x3, x4, x5⟩
          · have hpT : pT (tK b N) (tS b N) (tV b N) = (2, tS b N 3, R0) := by
              unfold pT
              rw [if_pos q1, if_pos q2, if_pos q3, if_neg q4]
            rw [hpT]
            refine ⟨fun z => absurd (show (2 : Nat) = 0 from z) (by decide), fun _ => ?_⟩
            rw [hsemi, if_neg q4, obs] at hexp'
            have ft : PFr s (sF (sF (sF s7 43 17 2) 43 18 (nI (tS b N 3))) 43 24 (nI 4)) := f4.trans (f7.trans ((PFr.s (by omega)).trans ((PFr.s (by omega)).trans (PFr.s (by omega)))))
            have b17 : (sF (sF (sF s7 43 17 2) 43 18 (nI (tS b N 3))) 43 24 (nI 4)).1 43 17 = nI 2 := by rw [sF_nj (by decide), sF_nj (by decide), sF_at]; rfl
            have b18 : (sF (sF (sF s7 43 17 2) 43 18 (nI (tS b N 3))) 43 24 (nI 4)).1 43 18 = nI (tS b N 3) := by rw [sF_nj (by decide), sF_at]
            exact ⟨_, hexp'.trans (bad 2 _ _ (by omega) (by omega) ft b17 b18), ft, b17, b18, by show 2 ≤ 7; omega⟩
        · have hpT : pT (tK b N) (tS b N) (tV b N) = ((szF (tK b N) (tS b N) (tV b N) 2 3).1, (szF (tK b N) (tS b N) (tV b N) 2 3).2, R0) := by
            unfold pT
            rw [if_pos q1, if_pos q2, if_neg q3]
          rw [hpT]
          refine ⟨fun z => absurd z q3, fun _ => ?_⟩
          have hcd := sC 2 3
          rw [n3b q3, obs] at hexp'
          generalize hx7 : sF (sF (sF (sF s6 43 17 (nI (szF (tK b N) (tS b N) (tV b N) 2 3).1)) 43 18 (nI (szF (tK b N) (tS b N) (tV b N) 2 3).2)) 43 24 (nI (0 + 1 + 1 + 1))) 43 27 (nI (tV b N 2)) = x7
          have hexp2 : f_X9_load s = Option.bind (f_X9_semi x7) fun s13 => f_X9_load_62 s13 := by rw [← hx7]; exact hexp'
          have fx : PFr s x7 := by rw [← hx7]; exact f4.trans (f6.trans ((PFr.s (by omega)).trans ((PFr.s (by omega)).trans ((PFr.s (by omega)).trans (PFr.s (by omega))))))
          have b17 : x7.1 43 17 = nI (szF (tK b N) (tS b N) (tV b N) 2 3).1 := by rw [← hx7, sF_nj (by decide), sF_nj (by decide), sF_nj (by decide), sF_at]
          have b18 : x7.1 43 18 = nI (szF (tK b N) (tS b N) (tV b N) 2 3).2 := by rw [← hx7, sF_nj (by decide), sF_nj (by decide), sF_at]
          rw [semiB (by omega) hcd b17, obs] at hexp2
          exact ⟨x7, hexp2.trans (bad _ _ _ (by omega) hcd fx b17 b18), fx, b17, b18, hcd⟩
      · have hpT : pT (tK b N) (tS b N) (tV b N) = ((szF (tK b N) (tS b N) (tV b N) 1 12).1, (szF (tK b N) (tS b N) (tV b N) 1 12).2, R0) := by
          unfold pT
          rw [if_pos q1, if_neg q2]
        rw [hpT]
        refine ⟨fun z => absurd z q2, fun _ => ?_⟩
        have hcd := sC 1 12
        rw [n2b q2, obs] at hexp'
        generalize hx6 : sF (sF (sF (sF s5 43 17 (nI (szF (tK b N) (tS b N) (tV b N) 1 12).1)) 43 18 (nI (szF (tK b N) (tS b N) (tV b N) 1 12).2)) 43 24 (nI (0 + 1 + 1))) 43 26 (nI (tV b N 1)) = x6
        have hexp2 : f_X9_load s = Option.bind (f_X9_number (1 : Int32) (nI 3) x6) fun r11 => Option.bind (f_X9_semi (sF r11.2 43 27 r11.1)) fun s13 => f_X9_load_62 s13 := by rw [← hx6]; exact hexp'
        have b17 : x6.1 43 17 = nI (szF (tK b N) (tS b N) (tV b N) 1 12).1 := by rw [← hx6, sF_nj (by decide), sF_nj (by decide), sF_nj (by decide), sF_at]
        have b18 : x6.1 43 18 = nI (szF (tK b N) (tS b N) (tV b N) 1 12).2 := by rw [← hx6, sF_nj (by decide), sF_nj (by decide), sF_at]
        have fx : PFr s (sF x6 43 27 1) := by rw [← hx6]; exact f4.trans (f5.trans ((PFr.s (by omega)).trans ((PFr.s (by omega)).trans ((PFr.s (by omega)).trans ((PFr.s (by omega)).trans (PFr.s (by omega)))))))
        have c17 : (sF x6 43 27 1).1 43 17 = nI (szF (tK b N) (tS b N) (tV b N) 1 12).1 := by rw [sF_nj (by decide)]; exact b17
        have c18 : (sF x6 43 27 1).1 43 18 = nI (szF (tK b N) (tS b N) (tV b N) 1 12).2 := by rw [sF_nj (by decide)]; exact b18
        rw [numB (by omega) hcd b17, obs] at hexp2
        rw [show f_X9_semi (sF ((1 : Int32), x6).2 43 27 ((1 : Int32), x6).1) = some (sF x6 43 27 1) from semiB (by omega) hcd c17, obs] at hexp2
        exact ⟨_, hexp2.trans (bad _ _ _ (by omega) hcd fx c17 c18), fx, c17, c18, hcd⟩
    · have hpT : pT (tK b N) (tS b N) (tV b N) = ((szF (tK b N) (tS b N) (tV b N) 0 12).1, (szF (tK b N) (tS b N) (tV b N) 0 12).2, R0) := by
        unfold pT
        rw [if_neg q1]
      rw [hpT]
      refine ⟨fun z => absurd z q1, fun _ => ?_⟩
      have hcd := sC 0 12
      rw [n1b q1, obs] at hexp'
      generalize hx5 : sF (sF (sF (sF s4 43 17 (nI (szF (tK b N) (tS b N) (tV b N) 0 12).1)) 43 18 (nI (szF (tK b N) (tS b N) (tV b N) 0 12).2)) 43 24 (nI (0 + 1))) 43 25 (nI (tV b N 0)) = x5
      have hexp2 : f_X9_load s = Option.bind (f_X9_number (1 : Int32) (nI 12) x5) fun r9 => Option.bind (f_X9_number (1 : Int32) (nI 3) (sF r9.2 43 26 r9.1)) fun r11 => Option.bind (f_X9_semi (sF r11.2 43 27 r11.1)) fun s13 => f_X9_load_62 s13 := by rw [← hx5]; exact hexp'
      have b17 : x5.1 43 17 = nI (szF (tK b N) (tS b N) (tV b N) 0 12).1 := by rw [← hx5, sF_nj (by decide), sF_nj (by decide), sF_nj (by decide), sF_at]
      have b18 : x5.1 43 18 = nI (szF (tK b N) (tS b N) (tV b N) 0 12).2 := by rw [← hx5, sF_nj (by decide), sF_nj (by decide), sF_at]
      have c17 : (sF x5 43 26 1).1 43 17 = nI (szF (tK b N) (tS b N) (tV b N) 0 12).1 := by rw [sF_nj (by decide)]; exact b17
      have d17 : (sF (sF x5 43 26 1) 43 27 1).1 43 17 = nI (szF (tK b N) (tS b N) (tV b N) 0 12).1 := by rw [sF_nj (by decide)]; exact c17
      have d18 : (sF (sF x5 43 26 1) 43 27 1).1 43 18 = nI (szF (tK b N) (tS b N) (tV b N) 0 12).2 := by rw [sF_nj (by decide), sF_nj (by decide)]; exact b18
      have fx : PFr s (sF (sF x5 43 26 1) 43 27 1) := by rw [← hx5]; exact f4.trans ((PFr.s (by omega)).trans ((PFr.s (by omega)).trans ((PFr.s (by omega)).trans ((PFr.s (by omega)).trans ((PFr.s (by omega)).trans (PFr.s (by omega)))))))
      rw [numB (by omega) hcd b17, obs] at hexp2
      rw [show f_X9_number (1 : Int32) (nI 3) (sF ((1 : Int32), x5).2 43 26 ((1 : Int32), x5).1) = some (1, sF x5 43 26 1) from numB (by omega) hcd c17, obs] at hexp2
      rw [show f_X9_semi (sF ((1 : Int32), sF x5 43 26 1).2 43 27 ((1 : Int32), sF x5 43 26 1).1) = some (sF (sF x5 43 26 1) 43 27 1) from semiB (by omega) hcd d17, obs] at hexp2
      exact ⟨_, hexp2.trans (bad _ _ _ (by omega) hcd fx d17 d18), fx, d17, d18, hcd⟩
end Load9
