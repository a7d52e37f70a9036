/-! the whole text, as a function; the class reads it -/
def cs (q : LnR) (x : Nat) : Nat → Nat
  | 0 => 0
  | k + 1 => cs q x k + (if q.2.2 k = x then q.2.1 k else 0)
def ctd (R : Nat → LnR) (x : Nat) : Nat → Nat → Nat
  | 0, _ => 0
  | m + 1, l => cs (R l) x (R l).1 + ctd R x m (l + 1)
def balF (R : Nat → LnR) (W H : Nat) : Nat → Nat → Bool
  | 0, _ => true
  | m + 1, x => if ctd R x H 0 = ctd R x W H then balF R W H m (x + 1) else false
def z1 : Nat → Nat := fun _ => 0
def pAll (K S V : Nat → Nat) (W H C : Nat) : Nat → Nat → (Nat → LnR) → Nat × Nat × (Nat → LnR)
  | 0, c, R => if K c = 3 then (if balF R W H C 1 = true then (0, 0, R) else (7, S c, R)) else (2, S c, R)
  | k + 1, c, R => if (pL K S V C (lnOf W H (W + H - (k + 1))) 13 c 0 z1 z1).1 = 0 then pAll K S V W H C k (pL K S V C (lnOf W H (W + H - (k + 1))) 13 c 0 z1 z1).2.2.1 (fun j => if j = W + H - (k + 1) then (pL K S V C (lnOf W H (W + H - (k + 1))) 13 c 0 z1 z1).2.2.2 else R j) else ((pL K S V C (lnOf W H (W + H - (k + 1))) 13 c 0 z1 z1).1, (pL K S V C (lnOf W H (W + H - (k + 1))) 13 c 0 z1 z1).2.1, R)
def szF (K S V : Nat → Nat) (k mx : Nat) : Nat × Nat := if K k = 0 then (if 1 ≤ V k ∧ V k ≤ mx then (0, 0) else (3, S k)) else (2, S k)
def R0 : Nat → LnR := fun _ => (0, z1, z1)
def pT (K S V : Nat → Nat) : Nat × Nat × (Nat → LnR) := if (szF K S V 0 12).1 = 0 then (if (szF K S V 1 12).1 = 0 then (if (szF K S V 2 3).1 = 0 then (if K 3 = 2 then pAll K S V (V 0) (V 1) (V 2) (V 0 + V 1) 4 R0 else (2, S 3, R0)) else ((szF K S V 2 3).1, (szF K S V 2 3).2, R0)) else ((szF K S V 1 12).1, (szF K S V 1 12).2, R0)) else ((szF K S V 0 12).1, (szF K S V 0 12).2, R0)
theorem szF_0 {K S V : Nat → Nat} {k mx : Nat} (h : (szF K S V k mx).1 = 0) : K k = 0 ∧ 1 ≤ V k ∧ V k ≤ mx := by
  unfold szF at h
  by_cases c : K k = 0
  · rw [if_pos c] at h
    by_cases d : 1 ≤ V k ∧ V k ≤ mx
    · exact ⟨c, d⟩
    · rw [if_neg d] at h
      exact absurd (show (3 : Nat) = 0 from h) (by decide)
  · rw [if_neg c] at h
    exact absurd (show (2 : Nat) = 0 from h) (by decide)
/-- lines below n are good -/
def rGood (W H C n : Nat) (R : Nat → LnR) : Prop := ∀ j, j < n → lOK C (R j).1 (R j).2.1 (R j).2.2 ∧ need (R j).2.1 (R j).2.2 (R j).1 ≤ lnOf W H j
theorem cs_le {q : LnR} {x C : Nat} (h : lOK C q.1 q.2.1 q.2.2) : ∀ k, k ≤ q.1 → cs q x k ≤ 99 * k := by
  intro k
  induction k with
  | zero => intro _; exact Nat.le_refl _
  | succ k ih =>
    intro hk
    have a := ih (by omega)
    have c := (h.2 k (by omega)).1.2
    rw [cs]
    split <;> omega
theorem ctd_le {R : Nat → LnR} {x W H C n : Nat} (h : rGood W H C n R) : ∀ m l, l + m ≤ n → ctd R x m l ≤ 1188 * m := by
  intro m
  induction m with
  | zero => intro l _; exact Nat.le_refl _
  | succ m ih =>
    intro l hl
    have a := ih (l + 1) (by omega)
    have hq := (h l (by omega)).1
    have c := cs_le (x := x) hq (R l).1 (Nat.le_refl _)
    have := hq.1
    rw [ctd]
    omega
section ReadC
variable {b : Nat → Nat} {N W H C : Nat}
/-- the draft holds the lines below n -/
def drR (R : Nat → LnR) (n : Nat) (s : St) : Prop := (∀ l, l < n → s.1 8 l = nI (R l).1 ∧ ∀ k, k < (R l).1 → s.1 9 (12 * l + k) = nI ((R l).2.1 k) ∧ s.1 10 (12 * l + k) = nI ((R l).2.2 k)) ∧ s.1 7 6 = nI (smL (fun j => (R j).1) n) ∧ ∀ j, n ≤ j → j < 24 → s.1 8 j = 0
theorem told15 {K6 : Int32 → Int32 → Int32 → Int32 → St → Option (Int32 × St)} {s : St} {R : Nat → LnR} {n l a hi x : Nat} (hd : drR R n s) (hg : rGood W H C n R) (hl : l < n) (hn : n ≤ 24) (hC : C ≤ 3) (hx : x ≤ 3) : ∀ (m k fu : Nat), k + m = (R l).1 → m < fu → f_X0_cellsTold_15 7 K6 fu (nI hi) (nI x) (nI (a + cs (R l) x k)) (nI l) (nI k) s = K6 (nI hi) (nI x) (nI (a + cs (R l) x (R l).1)) (nI (l + 1)) s := by
  obtain ⟨h8, hk⟩ := hd.1 l hl
  have ho := (hg l hl).1
  have ho12 := ho.1
  intro m
  induction m with
  | zero =>
    intro k fu h1 h2
    obtain ⟨fu, rfl⟩ : ∃ z, fu = z + 1 := ⟨fu - 1, by omega⟩
    obtain rfl : k = (R l).1 := by omega
    rw [f_X0_cellsTold_15]
    show Option.bind (aI s 8 (nI l)) _ = _
    rw [aI_nI rfl (by show l < 24; omega) (by decide), obs, h8, if_pos (nI_le (Nat.le_refl _) (by omega)), nI_1]
  | succ m ih =>
    intro k fu h1 h2
    obtain ⟨fu, rfl⟩ : ∃ z, fu = z + 1 := ⟨fu - 1, by omega⟩
    have hkr : k < (R l).1 := by omega
    have hb := ho.2 k hkr
    have ihn := ih (k + 1) fu (by omega) (by omega)
    rw [cs] at ihn
    rw [f_X0_cellsTold_15]
    show Option.bind (aI s 8 (nI l)) _ = _
    rw [aI_nI rfl (by show l < 24; omega) (by decide), obs, h8, if_neg (nI_ge hkr (by omega)), colOf (g := 7) rfl rfl rfl (by omega), obs]
    show (if s.1 10 (12 * l + k) = nI x then Option.bind (f_X0_lengthOf 7 (nI l) (nI k) s) _ else _) = _
    rw [(hk k hkr).2, lenOf (g := 7) rfl rfl rfl (by omega), obs]
    by_cases c : (R l).2.2 k = x
    · rw [if_pos (by rw [c]), f_X0_cellsTold_53]
      show f_X0_cellsTold_15 7 K6 fu (nI hi) (nI x) (nI (a + cs (R l) x k) + s.1 9 (12 * l + k)) (nI l) (nI k + 1) s = _
      rw [(hk k hkr).1, nI_add, nI_1]
      rw [if_pos c, ← Nat.add_assoc] at ihn
      exact ihn
    · rw [if_neg (fun e => c (nI_inj (by omega) (by omega) e)), f_X0_cellsTold_53]
      show f_X0_cellsTold_15 7 K6 fu (nI hi) (nI x) (nI (a + cs (R l) x k) + 0) (nI l) (nI k + 1) s = _
      rw [Int32.add_zero, nI_1]
      rw [if_neg c, Nat.add_zero] at ihn
      exact ihn
theorem told6 {s : St} {R : Nat → LnR} {n x : Nat} (hd : drR R n s) (hg : rGood W H C n R) (hn : n ≤ 24) (hC : C ≤ 3) (hx : x ≤ 3) : ∀ (m l a fu : Nat), l + m ≤ n → m < fu → f_X0_cellsTold_6 7 fu (nI (l + m)) (nI x) (nI a) (nI l) s = some (nI (a + ctd R x m l), s) := by
  intro m
  induction m with
  | zero =>
    intro l a fu h1 h2
    obtain ⟨fu, rfl⟩ : ∃ z, fu = z + 1 := ⟨fu - 1, by omega⟩
    rw [f_X0_cellsTold_6, if_pos (nI_le (by omega) (by omega))]
    rfl
  | succ m ih =>
    intro l a fu h1 h2
    obtain ⟨fu, rfl⟩ : ∃ z, fu = z + 1 := ⟨fu - 1, by omega⟩
    have ho12 := (hg l (by omega)).1.1
    rw [f_X0_cellsTold_6, if_neg (nI_ge (by omega) (by omega))]
    show f_X0_cellsTold_15 7 (f_X0_cellsTold_6 7 fu) FU (nI (l + (m + 1))) (nI x) (nI (a + cs (R l) x 0)) (nI l) (nI 0) s = _
    rw [told15 hd hg (by omega) hn hC hx (R l).1 0 FU (by omega) (by unfold FU; omega), show l + (m + 1) = l + 1 + m by omega, ih (l + 1) _ fu (by omega) (by omega), ctd, Nat.add_assoc]
theorem bal2 {s : St} {R : Nat → LnR} (hz : dSz s W H C) (hd : drR R (W + H) s) (hg : rGood W H C (W + H) R) (hW : W ≤ 12) (hH : H ≤ 12) (hC : C ≤ 3) : ∀ (m x fu : Nat), x + m = C + 1 → 1 ≤ x → m < fu → f_X0_isBalanced_2 7 fu (nI x) s = some (if balF R W H m x = true then 1 else 0, s) := by
  have lines : f_X0_lines 7 s = some (nI (W + H), s) := by
    unfold f_X0_lines
    rw [if_neg (fun x => x rfl), hz.1, hz.2.1, nI_add]
  intro m
  induction m with
  | zero =>
    intro x fu h1 hx h2
    obtain ⟨fu, rfl⟩ : ∃ z, fu = z + 1 := ⟨fu - 1, by omega⟩
    rw [f_X0_isBalanced_2, hz.2.2, if_pos (nI_lt (by omega) (by omega))]
    rfl
  | succ m ih =>
    intro x fu h1 hx h2
    obtain ⟨fu, rfl⟩ : ∃ z, fu = z + 1 := ⟨fu - 1, by omega⟩
    have a1 := told6 (x := x) hd hg (by omega) hC (by omega) H 0 0 FU (by omega) (by unfold FU; omega)
    have a2 := told6 (x := x) hd hg (by omega) hC (by omega) W H 0 FU (by omega) (by unfold FU; omega)
    rw [Nat.zero_add, Nat.zero_add] at a1
    rw [Nat.zero_add, Nat.add_comm H W] at a2
    have l1 := ctd_le (x := x) hg H 0 (by omega)
    have l2 := ctd_le (x := x) hg W H (by omega)
    rw [f_X0_isBalanced_2, hz.2.2, if_neg (nI_nlt (by omega) (by omega)), hz.2.1]
    unfold f_X0_cellsTold
    rw [if_neg (fun x => x rfl)]
    show Option.bind (f_X0_cellsTold_6 7 FU (nI H) (nI x) (nI 0) (nI 0) s) _ = _
    rw [a1, obs]
    show Option.bind (f_X0_lines 7 s) _ = _
    rw [lines, obs]
    show Option.bind (if ¬ clO 7 = 0 then none else f_X0_cellsTold_6 7 FU (nI (W + H)) (nI x) (nI 0) (s.1 7 4) s) _ = _
    rw [if_neg (fun x => x rfl), hz.2.1, a2, obs, balF, nI_1]
    by_cases c : ctd R x H 0 = ctd R x W H
    · rw [if_pos (show nI (ctd R x H 0) = nI (ctd R x W H) by rw [c]), if_pos c]
      exact ih (x + 1) fu (by omega) (by omega) (by omega)
    · rw [if_neg (show ¬ nI (ctd R x H 0) = nI (ctd R x W H) from fun e => c (nI_inj (by omega) (by omega) e)), if_neg c]
      rfl
theorem ra39 (hcl : cln b N) (hW : 1 ≤ W ∧ W ≤ 12) (hH : 1 ≤ H ∧ H ≤ 12) (hC : 1 ≤ C ∧ C ≤ 3) : ∀ (k fu c : Nat) (R : Nat → LnR) (s : St), k ≤ W + H → k < fu → Tx s b N → dSz s W H C → drR R (W + H - k) s → rGood W H C (W + H - k) R → cAt s b N c → ((pAll (tK b N) (tS b N) (tV b N) W H C k c R).1 = 0 → ∃ s', f_X7_readsAll_39 fu (nI (W + H - k)) s = some (1, s') ∧ GFr s s' ∧ drR (pAll (tK b N) (tS b N) (tV b N) W H C k c R).2.2 (W + H) s' ∧ rGood W H C (W + H) (pAll (tK b N) (tS b N) (tV b N) W H C k c R).2.2 ∧ (∀ j, j < 4 → s'.1 11 j = s.1 11 j)) ∧ ((pAll (tK b N) (tS b N) (tV b N) W H C k c R).1 ≠ 0 → ∃ s', f_X7_readsAll_39 fu (nI (W + H - k)) s = some (0, s') ∧ GFr s s' ∧ s'.1 11 2 = nI (pAll (tK b N) (tS b N) (tV b N) W H C k c R).1 ∧ s'.1 11 3 = nI (pAll (tK b N) (tS b N) (tV b N) W H C k c R).2.1) := by
  have lines : ∀ s : St, dSz s W H C → f_X0_lines 7 s = some (nI (W + H), s) := by
    intro s hz
    unfold f_X0_lines
    rw [if_neg (fun x => x rfl), hz.1, hz.2.1, nI_add]
  intro k
  induction k with
  | zero =>
    intro fu c R s hk hf hT hz hd hg hc
    obtain ⟨fu, rfl⟩ : ∃ z, fu = z + 1 := ⟨fu - 1, by omega⟩
    obtain ⟨c4, c5, c6, c7⟩ := id hc
    have k3 := (tok_ok (b := b) (N := N) c).1
    rw [Nat.sub_zero] at hd hg ⊢
    have hb := bal2 hz hd hg hW.2 hH.2 hC.2 C 1 FU (by omega) (by omega) (by unfold FU; omega)
    have hexp : f_X7_readsAll_39 (fu + 1) (nI (W + H)) s = if nI (kC (tK b N c)) = 0 then (if balF R W H C 1 = true then some (1, s) else some (0, sF (sF s 11 2 7) 11 3 (nI (tS b N c)))) else some (0, sF (sF s 11 2 2) 11 3 (nI (tS b N c))) := by
      rw [f_X7_readsAll_39, lines s hz, obs, if_pos (nI_le (Nat.le_refl _) (by omega))]
      show (if s.1 11 4 = 0 then Option.bind (f_X0_isBalanced 7 s) _ else Option.bind (f_X7_refuse 2 s) _) = _
      have hb' : f_X0_isBalanced 7 s = some (if balF R W H C 1 = true then 1 else 0, s) := by
        unfold f_X0_isBalanced
        rw [if_neg (fun x => x rfl)]
        exact hb
      rw [c4, refuse7 c5, obs, hb', obs]
      show (if nI (kC (tK b N c)) = 0 then _ else (if (0 : Int32) = 0 ∨ (0 : Int32) = 1 then some ((0 : Int32), sF (sF s 11 2 2) 11 3 (nI (tS b N c))) else none)) = _
      rw [if_pos (show (0 : Int32) = 0 ∨ (0 : Int32) = 1 from Or.inl rfl)]
      by_cases d : balF R W H C 1 = true
      · rw [if_pos d, if_pos d, if_neg nz]
      · rw [if_neg d, if_neg d, if_pos rfl]
        show (if nI (kC (tK b N c)) = 0 then Option.bind (f_X7_refuse 7 s) _ else _) = _
        rw [refuse7 c5, obs, if_pos rfl]
    rw [hexp, pAll]
    by_cases e : tK b N c = 3
    · rw [if_pos e, if_pos ((kC_0 _ k3).mpr e)]
      by_cases d : balF R W H C 1 = true
      · rw [if_pos d, if_pos d]
        exact ⟨fun _ => ⟨s, rfl, GFr.rfl', hd, hg, fun _ _ => rfl⟩, fun z => absurd rfl z⟩
      · rw [if_neg d, if_neg d]
        exact ⟨fun z => absurd (show (7 : Nat) = 0 from z) (by decide), fun _ => ⟨_, rfl, GFr.s11.trans GFr.s11, by rw [sF_nj (by decide), sF_at]; rfl, sF_at⟩⟩
    · rw [if_neg e, if_neg (fun z => e ((kC_0 _ k3).mp z))]
      exact ⟨fun z => absurd (show (2 : Nat) = 0 from z) (by decide), fun _ => ⟨_, rfl, GFr.s11.trans GFr.s11, by rw [sF_nj (by decide), sF_at]; rfl, sF_at⟩⟩
  | succ k ih =>
    intro fu c R s hk hf hT hz hd hg hc
    obtain ⟨fu, rfl⟩ : ∃ z, fu = z + 1 := ⟨fu - 1, by omega⟩
    have hl : W + H - (k + 1) < W + H := by omega
    have hnx : W + H - (k + 1) + 1 = W + H - k := by omega
    rw [pAll]
    revert hl hnx hd hg
    generalize W + H - (k + 1) = l
    intro hd hg hl hnx
    obtain ⟨d1, d2, d3⟩ := id hd
    have hexp : f_X7_readsAll_39 (fu + 1) (nI l) s = Option.bind (f_X7_readsLine_2 FU (nI l) (nI 0) s) fun r9 => if r9.1 = 0 then some (0, r9.2) else f_X7_readsAll_39 fu (nI (l + 1)) r9.2 := by
      rw [f_X7_readsAll_39, lines s hz, obs, if_neg (nI_ge hl (by omega)), nI_1]
      rfl
    obtain ⟨y1, y2⟩ := rl2 (T := smL (fun j => (R j).1) l) hcl hl hW.2 hH.2 hC 13 FU c 0 z1 z1 s (by omega) (by omega) (by unfold FU; omega) hT hz ⟨d3 l (Nat.le_refl _) (by omega), d2, fun k hk => absurd hk (Nat.not_lt_zero _)⟩ ⟨Nat.zero_le _, fun k hk => absurd hk (Nat.not_lt_zero _)⟩ hc
    rw [hexp]
    revert y1 y2
    generalize pL (tK b N) (tS b N) (tV b N) C (lnOf W H l) 13 c 0 z1 z1 = q
    intro y1 y2
    by_cases e : q.1 = 0
    · rw [if_pos e]
      obtain ⟨t, g1, g2, g3, g4, ⟨g5, g6, g7⟩, g8, g9, g10⟩ := y1 e
      rw [g1, obs, if_neg nz]
      have hdt : drR (fun j => if j = l then q.2.2.2 else R j) (W + H - k) t := by
        rw [← hnx]
        refine ⟨fun j hj => ?_, ?_, fun j j1 j2 => ?_⟩
        · show t.1 8 j = nI (if j = l then q.2.2.2 else R j).1 ∧ ∀ k, k < (if j = l then q.2.2.2 else R j).1 → t.1 9 (12 * j + k) = nI ((if j = l then q.2.2.2 else R j).2.1 k) ∧ t.1 10 (12 * j + k) = nI ((if j = l then q.2.2.2 else R j).2.2 k)
          by_cases ej : j = l
          · rw [if_pos ej, ej]
            exact ⟨g5, g7⟩
          · rw [if_neg ej, g3.1 j ej]
            refine ⟨(d1 j (by omega)).1, fun i hi => ?_⟩
            have h12 := (hg j (by omega)).1.1
            rw [(g3.2 (12 * j + i) (by omega)).1, (g3.2 (12 * j + i) (by omega)).2]
            exact (d1 j (by omega)).2 i hi
        · rw [g6, smL]
          show nI (smL (fun j => (R j).1) l + q.2.2.2.1) = nI (smL (fun j => (if j = l then q.2.2.2 else R j).1) l + (if l = l then q.2.2.2 else R l).1)
          rw [if_pos rfl, smL_congr (f := fun j => (if j = l then q.2.2.2 else R j).1) (g := fun j => (R j).1) l (fun j hj => by show (if j = l then q.2.2.2 else R j).1 = _; rw [if_neg (by omega)])]
        · rw [g3.1 j (by omega)]
          exact d3 j (by omega) j2
      have hgt : rGood W H C (W + H - k) (fun j => if j = l then q.2.2.2 else R j) := by
        rw [← hnx]
        intro j hj
        show lOK C (if j = l then q.2.2.2 else R j).1 (if j = l then q.2.2.2 else R j).2.1 (if j = l then q.2.2.2 else R j).2.2 ∧ need (if j = l then q.2.2.2 else R j).2.1 (if j = l then q.2.2.2 else R j).2.2 (if j = l then q.2.2.2 else R j).1 ≤ lnOf W H j
        by_cases ej : j = l
        · rw [if_pos ej, ej]
          exact ⟨g8, g9⟩
        · rw [if_neg ej]
          exact hg j (by omega)
      obtain ⟨i1, i2⟩ := ih fu q.2.2.1 _ t (by omega) (by omega) (hT.g g2) (hz.g g2) hdt hgt g4
      rw [← hnx] at i1 i2
      refine ⟨fun z => ?_, fun z => ?_⟩
      · obtain ⟨s', w1, w2, w3, w4, w5⟩ := i1 z
        refine ⟨s', w1, g2.trans w2, w3, w4, fun j hj => ?_⟩
        rw [w5 j hj, g10 j hj]
      · obtain ⟨s', w1, w2, w3⟩ := i2 z
        exact ⟨s', w1, g2.trans w2, w3⟩
    · rw [if_neg e]
      obtain ⟨t, g1, g2, g3, g4⟩ := y2 e
      rw [g1, obs, if_pos rfl]
      exact ⟨fun z => absurd z e, fun _ => ⟨t, rfl, g2, g3, g4⟩⟩
end ReadC
