/-! hint -/
def hintC (P : Pz) (g : Gs) (f h : Nat → Int32) (l : Nat) : Nat → Int32
  | 0 => -1
  | k + 1 => if (f (12 * yL P l (P.n l - (k + 1)) + xL P l (P.n l - (k + 1))) = -1 ∧ h (12 * yL P l (P.n l - (k + 1)) + xL P l (P.n l - (k + 1))) = -1) ∧ pop (unN (wy P g l) (P.n l - (k + 1))) = 1 then nI (10000 * l + 1000 * lst (unN (wy P g l) (P.n l - (k + 1))) + (12 * yL P l (P.n l - (k + 1)) + xL P l (P.n l - (k + 1)))) else hintC P g f h l k
def hintA (P : Pz) (g : Gs) (f h : Nat → Int32) : Nat → Int32
  | 0 => -1
  | k + 1 => if (wy P g (P.L - (k + 1))).isEmpty = true then (-2 : Int32) - nI (P.L - (k + 1)) else if hintC P g f h (P.L - (k + 1)) (P.n (P.L - (k + 1))) = -1 then hintA P g f h k else hintC P g f h (P.L - (k + 1)) (P.n (P.L - (k + 1)))
theorem n10000 : (10000 : Int32) = nI 10000 := by decide +kernel
theorem nI1000 : (1000 : Int32) = nI 1000 := by decide +kernel
theorem lst_lt : ∀ z, lst z < 4 := by
  intro z
  unfold lst
  split
  · omega
  · split
    · omega
    · split <;> omega
theorem tellM_ok {f : Nat → Int32} {m : Gs} {W H C : Nat} (hW : W ≤ 12) (hH : H ≤ 12) (hC : C ≤ 3) (hm : setsOK W H C m) (hg : ∀ c, c < 144 → gVal C (f c)) : setsOK W H C (tellM f m) := by
  intro x y hx hy
  unfold tellM
  by_cases e : f (12 * y + x) = -1
  · rw [if_pos e]
    exact hm x y hx hy
  · rw [if_neg e]
    rcases hg (12 * y + x) (by omega) with z | ⟨n, hn, e2⟩
    · exact absurd z e
    · rw [e2, nI_clamp (by omega)]
      exact ⟨Nat.one_le_two_pow, Nat.pow_lt_pow_right (by decide) (by omega)⟩
theorem allV_ok {W H C : Nat} : setsOK W H C (allV C) := by
  intro x y _ _
  have p1 : 1 ≤ 2 ^ C := Nat.one_le_two_pow
  have p2 : 2 ^ (C + 1) = 2 * 2 ^ C := by rw [Nat.pow_succ]; omega
  show 1 ≤ 2 ^ (C + 1) - 1 ∧ 2 ^ (C + 1) - 1 < 2 ^ (C + 1)
  omega
theorem isE_no {ws : List (Nat → Nat)} (h : ∃ w, w ∈ ws) : ¬ ws.isEmpty = true := by
  obtain ⟨w, hw⟩ := h
  cases ws with
  | nil => cases hw
  | cons a b => exact fun e => by cases e
theorem isE_yes {ws : List (Nat → Nat)} (h : ∀ w, ¬ w ∈ ws) : ws.isEmpty = true := by
  cases ws with
  | nil => rfl
  | cons a b => exact absurd (List.mem_cons_self) (h a)
section Hint
variable {P : Pz} {g : Gs} {f h : Nat → Int32}
theorem Cz.cellsOf {s : St} {l : Nat} (hc : Cz s P) (hl : l < P.L) : f_X0_cellsOf 3 (nI l) s = some (nI (P.n l), s) := cellsOf0 hc.size (by have := Pz.L_le hc.1; omega)
theorem Cz.lines {s : St} (hc : Cz s P) : f_X0_lines 3 s = some (nI P.L, s) := clines hc.size
theorem xOf0 {s : St} {l : Nat} (hc : Cz s P) (hl : l < P.L) (p : Nat) : f_X0_xOf 3 (nI l) (nI p) s = some (nI (xL P l p), s) ∧ f_X0_yOf 3 (nI l) (nI p) s = some (nI (yL P l p), s) := by
  obtain ⟨⟨W1, W2⟩, ⟨H1, H2⟩, -⟩ := id hc.1
  unfold Pz.L at hl
  refine ⟨?_, ?_⟩
  · unfold f_X0_xOf xL
    rw [if_neg (fun x => x rfl), hc.2.2.1]
    by_cases c : l < P.H
    · rw [if_neg (nI_ge c (by omega)), if_pos c]
    · rw [if_pos (nI_le (by omega) (by omega)), if_neg c, pk_sub (by omega)]
  · unfold f_X0_yOf yL
    rw [if_neg (fun x => x rfl), hc.2.2.1]
    by_cases c : l < P.H
    · rw [if_neg (nI_ge c (by omega)), if_pos c]
    · rw [if_pos (nI_le (by omega) (by omega)), if_neg c]
theorem hintC_big {l : Nat} (hP : P.ok) (hl : l < P.L) : ∀ k, k ≤ P.n l → hintC P g f h l k = -1 ∨ ∃ n, n < 1000000 ∧ hintC P g f h l k = nI n := by
  have hL := Pz.L_le hP
  intro k
  induction k with
  | zero => intro _; exact Or.inl rfl
  | succ k ih =>
    intro hk
    rw [hintC]
    split
    · have hc := cell_lt hP hl (p := P.n l - (k + 1)) (by omega)
      have := lst_lt (unN (wy P g l) (P.n l - (k + 1)))
      exact Or.inr ⟨_, by omega, rfl⟩
    · exact ih (by omega)
theorem hint3 {l : Nat} {kp : Int64} (hl : l < P.L) (hkp : ∀ i, i < 64 → jb kp i = wbit (unN (wy P g l)) (P.n l) i) : ∀ (k fu : Nat) (s : St), k ≤ P.n l → k < fu → Cz s P → f_X8_hintOf_3 fu (nI l) kp (nI (P.n l - k)) s = some (hintC P g (s.1 13) (s.1 15) l k, s) := by
  intro k
  induction k with
  | zero =>
    intro fu s hk hf hc
    obtain ⟨fu, rfl⟩ : ∃ z, fu = z + 1 := ⟨fu - 1, by omega⟩
    have hL := Pz.L_le hc.1
    have hn := Pz.n_le (l := l) hc.1
    rw [f_X8_hintOf_3, hc.cellsOf hl, obs, if_pos (show nI (P.n l) ≤ nI (P.n l - 0) from nI_le (by omega) (by omega))]
    rfl
  | succ k ih =>
    intro fu s hk hf hc
    obtain ⟨fu, rfl⟩ : ∃ z, fu = z + 1 := ⟨fu - 1, by omega⟩
    have hL := Pz.L_le hc.1
    have hn := Pz.n_le (l := l) hc.1
    have ihn := ih fu s (by omega) (by omega) hc
    have hp : P.n l - (k + 1) < P.n l := by omega
    have hnx : P.n l - (k + 1) + 1 = P.n l - k := by omega
    rw [hintC]
    rw [← hnx] at ihn
    revert hp ihn
    generalize P.n l - (k + 1) = p
    intro ihn hp
    have hcl := cell_lt hc.1 hl hp
    have hz : unN (wy P g l) p < 16 := unN_lt
    have hpl := pop_le _ hz
    have hlt := lst_lt (unN (wy P g l) p)
    rw [f_X8_hintOf_3, hc.cellsOf hl, obs, if_neg (show ¬ nI (P.n l) ≤ nI p from nI_ge hp (by omega))]
    show Option.bind (f_X0_xOf 3 (nI l) (nI p) s) _ = _
    rw [(xOf0 hc hl p).1, obs]
    show Option.bind (f_X0_yOf 3 (nI l) (nI p) s) _ = _
    rw [(xOf0 hc hl p).2, obs]
    show Option.bind (f_X4_valuesIn kp (nI p) s) _ = _
    rw [valuesIn4 (z := unN (wy P g l) p) (by omega) hz (fun v hv => by
      rw [hkp _ (by omega)]
      unfold wbit
      rw [show (12 * v + p) % 12 = p by omega, show (12 * v + p) / 12 = v by omega, decide_eq_true hp, decide_eq_true hv]
      rfl), obs]
    show Option.bind (f_X2_at 12 (nI (xL P l p)) (nI (yL P l p)) s) _ = _
    rw [at2 (g := 12) rfl rfl rfl hcl.2.1 hcl.2.2, obs]
    show (if s.1 13 (12 * yL P l p + xL P l p) = -1 then _ else _) = _
    by_cases c1 : s.1 13 (12 * yL P l p + xL P l p) = -1
    · rw [if_pos c1]
      show Option.bind (f_X2_at 14 (nI (xL P l p)) (nI (yL P l p)) s) _ = _
      rw [at2 (g := 14) rfl rfl rfl hcl.2.1 hcl.2.2, obs]
      show (if s.1 15 (12 * yL P l p + xL P l p) = -1 then _ else _) = _
      by_cases c2 : s.1 15 (12 * yL P l p + xL P l p) = -1
      · rw [if_pos c2, f_X8_hintOf_83, if_neg (show ¬ (1 : Int32) = 0 by decide)]
        show Option.bind (f_J6_bitCount_0f7a4 (nI (unN (wy P g l) p)) s) _ = _
        rw [bitC16 hz, obs]
        by_cases c3 : pop (unN (wy P g l) p) = 1
        · rw [if_pos (by rw [c3]; rfl), if_pos ⟨⟨c1, c2⟩, c3⟩]
          show Option.bind (f_X4_leastOf (nI (unN (wy P g l) p)) s) _ = _
          rw [least4 hz, obs]
          show some (10000 * nI l + 1000 * nI (lst (unN (wy P g l) p)) + 12 * nI (yL P l p) + nI (xL P l p), s) = _
          rw [n10000, nI1000, n12, pk_mul, pk_mul, pk_mul, nI_add, nI_add, nI_add]
          congr 3
          omega
        · rw [if_neg (fun e => c3 (nI_inj (by omega) (by omega) (e.trans n1))), if_neg (fun z => c3 z.2), f_X8_hintOf_124, nI_1]
          exact ihn
      · rw [if_neg c2, if_neg (fun z => c2 z.1.2), f_X8_hintOf_82, f_X8_hintOf_83, if_pos rfl, f_X8_hintOf_124, nI_1]
        exact ihn
    · rw [if_neg c1, if_neg (fun z => c1 z.1.1), f_X8_hintOf_82, f_X8_hintOf_83, if_pos rfl, f_X8_hintOf_124, nI_1]
      exact ihn
theorem hint40 (h16 : ∀ x y, x < P.W → y < P.H → g x y < 16) : ∀ (k fu : Nat) (s : St), k ≤ P.L → k < fu → Cz s P → hasWr (s.2.1 32) P.W P.H g → s.1 13 = f → s.1 15 = h → ∃ s', f_X8_hint_40 fu (nI (P.L - k)) s = some (hintA P g f h k, s') ∧ KFr s s' := by
  intro k
  induction k with
  | zero =>
    intro fu s hk hf hc hw e13 e15
    obtain ⟨fu, rfl⟩ : ∃ z, fu = z + 1 := ⟨fu - 1, by omega⟩
    have hL := Pz.L_le hc.1
    refine ⟨s, ?_, KFr.rfl'⟩
    rw [f_X8_hint_40, hc.lines, obs, if_pos (show nI P.L ≤ nI (P.L - 0) from nI_le (by omega) (by omega))]
    rfl
  | succ k ih =>
    intro fu s hk hf hc hw e13 e15
    obtain ⟨fu, rfl⟩ : ∃ z, fu = z + 1 := ⟨fu - 1, by omega⟩
    have hL := Pz.L_le hc.1
    have hl : P.L - (k + 1) < P.L := by omega
    have hnx : P.L - (k + 1) + 1 = P.L - k := by omega
    rw [hintA]
    revert hl hnx
    generalize P.L - (k + 1) = l
    intro hl hnx
    have hn := Pz.n_le (l := l) hc.1
    obtain ⟨kp, t, e1, e2, e3, e4⟩ := keptN (g := g) hc hl (hw l hl)
    rw [f_X8_hint_40, hc.lines, obs, if_neg (show ¬ nI P.L ≤ nI l from nI_ge hl (by omega))]
    show ∃ s', Option.bind (aJ s 32 (nI l)) _ = _ ∧ _
    rw [aJ_nI rfl (by show l < 24; omega) (by decide), obs]
    show ∃ s', Option.bind (f_X3_keptOf (nI l) (s.2.1 32 l) s) _ = _ ∧ _
    rw [e1, obs]
    by_cases c : ∃ w, w ∈ wy P g l
    · obtain ⟨kn, kb⟩ := e4 c
      rw [if_neg (fun x => kn ((lg0 _).mp x)), if_neg (isE_no c)]
      have h3 := hint3 hl kb (P.n l) FU t (Nat.le_refl _) (by unfold FU; omega) (hc.k e2)
      rw [Nat.sub_self, e2.1 13 (by decide) (by decide), e2.1 15 (by decide) (by decide), e13, e15] at h3
      unfold f_X8_hintOf
      show ∃ s', Option.bind (f_X8_hintOf_3 FU (nI l) kp (nI 0) t) _ = _ ∧ _
      rw [h3, obs]
      by_cases c2 : hintC P g f h l (P.n l) = -1
      · rw [if_pos c2, if_pos c2]
        obtain ⟨s', i1, i2⟩ := ih fu t (by omega) (by omega) (hc.k e2) (by rw [e2.2]; exact hw) (by rw [e2.1 13 (by decide) (by decide)]; exact e13) (by rw [e2.1 15 (by decide) (by decide)]; exact e15)
        refine ⟨s', ?_, e2.trans i2⟩
        show f_X8_hint_40 fu (nI l + 1) t = _
        rw [nI_1, hnx]
        exact i1
      · rw [if_neg c2, if_neg c2]
        exact ⟨t, rfl, e2⟩
    · have k0 := e3 (fun w hw => c ⟨w, hw⟩)
      rw [if_pos ((lg0 _).mpr k0), if_pos (isE_yes (fun w hw => c ⟨w, hw⟩))]
      exact ⟨t, rfl, e2⟩
/-! the model's side -/
theorem hint119 {K16 : Int32 → St → Option (Int32 × St)} {l : Nat} {s : St} (hl : l < P.L) (hm : Mz s P) (hh : hasM s 63 0 P.W P.H (nar P g l)) (e47 : ∀ c, c < 144 → s.1 47 c = f c) (e48 : ∀ c, c < 144 → s.1 48 c = h c) (hg : setsOK P.W P.H P.C g) (hw : ∃ w, w ∈ wy P g l) : ∀ (k fu : Nat), k ≤ P.n l → k < fu → f_X9_hint_119 K16 fu (nI l) (nI (P.n l - k)) s = if hintC P g f h l k = -1 then K16 (nI l + 1) s else some (hintC P g f h l k, s) := by
  have hP := hm.1
  have hL := Pz.L_le hP
  have hn := Pz.n_le (l := l) hP
  have hnar := nar_ok hP hl hP.2.2.1.2 hg hw
  intro k
  induction k with
  | zero =>
    intro fu hk hf
    obtain ⟨fu, rfl⟩ : ∃ z, fu = z + 1 := ⟨fu - 1, by omega⟩
    rw [f_X9_hint_119, hm.sizeOf hl, obs, if_pos (nI_le (by omega) (by omega))]
    rfl
  | succ k ih =>
    intro fu hk hf
    obtain ⟨fu, rfl⟩ : ∃ z, fu = z + 1 := ⟨fu - 1, by omega⟩
    have ihn := ih fu (by omega) (by omega)
    have hp : P.n l - (k + 1) < P.n l := by omega
    have hnx : P.n l - (k + 1) + 1 = P.n l - k := by omega
    have hE : hintC P g f h l (k + 1) = if (f (12 * yL P l (P.n l - (k + 1)) + xL P l (P.n l - (k + 1))) = -1 ∧ h (12 * yL P l (P.n l - (k + 1)) + xL P l (P.n l - (k + 1))) = -1) ∧ pop (unN (wy P g l) (P.n l - (k + 1))) = 1 then nI (10000 * l + 1000 * lst (unN (wy P g l) (P.n l - (k + 1))) + (12 * yL P l (P.n l - (k + 1)) + xL P l (P.n l - (k + 1)))) else hintC P g f h l k := rfl
    rw [← hnx] at ihn
    revert hp ihn hE
    generalize P.n l - (k + 1) = p
    intro ihn hp hE
    have hcl := cell_lt hP hl hp
    have on := xy_on hl hp
    have hz : unN (wy P g l) p < 16 := unN_lt
    have h63 : s.1 63 (12 * yL P l p + xL P l p) = nI (unN (wy P g l) p) := by
      have := hh _ _ on.1.1 on.1.2.1
      rw [nar_in on.1, on.2, Nat.zero_add] at this
      exact this
    have hz1 : 1 ≤ unN (wy P g l) p := by
      have := (hnar _ _ on.1.1 on.1.2.1).1
      rw [nar_in on.1, on.2] at this
      exact this
    have hpl := pop_le _ hz
    have hlt := lst_lt (unN (wy P g l) p)
    have big : ¬ nI (10000 * l + 1000 * lst (unN (wy P g l) p) + (12 * yL P l p + xL P l p)) = -1 := fun e => by
      have := congrArg Int32.toInt e
      rw [nI_toInt (by omega), m1_toInt] at this
      omega
    rw [f_X9_hint_119, hm.sizeOf hl, obs, if_neg (nI_ge hp (by omega))]
    show Option.bind (f_X9_cellOf (nI l) (nI p) s) _ = _
    rw [hm.cellOf hl hp, obs]
    show Option.bind (aI s 47 (nI (12 * yL P l p + xL P l p))) _ = _
    rw [aI_nI rfl (by show _ < 144; omega) (by decide), obs, e47 _ hcl.1]
    by_cases c1 : f (12 * yL P l p + xL P l p) = -1
    · rw [if_pos c1]
      show Option.bind (aI s 48 (nI (12 * yL P l p + xL P l p))) _ = _
      rw [aI_nI rfl (by show _ < 144; omega) (by decide), obs, e48 _ hcl.1]
      by_cases c2 : h (12 * yL P l p + xL P l p) = -1
      · rw [if_pos c2]
        show Option.bind (aI s 63 (nI (12 * yL P l p + xL P l p))) _ = _
        rw [aI_nI rfl (by show _ < 144; omega) (by decide), obs, h63]
        show Option.bind (f_X9_many (nI (unN (wy P g l) p)) s) _ = _
        rw [many9 hz, obs]
        by_cases c3 : pop (unN (wy P g l) p) = 1
        · rw [if_pos (by rw [c3]; rfl), hE.trans (if_pos ⟨⟨c1, c2⟩, c3⟩), if_neg big]
          show Option.bind (aI s 63 (nI (12 * yL P l p + xL P l p))) _ = _
          rw [aI_nI rfl (by show _ < 144; omega) (by decide), obs, h63]
          show Option.bind (f_X9_least (nI (unN (wy P g l) p)) s) _ = _
          rw [least9 hz1 hz, obs]
          show some (10000 * nI l + 1000 * nI (lst (unN (wy P g l) p)) + nI (12 * yL P l p + xL P l p), s) = _
          rw [n10000, nI1000, pk_mul, pk_mul, nI_add, nI_add]
        · rw [if_neg (fun e => c3 (nI_inj (by omega) (by omega) (e.trans n1))), hE.trans (if_neg (fun z => c3 z.2)), f_X9_hint_190, nI_1]
          exact ihn
      · rw [if_neg c2, hE.trans (if_neg (fun z => c2 z.1.2)), f_X9_hint_190, nI_1]
        exact ihn
    · rw [if_neg c1, hE.trans (if_neg (fun z => c1 z.1.1)), f_X9_hint_190, nI_1]
      exact ihn
/-- the sets that givens and marks tell -/
def hM (C : Nat) (f h : Nat → Int32) (c : Nat) : Nat := if f c = -1 then (if h c = -1 then 2 ^ (C + 1) - 1 else 2 ^ (h c).toNatClampNeg) else 2 ^ (f c).toNatClampNeg
theorem hint26 {K16 : Int32 → St → Option (Int32 × St)} {v1 : Int32} (hf : ∀ c, c < 144 → gVal P.C (f c)) (hh : ∀ c, c < 144 → gVal P.C (h c)) : ∀ (k i fu : Nat) (s : St), i + k = 144 → k < fu → Mz s P → (∀ c, c < 144 → s.1 47 c = f c) → (∀ c, c < 144 → s.1 48 c = h c) → ∃ s' fu', f_X9_hint_26 K16 fu v1 (nI i) s = f_X9_hint_26 K16 (fu' + 1) v1 (nI 144) s' ∧ (∀ a, a ≠ 63 → s'.1 a = s.1 a) ∧ s'.2 = s.2 ∧ ∀ c, c < 144 → s'.1 63 c = if i ≤ c then nI (hM P.C f h c) else s.1 63 c := by
  intro k
  induction k with
  | zero =>
    intro i fu s h1 h2 _ _ _
    obtain ⟨fu, rfl⟩ : ∃ z, fu = z + 1 := ⟨fu - 1, by omega⟩
    obtain rfl : i = 144 := by omega
    exact ⟨s, fu, rfl, fun _ _ => rfl, rfl, fun c hc => by rw [if_neg (by omega)]⟩
  | succ k ih =>
    intro i fu s h1 h2 hm e47 e48
    obtain ⟨fu, rfl⟩ : ∃ z, fu = z + 1 := ⟨fu - 1, by omega⟩
    have hC := hm.1.2.2.1.2
    have key : f_X9_hint_26 K16 (fu + 1) v1 (nI i) s = f_X9_hint_26 K16 fu v1 (nI (i + 1)) (sF s 63 i (nI (hM P.C f h i))) := by
      unfold hM
      rw [f_X9_hint_26, if_neg (show ¬ (144 : Int32) ≤ nI i from nI_ge (b := 144) (by omega) (by omega)), aI_nI rfl (by show i < 144; omega) (by decide), obs, e47 i (by omega), aI_nI rfl (by show i < 144; omega) (by decide), obs, e48 i (by omega), obs, obs, hm.2.2.2.1, allI P.C hC]
      by_cases c1 : f i = -1
      · rw [if_pos c1, if_pos c1]
        by_cases c2 : h i = -1
        · rw [if_pos c2, if_pos c2, f_X9_hint_90, pI_nI rfl (by show i < 144; omega) (by decide), obs, nI_1]
        · rw [if_neg c2, if_neg c2]
          rcases hh i (by omega) with z | ⟨n, hn, e⟩
          · exact absurd z c2
          · rw [e, oneI n (by omega), nI_clamp (by omega), f_X9_hint_90, pI_nI rfl (by show i < 144; omega) (by decide), obs, nI_1]
      · rw [if_neg c1, if_neg c1]
        rcases hf i (by omega) with z | ⟨n, hn, e⟩
        · exact absurd z c1
        · rw [e, oneI n (by omega), nI_clamp (by omega), f_X9_hint_90, pI_nI rfl (by show i < 144; omega) (by decide), obs, nI_1]
    obtain ⟨s', fu', e1, e2, e3, e4⟩ := ih (i + 1) fu (sF s 63 i (nI (hM P.C f h i))) (by omega) (by omega) hm (fun c hc => by rw [sF_ne (by decide)]; exact e47 c hc) (fun c hc => by rw [sF_ne (by decide)]; exact e48 c hc)
    refine ⟨s', fu', key.trans e1, fun a ha => by rw [e2 a ha, sF_ne ha], e3, fun c hc => ?_⟩
    rw [e4 c hc]
    by_cases d1 : i + 1 ≤ c
    · rw [if_pos d1, if_pos (by omega)]
    · rw [if_neg d1]
      by_cases d2 : c = i
      · rw [d2, sF_at, if_pos (Nat.le_refl _)]
      · rw [sF_nj d2, if_neg (by omega)]
theorem hint16 (hf : ∀ c, c < 144 → gVal P.C (f c)) (hh : ∀ c, c < 144 → gVal P.C (h c)) (hg : setsOK P.W P.H P.C g) (hgm : ∀ x y, x < P.W → y < P.H → g x y = hM P.C f h (12 * y + x)) : ∀ (k fu : Nat) (s : St), k ≤ P.L → k < fu → Mz s P → (∀ c, c < 144 → s.1 47 c = f c) → (∀ c, c < 144 → s.1 48 c = h c) → ∃ s', f_X9_hint_16 fu (nI (P.L - k)) s = some (hintA P g f h k, s') ∧ eqV s s' := by
  intro k
  induction k with
  | zero =>
    intro fu s hk hfu hm e47 e48
    obtain ⟨fu, rfl⟩ : ∃ z, fu = z + 1 := ⟨fu - 1, by omega⟩
    have hL := Pz.L_le hm.1
    refine ⟨s, ?_, eqV.rfl'⟩
    rw [f_X9_hint_16, hm.lines, obs, if_pos (nI_le (by omega) (by omega))]
    rfl
  | succ k ih =>
    intro fu s hk hfu hm e47 e48
    obtain ⟨fu, rfl⟩ : ∃ z, fu = z + 1 := ⟨fu - 1, by omega⟩
    have hP := hm.1
    have hL := Pz.L_le hP
    obtain ⟨⟨W1, W2⟩, ⟨H1, H2⟩, -⟩ := id hP
    have hl : P.L - (k + 1) < P.L := by omega
    have hnx : P.L - (k + 1) + 1 = P.L - k := by omega
    rw [hintA]
    revert hl hnx
    generalize P.L - (k + 1) = l
    intro hl hnx
    have hn := Pz.n_le (l := l) hP
    obtain ⟨t, fu', a1, a2, a3, a4⟩ := hint26 (K16 := f_X9_hint_16 fu) (v1 := nI l) hf hh 144 0 FU s (by omega) (by unfold FU; omega) hm e47 e48
    have hmt : Mz t P := by
      unfold Mz
      rw [a2 43 (by decide), a2 44 (by decide), a2 45 (by decide), a2 46 (by decide)]
      exact hm
    have ht : hasM t 63 0 P.W P.H g := fun x y hx hy => by rw [Nat.zero_add, a4 _ (by omega), if_pos (Nat.zero_le _), hgm x y hx hy]
    have vt : eqV s t := eqV.of (fun a ha _ => a2 a (by unfold unS at ha; omega)) (fun b _ => by rw [a2 43 (by decide)]) (fun b => by rw [a3])
    obtain ⟨u, b1, b2⟩ := lineRule9 (g := g) hmt q63 hl (ok16 hP hg) ht
    have vu : eqV s u := vt.trans (eqV.of (fun a ha a43 => b1.1 a (by unfold unS at ha; omega) (by unfold unS at ha; omega) (by unfold unS at ha; omega) a43) (fun b hb => b1.2.1 b (by omega) (by omega)) (fun b => b1.2.2.1 30 b (fun z => absurd z.1 (by decide))))
    have hmu := hmt.fr q63 b1
    rw [f_X9_hint_16, hm.lines, obs, if_neg (nI_ge hl (by omega))]
    show ∃ s', f_X9_hint_26 (f_X9_hint_16 fu) FU (nI l) (nI 0) s = _ ∧ _
    rw [a1, f_X9_hint_26, if_pos (by decide)]
    show ∃ s', Option.bind (f_X9_lineRule 63 (nI 0) (nI l) t) _ = _ ∧ _
    rcases b2 with ⟨c1, c2, c3⟩ | ⟨c1, c2, c3⟩
    · rw [c2, obs, if_pos rfl, if_pos (isE_yes c1)]
      exact ⟨u, rfl, vu⟩
    · have hsm : smL (chg P g l) (P.n l) ≤ 1 * P.n l := smL_le (fun j => by rcases chg01 (P := P) (g := g) (l := l) (p := j) with z | z <;> omega) _
      rw [c2, obs, if_neg (nI_m2 (by omega)), if_neg (isE_no c1)]
      have u47 : ∀ c, c < 144 → u.1 47 c = f c := fun c hc => by rw [vu.1 47 c rfl]; exact e47 c hc
      have u48 : ∀ c, c < 144 → u.1 48 c = h c := fun c hc => by rw [vu.1 48 c rfl]; exact e48 c hc
      have h9 := hint119 (K16 := f_X9_hint_16 fu) hl hmu c3 u47 u48 hg c1 (P.n l) FU (Nat.le_refl _) (by unfold FU; omega)
      rw [Nat.sub_self] at h9
      show ∃ s', f_X9_hint_119 (f_X9_hint_16 fu) FU (nI l) (nI 0) u = _ ∧ _
      rw [h9]
      by_cases d : hintC P g f h l (P.n l) = -1
      · rw [if_pos d, if_pos d, nI_1, hnx]
        obtain ⟨s', i1, i2⟩ := ih fu u (by omega) (by omega) hmu u47 u48
        exact ⟨s', i1, vu.trans i2⟩
      · rw [if_neg d, if_neg d]
        exact ⟨u, rfl, vu⟩
end Hint
theorem st_hint {s : St} (hI : Inv s) : Step f_X8_hint f_X9_hint s := by
  obtain ⟨h1, h2, W, H, C, hz, hs, hf, hr⟩ := id hI
  by_cases hW : W = 0
  · subst hW
    refine ⟨-1, s, sF s 43 0 0, ?_, ?_, hI.thrown⟩
    · unfold f_X8_hint
      rw [hasP8 hz, if_pos rfl, obs, if_pos rfl]
    · unfold f_X9_hint
      rw [obs, noPz hz, obs, if_pos rfl]
  obtain ⟨P, rfl, rfl, rfl, hc, hm⟩ := hI.px hz (by omega)
  have hP := hc.1
  obtain ⟨⟨W1, W2⟩, ⟨H1, H2⟩, ⟨C1, C2⟩, -⟩ := id hP
  obtain ⟨hrn, hg13, hg15⟩ := hr W1
  have f13 : ∀ c, c < 144 → gVal P.C (s.1 13 c) := fun c hc => (hg13.1 c hc).2
  have f15 : ∀ c, c < 144 → gVal P.C (s.1 15 c) := fun c hc => (hg15.1 c hc).2
  have ok1 := tellM_ok (H := P.H) W2 H2 C2 (allV_ok (W := P.W) (C := P.C)) f15
  have ok2 := tellM_ok W2 H2 C2 ok1 f13
  obtain ⟨w1, a1, a2⟩ := fill4 (g := 31) hc.size rfl rfl rfl
  obtain ⟨w2, b1, b2⟩ := tell4 (g := 31) (a := 14) (s := sRowL s 32 w1) (m := allV P.C) (hc.sRowL (q := 32) (w := w1)).size rfl rfl rfl rfl rfl rfl f15 (by show hasWr ((sRowL s 32 w1).2.1 32) _ _ _; rw [sRowL_row]; exact a2)
  obtain ⟨w3, d1, d2⟩ := tell4 (g := 31) (a := 12) (s := sRowL (sRowL s 32 w1) 32 w2) (m := tellM (s.1 15) (allV P.C)) ((hc.sRowL (q := 32) (w := w1)).sRowL (q := 32) (w := w2)).size rfl rfl rfl rfl rfl rfl f13 (by show hasWr ((sRowL (sRowL s 32 w1) 32 w2).2.1 32) _ _ _; rw [sRowL_row]; exact b2)
  have hL := Pz.L_le hP
  obtain ⟨s1, e1, e2⟩ := hint40 (f := s.1 13) (h := s.1 15) (ok16 hP ok2) P.L FU (sRowL (sRowL (sRowL s 32 w1) 32 w2) 32 w3) (Nat.le_refl _) (by unfold FU; omega) hc (by rw [sRowL_row]; exact d2) rfl rfl
  have v1 : eqV s s1 := by
    refine eqV.of (fun a ha _ => ?_) (fun b _ => ?_) (fun b => ?_)
    · unfold unS at ha
      rw [e2.1 a (by omega) (by omega)]
      rfl
    · rw [e2.1 43 (by decide) (by decide)]
      rfl
    · rw [e2.2, sRowL_ne (by decide), sRowL_ne (by decide), sRowL_ne (by decide)]
  have m1 : Mz (sF s1 43 0 0) P := by
    have : Mz s1 P := hm.hi (fun a ha => by rw [e2.1 a (by omega) (by omega)]; rfl)
    exact this
  obtain ⟨s2, g1, g2⟩ := hint16 (P := P) (f := s.1 13) (h := s.1 15) f13 f15 ok2 (fun x y hx hy => rfl) P.L FU (sF s1 43 0 0) (Nat.le_refl _) (by unfold FU; omega) m1 (fun c hc => by rw [sF_ne (by decide), v1.1 47 c rfl]; exact (hg13.1 c hc).1.symm) (fun c hc => by rw [sF_ne (by decide), v1.1 48 c rfl]; exact (hg15.1 c hc).1.symm)
  refine ⟨hintA P (tellM (s.1 13) (tellM (s.1 15) (allV P.C))) (s.1 13) (s.1 15) P.L, s1, s2, ?_, ?_, hI.eqV (v1.trans ((eqV.rfl'.sF rfl).trans g2))⟩
  · unfold f_X8_hint
    rw [hasP8 hz, if_neg hW, obs, if_neg nz]
    show Option.bind (f_X4_fill 31 s) _ = _
    rw [a1, obs]
    show Option.bind (f_X4_tell 31 14 (sRowL s 32 w1)) _ = _
    rw [b1, obs]
    show Option.bind (f_X4_tell 31 12 (sRowL (sRowL s 32 w1) 32 w2)) _ = _
    rw [d1, obs]
    rw [Nat.sub_self] at e1
    exact e1
  · unfold f_X9_hint
    rw [obs, m1.is, obs, if_neg nz]
    rw [Nat.sub_self] at g1
    exact g1
