/-! THE WAYS of a line, as the model lays them -/
def allC (f : Nat → Bool) (i j : Nat) : Bool := decide (∀ c, c < j → i ≤ c → f c = true)
def gapR (col : Nat → Nat) (r : Nat) : Nat := if r ≠ 0 ∧ col r = col (r - 1) then 1 else 0
def rowW (a z v : Nat) (w : Nat → Nat) : Nat → Nat := fun c => if c < a then 0 else if c < a + z then v else w c
/-- the ways from place a on, of a run of size z and colour v, the cells i .. a being blank; sub: the ways of the rest -/
def wysAt (can : Nat → Nat → Bool) (sub : Nat → List (Nat → Nat)) (z v g i : Nat) : Nat → Nat → List (Nat → Nat)
  | 0, _ => []
  | m + 1, a => (if (g = 0 ∨ i < a) ∧ allC (fun c => can c v) a (a + z) = true then (sub (a + z)).map (rowW a z v) else []) ++ (if can a 0 = true then wysAt can sub z v g i m (a + 1) else [])
/-- the ways of the last k of R runs on the cells i .. n -/
def wys (n R : Nat) (len col : Nat → Nat) (can : Nat → Nat → Bool) : Nat → Nat → List (Nat → Nat)
  | 0, i => if allC (fun c => can c 0) i n = true then [fun _ => 0] else []
  | k + 1, i => wysAt can (wys n R len col can k) (len (R - (k + 1))) (col (R - (k + 1))) (gapR col (R - (k + 1))) i (n + 1 - len (R - (k + 1)) - i) i
/-- what stands around a line in the model -/
def Lc (s : St) (q base W H l n R : Nat) (len col mk : Nat → Nat) : Prop :=
  s.2.2 = some q ∧ arT q = 1 ∧ (q ≠ 58 ∧ q ≠ 59) ∧ base + 144 ≤ arN q ∧ arN q < 2 ^ 31 ∧ s.1 43 32 = nI base ∧ s.1 43 33 = nI l ∧ s.1 43 1 = nI W ∧ s.1 43 2 = nI H ∧ (1 ≤ W ∧ W ≤ 12 ∧ 1 ≤ H ∧ H ≤ 12) ∧ l < W + H ∧ n = lnOf W H l ∧ R ≤ 12 ∧ s.1 44 l = nI R ∧ (∀ k, k < R → (1 ≤ len k ∧ len k ≤ 12) ∧ (1 ≤ col k ∧ col k ≤ 3) ∧ s.1 45 (12 * l + k) = nI (len k) ∧ s.1 46 (12 * l + k) = nI (col k)) ∧ ∀ c, c < n → mk c < 16 ∧ s.1 q (base + (if l < H then 12 * l + c else 12 * c + (l - H))) = nI (mk c)
def LFr (s s' : St) : Prop := (∀ a, a ≠ 58 → a ≠ 59 → s'.1 a = s.1 a) ∧ (∀ a b, ¬ (a = 43 ∧ b = 36) → s'.2.1 a b = s.2.1 a b) ∧ s'.2.2 = s.2.2
theorem LFr.rfl' {s : St} : LFr s s := ⟨fun _ _ _ => rfl, fun _ _ _ => rfl, rfl⟩
theorem LFr.trans {s t u : St} (h : LFr s t) (g : LFr t u) : LFr s u := ⟨fun a h1 h2 => (g.1 a h1 h2).trans (h.1 a h1 h2), fun a b q => (g.2.1 a b q).trans (h.2.1 a b q), g.2.2.trans h.2.2⟩
theorem LFr.s58 {s : St} {j : Nat} {v : Int32} : LFr s (sF s 58 j v) := ⟨fun a h1 _ => sF_ne h1, fun _ _ _ => rfl, rfl⟩
theorem LFr.s59 {s : St} {j : Nat} {v : Int32} : LFr s (sF s 59 j v) := ⟨fun a _ h2 => sF_ne h2, fun _ _ _ => rfl, rfl⟩
theorem Lc.fr {s s' : St} {q base W H l n R : Nat} {len col mk : Nat → Nat} (h : Lc s q base W H l n R len col mk) (g : LFr s s') : Lc s' q base W H l n R len col mk := by
  obtain ⟨g1, g2, g3⟩ := g
  obtain ⟨h1, h2, h3, h4⟩ := h
  unfold Lc
  rw [g3, g1 43 (by decide) (by decide), g1 44 (by decide) (by decide), g1 45 (by decide) (by decide), g1 46 (by decide) (by decide), g1 q h3.1 h3.2]
  exact ⟨h1, h2, h3, h4⟩
section Lay
variable {q base W H l n R : Nat} {len col mk : Nat → Nat}
theorem Lc.le12 {s : St} (h : Lc s q base W H l n R len col mk) : 1 ≤ n ∧ n ≤ 12 := by
  obtain ⟨-, -, -, -, -, -, -, -, -, hb, -, hn, -⟩ := h
  rw [hn]
  unfold lnOf
  split <;> omega
theorem sizeOf9 {s : St} (h : Lc s q base W H l n R len col mk) : f_X9_sizeOf (nI l) s = some (nI n, s) := by
  obtain ⟨-, -, -, -, -, -, -, w1, w2, hb, hl, hn, -⟩ := h
  unfold f_X9_sizeOf
  rw [w1, w2, hn]
  unfold lnOf
  by_cases c : l < H
  · rw [if_neg (nI_ge c (by omega)), if_pos c]
  · rw [if_pos (nI_le (by omega) (by omega)), if_neg c]
theorem cellOf9 {s : St} {c : Nat} (h : Lc s q base W H l n R len col mk) (hc : c < n) : f_X9_cellOf (nI l) (nI c) s = some (nI (if l < H then 12 * l + c else 12 * c + (l - H)), s) := by
  have hn' := h.le12
  obtain ⟨-, -, -, -, -, -, -, w1, w2, hb, hl, hn, -⟩ := h
  unfold f_X9_cellOf
  rw [w2, at12, at12]
  by_cases z : l < H
  · rw [if_neg (nI_ge z (by omega)), if_pos z]
  · rw [if_pos (nI_le (by omega) (by omega)), if_neg z, pk_sub (by omega), show 12 * c + l - H = 12 * c + (l - H) by omega]
theorem bit_and : ∀ z, z < 16 → ∀ v, v < 4 → ((nI z >>> (nI v &&& 31)) &&& 1) = if z.testBit v then 1 else 0 := by decide +kernel
theorem can9 {s : St} {c v : Nat} (h : Lc s q base W H l n R len col mk) (hc : c < n) (hv : v < 4) : f_X9_can (nI c) (nI v) s = some (if (mk c).testBit v then 1 else 0, s) := by
  have hn' := h.le12
  have hco := cellOf9 h hc
  obtain ⟨h1, h2, h3, h4, h5, h6, h7, w1, w2, hb, hl, hn, hR, h8, h9, h10⟩ := h
  obtain ⟨m1, m2⟩ := h10 c hc
  have hi : (if l < H then 12 * l + c else 12 * c + (l - H)) < 144 := by
    rw [hn] at hc
    unfold lnOf at hc
    by_cases z : l < H
    · rw [if_pos z] at hc ⊢
      omega
    · rw [if_neg z] at hc ⊢
      omega
  unfold f_X9_can
  rw [h1, obs, h7, hco, obs, h6, nI_add, aI_nI h2 (by omega) h5, obs, m2, bit_and _ m1 v hv]
  by_cases z : (mk c).testBit v = true
  · rw [if_pos z, if_pos rfl]
  · rw [if_neg z, if_neg (by decide)]
theorem nzb {b : Bool} {t : St} : ((if b then (1 : Int32) else 0, t) : Int32 × St).1 = 0 ↔ b = false := by
  cases b
  · exact ⟨fun _ => rfl, fun _ => rfl⟩
  · exact ⟨fun h => absurd (show (1 : Int32) = 0 from h) (by decide), fun h => by cases h⟩
theorem allC_cons {f : Nat → Bool} {i j : Nat} (h : i < j) : allC f i j = (f i && allC f (i + 1) j) := by
  unfold allC
  by_cases h1 : f i = true
  · rw [h1, Bool.true_and]
    congr 1
    apply propext
    constructor
    · intro q c hc hi
      exact q c hc (by omega)
    · intro q c hc hi
      by_cases e : c = i
      · rw [e]; exact h1
      · exact q c hc (by omega)
  · have : ¬ ∀ c, c < j → i ≤ c → f c = true := fun q => h1 (q i h (Nat.le_refl _))
    rw [decide_eq_false this]
    cases hf : f i
    · rfl
    · exact absurd hf h1
theorem allC_nil {f : Nat → Bool} {i j : Nat} (h : j ≤ i) : allC f i j = true := by
  unfold allC
  exact decide_eq_true (fun c h1 h2 => absurd h1 (by omega))
/-- union of the row of a way that is laid: loop 69 -/
theorem lay69 {L : Int32 → Int32 → St → Option St} (hn : n ≤ 12) (p u : Nat → Nat) (hp : ∀ c, c < n → p c < 4) (hu : ∀ c, c < n → u c < 16) : ∀ (m c fu : Nat) (s : St), n - c = m → c ≤ n → m < fu → (∀ d, d < n → s.1 58 d = nI (p d)) → (∀ d, d < n → s.1 59 d = nI (if d < c then u d ||| 2 ^ p d else u d)) → ∃ s', f_X9_lay_69 L fu (nI n) (nI c) s = some s' ∧ LFr s s' ∧ s'.1 58 = s.1 58 ∧ s'.2 = s.2 ∧ ∀ d, d < n → s'.1 59 d = nI (u d ||| 2 ^ p d) := by
  intro m
  induction m with
  | zero =>
    intro c fu s h1 h2 h3 h4 h5
    obtain ⟨fu, rfl⟩ : ∃ z, fu = z + 1 := ⟨fu - 1, by omega⟩
    obtain rfl : c = n := by omega
    refine ⟨s, ?_, LFr.rfl', rfl, rfl, fun d hd => by rw [h5 d hd, if_pos hd]⟩
    rw [f_X9_lay_69, if_pos (nI_le (Nat.le_refl _) (by omega))]
  | succ m ih =>
    intro c fu s h1 h2 h3 h4 h5
    obtain ⟨fu, rfl⟩ : ∃ z, fu = z + 1 := ⟨fu - 1, by omega⟩
    have hc : c < n := by omega
    rw [f_X9_lay_69, if_neg (nI_ge hc (by omega)), aI_nI rfl (by show c < 12; omega) (by decide), obs, aI_nI rfl (by show c < 12; omega) (by decide), obs, h5 c hc, if_neg (by omega), h4 c hc, oneI _ (by have := hp c hc; omega)]
    have eor : nI (u c) ||| nI (2 ^ p c) = nI (u c ||| 2 ^ p c) := by
      apply Int32.toBitVec_inj.1
      show BitVec.ofNat 32 (u c) ||| BitVec.ofNat 32 (2 ^ p c) = BitVec.ofNat 32 (u c ||| 2 ^ p c)
      apply BitVec.eq_of_getLsbD_eq
      intro i hi
      simp [hi]
    rw [eor, pI_nI rfl (by show c < 12; omega) (by decide), obs, nI_1]
    obtain ⟨s', e1, e2, e3, e4, e5⟩ := ih (c + 1) fu (sF s 59 c (nI (u c ||| 2 ^ p c))) (by omega) (by omega) (by omega) (fun d hd => by rw [sF_ne (by decide)]; exact h4 d hd) (fun d hd => by
      by_cases e : d = c
      · subst e
        rw [sF_at, if_pos (by omega)]
      · rw [sF_nj e, h5 d hd]
        by_cases e2 : d < c
        · rw [if_pos e2, if_pos (by omega)]
        · rw [if_neg e2, if_neg (by omega)])
    exact ⟨s', e1, LFr.s59.trans e2, e3.trans (sF_ne (by decide)), e4, e5⟩
/-- what a call of lay does: ways ws are counted, and their values united; p: the row laid so far (cells below i) -/
def ResU (n : Nat) (s s' : St) (i : Nat) (p u u' : Nat → Nat) (ws : List (Nat → Nat)) : Prop :=
  LFr s s' ∧ (∀ d, d < i → s'.1 58 d = s.1 58 d) ∧ s'.2.1 43 36 = s.2.1 43 36 + lN ws.length ∧ ∀ d, d < n → s'.1 59 d = nI (u' d) ∧ u' d < 16 ∧ ∀ v, v < 4 → (u' d).testBit v = ((u d).testBit v || ws.any (fun w => (if d < i then p d else w d) == v))
theorem lN_zero (x : Int64) : x + lN 0 = x := Int64.add_zero x
theorem ResU.none {s : St} {i : Nat} {p u : Nat → Nat} (h : ∀ d, d < n → s.1 59 d = nI (u d) ∧ u d < 16) : ResU n s s i p u u [] :=
  ⟨LFr.rfl', fun _ _ => rfl, (lN_zero _).symm, fun d hd => ⟨(h d hd).1, (h d hd).2, fun v _ => by simp⟩⟩
theorem ResU.app {s t s' : St} {i : Nat} {p u u1 u' : Nat → Nat} {a b : List (Nat → Nat)} (h : ResU n s t i p u u1 a) (g : ResU n t s' i p u1 u' b) : ResU n s s' i p u u' (a ++ b) := by
  obtain ⟨h1, h2, h3, h4⟩ := h
  obtain ⟨g1, g2, g3, g4⟩ := g
  refine ⟨h1.trans g1, fun d hd => (g2 d hd).trans (h2 d hd), ?_, fun d hd => ⟨(g4 d hd).1, (g4 d hd).2.1, fun v hv => ?_⟩⟩
  · rw [g3, h3, Int64.add_assoc, lN_add, List.length_append]
  · rw [(g4 d hd).2.2 v hv, (h4 d hd).2.2 v hv, List.any_append, Bool.or_assoc]
theorem or_bits {x k : Nat} (hx : x < 16) (hk : k < 4) : (x ||| 2 ^ k) < 16 ∧ ∀ v, (x ||| 2 ^ k).testBit v = (x.testBit v || decide (k = v)) := by
  refine ⟨?_, fun v => by rw [Nat.testBit_or, pow_bit]⟩
  exact Nat.or_lt_two_pow (n := 4) hx (Nat.pow_lt_pow_right (a := 2) (by decide) hk)
theorem lay25 {L : Int32 → Int32 → St → Option St} {i : Nat} {p u : Nat → Nat} (hp : ∀ d, d < i → p d < 4) (hu : ∀ d, d < n → u d < 16) : ∀ (m c fu : Nat) (s : St), Lc s q base W H l n R len col mk → n - c = m → i ≤ c → c ≤ n → m < fu → (∀ d, d < c → s.1 58 d = nI (if d < i then p d else 0)) → (∀ d, d < n → s.1 59 d = nI (u d)) → ∃ s' u', f_X9_lay_25 L fu (nI n) (nI c) s = some s' ∧ ResU n s s' i p u u' (if allC (fun c => (mk c).testBit 0) c n = true then [fun _ => 0] else []) := by
  intro m
  induction m with
  | zero =>
    intro c fu s hL h1 h2 h3 h4 h5 h6
    obtain ⟨fu, rfl⟩ : ∃ z, fu = z + 1 := ⟨fu - 1, by omega⟩
    obtain rfl : c = n := by omega
    have hn := hL.le12
    rw [f_X9_lay_25, if_pos (nI_le (Nat.le_refl _) (by omega)), obs, allC_nil (Nat.le_refl _), if_pos rfl, n0]
    have hp4 : ∀ d, d < c → (if d < i then p d else 0) < 4 := fun d hd => by
      by_cases e : d < i
      · rw [if_pos e]; exact hp d e
      · rw [if_neg e]; omega
    obtain ⟨s', e1, e2, e3, e4, e5⟩ := lay69 (L := L) hn.2 (fun d => if d < i then p d else 0) u hp4 hu c 0 FU (sL s 43 36 (s.2.1 43 36 + 1)) (by omega) (by omega) (by unfold FU; omega) h5 (fun d hd => by rw [if_neg (by omega)]; exact h6 d hd)
    refine ⟨s', fun d => u d ||| 2 ^ (if d < i then p d else 0), e1, ⟨?_, ?_, ?_, ?_⟩⟩
    · refine LFr.trans (t := sL s 43 36 (s.2.1 43 36 + 1)) ⟨fun a _ _ => rfl, fun a b z => ?_, rfl⟩ e2
      rw [sL_get, if_neg z]
    · intro d hd
      rw [e3]
      rfl
    · rw [e4, sL_get, if_pos ⟨rfl, rfl⟩]
      rfl
    · intro d hd
      obtain ⟨o1, o2⟩ := or_bits (hu d hd) (hp4 d hd)
      refine ⟨e5 d hd, o1, fun v hv => ?_⟩
      rw [o2 v]
      simp only [List.any_cons, List.any_nil, Bool.or_false]
      rfl
  | succ m ih =>
    intro c fu s hL h1 h2 h3 h4 h5 h6
    obtain ⟨fu, rfl⟩ : ∃ z, fu = z + 1 := ⟨fu - 1, by omega⟩
    have hn := hL.le12
    have hc : c < n := by omega
    rw [f_X9_lay_25, if_neg (nI_ge hc (by omega)), n0, can9 hL hc (by omega), obs, allC_cons hc]
    by_cases z : (mk c).testBit 0 = true
    · rw [if_neg (fun x => by rw [← n0] at x; have := nzb.mp x; rw [z] at this; cases this), pI_nI rfl (by show c < 12; omega) (by decide), obs, nI_1, z, Bool.true_and]
      obtain ⟨s', u', e1, e2, e3, e4, e5⟩ := ih (c + 1) fu (sF s 58 c (nI 0)) (hL.fr LFr.s58) (by omega) (by omega) (by omega) (by omega) (fun d hd => by
        by_cases e : d = c
        · subst e
          rw [sF_at, if_neg (by omega)]
        · rw [sF_nj e]
          exact h5 d (by omega)) (fun d hd => by rw [sF_ne (by decide)]; exact h6 d hd)
      refine ⟨s', u', e1, LFr.s58.trans e2, fun d hd => by rw [e3 d hd, sF_nj (by omega)], e4, e5⟩
    · have zf : (mk c).testBit 0 = false := by simpa using z
      rw [if_pos (by rw [← n0]; exact nzb.mpr zf), zf, Bool.false_and]
      exact ⟨s, u, rfl, ResU.none (fun d hd => ⟨h6 d hd, hu d hd⟩)⟩
/-- loop 199: can the cells have the colour -/
theorem lay199 {K : Int32 → Int32 → Int32 → Int32 → Int32 → Int32 → Int32 → St → Option St} {L : Int32 → Int32 → St → Option St} {v1 v2 v3 v6 : Int32} {a z v : Nat} {s : St} (hL : Lc s q base W H l n R len col mk) (ha : a + z ≤ n) (hv : v < 4) : ∀ (m c fu : Nat), a + z - c = m → c ≤ a + z → m < fu → f_X9_lay_199 K L fu v1 v2 v3 (nI z) (nI v) v6 (nI a) 1 (nI c) s = f_X9_lay_230 K L v1 v2 v3 (nI z) (nI v) v6 (nI a) (if allC (fun c => (mk c).testBit v) c (a + z) then 1 else 0) s := by
  have hn := hL.le12
  intro m
  induction m with
  | zero =>
    intro c fu h1 h2 h3
    obtain ⟨fu, rfl⟩ : ∃ z, fu = z + 1 := ⟨fu - 1, by omega⟩
    obtain rfl : c = a + z := by omega
    rw [f_X9_lay_199, nI_add, if_pos (nI_le (Nat.le_refl _) (by omega)), allC_nil (Nat.le_refl _), if_pos rfl]
  | succ m ih =>
    intro c fu h1 h2 h3
    obtain ⟨fu, rfl⟩ : ∃ z, fu = z + 1 := ⟨fu - 1, by omega⟩
    rw [f_X9_lay_199, nI_add, if_neg (nI_ge (by omega) (by omega)), if_neg (by decide), can9 hL (by omega) hv, obs, nI_1, allC_cons (by omega)]
    by_cases x : (mk c).testBit v = true
    · rw [x, Bool.true_and, ← ih (c + 1) fu (by omega) (by omega) (by omega)]
      rfl
    · have xf : (mk c).testBit v = false := by simpa using x
      rw [xf, Bool.false_and]
      show f_X9_lay_199 K L fu v1 v2 v3 (nI z) (nI v) v6 (nI a) 0 (nI (c + 1)) s = f_X9_lay_230 K L v1 v2 v3 (nI z) (nI v) v6 (nI a) 0 s
      obtain ⟨fu, rfl⟩ : ∃ z, fu = z + 1 := ⟨fu - 1, by omega⟩
      rw [f_X9_lay_199]
      by_cases y : nI a + nI z ≤ nI (c + 1)
      · rw [if_pos y]
      · rw [if_neg y, if_pos rfl]
/-- loop 239: the cells get the colour -/
theorem lay239 {K : Int32 → Int32 → Int32 → Int32 → Int32 → Int32 → Int32 → St → Option St} {L : Int32 → Int32 → St → Option St} {v1 v2 v3 v6 : Int32} {a z v : Nat} (hn : n ≤ 12) (ha : a + z ≤ n) : ∀ (m c fu : Nat) (s : St), a + z - c = m → a ≤ c → c ≤ a + z → m < fu → (∀ d, a ≤ d → d < c → s.1 58 d = nI v) → ∃ s1, f_X9_lay_239 K L fu v1 v2 v3 (nI z) (nI v) v6 (nI a) (nI c) s = Option.bind (L (v1 + 1) (nI (a + z)) s1) (fun s2 => f_X9_lay_276 K L v1 v2 v3 (nI z) (nI v) v6 (nI a) s2) ∧ LFr s s1 ∧ s1.2 = s.2 ∧ s1.1 59 = s.1 59 ∧ (∀ d, d < a → s1.1 58 d = s.1 58 d) ∧ ∀ d, a ≤ d → d < a + z → s1.1 58 d = nI v := by
  intro m
  induction m with
  | zero =>
    intro c fu s h1 h2 h3 h4 h5
    obtain ⟨fu, rfl⟩ : ∃ z, fu = z + 1 := ⟨fu - 1, by omega⟩
    obtain rfl : c = a + z := by omega
    refine ⟨s, ?_, LFr.rfl', rfl, rfl, fun _ _ => rfl, h5⟩
    rw [f_X9_lay_239, nI_add, if_pos (nI_le (Nat.le_refl _) (by omega))]
  | succ m ih =>
    intro c fu s h1 h2 h3 h4 h5
    obtain ⟨fu, rfl⟩ : ∃ z, fu = z + 1 := ⟨fu - 1, by omega⟩
    rw [f_X9_lay_239, nI_add, if_neg (nI_ge (by omega) (by omega)), pI_nI rfl (by show c < 12; omega) (by decide), obs, nI_1]
    obtain ⟨s1, e1, e2, e3, e4, e5, e6⟩ := ih (c + 1) fu (sF s 58 c (nI v)) (by omega) (by omega) (by omega) (by omega) (fun d hd1 hd2 => by
      by_cases e : d = c
      · subst e; rw [sF_at]
      · rw [sF_nj e]; exact h5 d hd1 (by omega))
    exact ⟨s1, e1, LFr.s58.trans e2, e3, e4.trans (sF_ne (by decide)), fun d hd => by rw [e5 d hd, sF_nj (by omega)], e6⟩
theorem ResU.lift {s s' : St} {i a z v : Nat} {p p' u u' : Nat → Nat} {ws : List (Nat → Nat)} (hia : i ≤ a) (hp : ∀ d, d < a + z → p' d = if d < i then p d else if d < a then 0 else v) (h : ResU n s s' (a + z) p' u u' ws) : ResU n s s' i p u u' (ws.map (rowW a z v)) := by
  obtain ⟨h1, h2, h3, h4⟩ := h
  refine ⟨h1, fun d hd => h2 d (by omega), by rw [List.length_map]; exact h3, fun d hd => ⟨(h4 d hd).1, (h4 d hd).2.1, fun w hw => ?_⟩⟩
  rw [(h4 d hd).2.2 w hw, List.any_map]
  congr 2
  funext f
  show ((if d < a + z then p' d else f d) == w) = ((if d < i then p d else rowW a z v f d) == w)
  congr 1
  unfold rowW
  by_cases c1 : d < i
  · rw [if_pos (by omega), hp d (by omega), if_pos c1, if_pos c1]
  · rw [if_neg c1]
    by_cases c2 : d < a
    · rw [if_pos (by omega), hp d (by omega), if_neg c1, if_pos c2, if_pos c2]
    · rw [if_neg c2]
      by_cases c3 : d < a + z
      · rw [if_pos c3, if_pos c3, hp d c3, if_neg c1, if_neg c2]
      · rw [if_neg c3, if_neg c3]
theorem ResU.pre {s t s' : St} {i : Nat} {p u u' : Nat → Nat} {ws : List (Nat → Nat)} (h : LFr s t) (h1 : ∀ d, d < i → t.1 58 d = s.1 58 d) (h2 : t.2 = s.2) (g : ResU n t s' i p u u' ws) : ResU n s s' i p u u' ws := by
  obtain ⟨g1, g2, g3, g4⟩ := g
  exact ⟨h.trans g1, fun d hd => (g2 d hd).trans (h1 d hd), by rw [g3, h2], g4⟩
/-- loop 168: the places of a run -/
theorem lay168 {L : Int32 → Int32 → St → Option St} {sub : Nat → List (Nat → Nat)} {i z v g : Nat} {r : Int32} {p : Nat → Nat} (hz : 1 ≤ z) (hz12 : z ≤ 12) (hv : v < 4) (hg : g = 0 ∨ g = 1) (hp : ∀ d, d < i → p d < 4)
    (hsub : ∀ (i' : Nat) (s : St) (p' u : Nat → Nat), i' ≤ n → Lc s q base W H l n R len col mk → (∀ d, d < i' → s.1 58 d = nI (p' d) ∧ p' d < 4) → (∀ d, d < n → s.1 59 d = nI (u d) ∧ u d < 16) → ∃ s' u', L (r + 1) (nI i') s = some s' ∧ ResU n s s' i' p' u u' (sub i')) :
    ∀ (m a fu : Nat) (s : St) (u : Nat → Nat), Lc s q base W H l n R len col mk → n + 1 - z - a = m → i ≤ a → a ≤ n → n - a < fu → (∀ d, d < a → s.1 58 d = nI (if d < i then p d else 0)) → (∀ d, d < n → s.1 59 d = nI (u d) ∧ u d < 16) → ∃ s' u', f_X9_lay_168 L fu r (nI i) (nI n) (nI z) (nI v) (nI g) (nI a) s = some s' ∧ ResU n s s' i p u u' (wysAt (fun c w => (mk c).testBit w) sub z v g i m a) := by
  intro m
  induction m with
  | zero =>
    intro a fu s u hL h1 h2 h3 h4 h5 h6
    have hn := hL.le12
    obtain ⟨fu, rfl⟩ : ∃ z, fu = z + 1 := ⟨fu - 1, by omega⟩
    refine ⟨s, u, ?_, ResU.none h6⟩
    rw [f_X9_lay_168, nI_add, if_pos (nI_lt (by omega) (by omega))]
  | succ m ih =>
    intro a fu s u hL h1 h2 h3 h4 h5 h6
    have hn := hL.le12
    obtain ⟨fu, rfl⟩ : ∃ z, fu = z + 1 := ⟨fu - 1, by omega⟩
    have haz : a + z ≤ n := by omega
    -- behind a place: is its first cell blank
    have tail : ∀ (t : St) (u1 : Nat → Nat), Lc t q base W H l n R len col mk → (∀ d, d < a → t.1 58 d = nI (if d < i then p d else 0)) → (∀ d, d < n → t.1 59 d = nI (u1 d) ∧ u1 d < 16) → ∃ s' u', f_X9_lay_276 (f_X9_lay_168 L fu) L r (nI i) (nI n) (nI z) (nI v) (nI g) (nI a) t = some s' ∧ ResU n t s' i p u1 u' (if (mk a).testBit 0 = true then wysAt (fun c w => (mk c).testBit w) sub z v g i m (a + 1) else []) := by
      intro t u1 hT t1 t2
      rw [f_X9_lay_276, n0, can9 hT (by omega) (by omega), obs]
      by_cases x : (mk a).testBit 0 = true
      · rw [if_neg (fun y => by rw [← n0] at y; have := nzb.mp y; rw [x] at this; cases this), pI_nI rfl (by show a < 12; omega) (by decide), obs, nI_1, if_pos x]
        obtain ⟨s', u', e1, e2⟩ := ih (a + 1) fu (sF t 58 a (nI 0)) u1 (hT.fr LFr.s58) (by omega) (by omega) (by omega) (by omega) (fun d hd => by
          by_cases e : d = a
          · subst e
            rw [sF_at, if_neg (by omega)]
          · rw [sF_nj e]
            exact t1 d (by omega)) (fun d hd => by rw [sF_ne (by decide)]; exact t2 d hd)
        exact ⟨s', u', e1, by rw [if_pos x]; exact ResU.pre LFr.s58 (fun d hd => sF_nj (show d ≠ a by omega)) rfl e2⟩
      · have xf : (mk a).testBit 0 = false := by simpa using x
        rw [if_pos (by rw [← n0]; exact nzb.mpr xf)]
        show ∃ s' u', some t = some s' ∧ _
        rw [if_neg x]
        exact ⟨t, u1, rfl, ResU.none t2⟩
    -- no way at this place
    have skip : ¬ ((g = 0 ∨ i < a) ∧ allC (fun c => (mk c).testBit v) a (a + z) = true) → ∃ s' u', f_X9_lay_230 (f_X9_lay_168 L fu) L r (nI i) (nI n) (nI z) (nI v) (nI g) (nI a) 0 s = some s' ∧ ResU n s s' i p u u' (wysAt (fun c w => (mk c).testBit w) sub z v g i (m + 1) a) := by
      intro hno
      rw [f_X9_lay_230, if_pos rfl, wysAt, if_neg hno, List.nil_append]
      exact tail s u hL h5 h6
    rw [f_X9_lay_168, nI_add, if_neg (nI_nlt haz (by omega))]
    -- the test of the cells
    have test : (g = 0 ∨ i < a) → ∃ s' u', f_X9_lay_188 (f_X9_lay_168 L fu) L r (nI i) (nI n) (nI z) (nI v) (nI g) (nI a) s = some s' ∧ ResU n s s' i p u u' (wysAt (fun c w => (mk c).testBit w) sub z v g i (m + 1) a) := by
      intro hgi
      rw [f_X9_lay_188, f_X9_lay_193, lay199 hL haz hv z a FU (by omega) (by omega) (by unfold FU; omega)]
      by_cases x : allC (fun c => (mk c).testBit v) a (a + z) = true
      · rw [if_pos x, f_X9_lay_230, if_neg (by decide)]
        obtain ⟨s1, e1, e2, e3, e4, e5, e6⟩ := lay239 (K := f_X9_lay_168 L fu) (L := L) (v1 := r) (v2 := nI i) (v3 := nI n) (v6 := nI g) (v := v) hn.2 haz z a FU s (by omega) (by omega) (by omega) (by unfold FU; omega) (fun d hd1 hd2 => absurd hd2 (by omega))
        rw [e1]
        have row1 : ∀ d, d < a + z → s1.1 58 d = nI (if d < i then p d else if d < a then 0 else v) ∧ (if d < i then p d else if d < a then 0 else v) < 4 := by
          intro d hd
          by_cases c1 : d < i
          · rw [if_pos c1, e5 d (by omega), h5 d (by omega), if_pos c1]
            exact ⟨rfl, hp d c1⟩
          · rw [if_neg c1]
            by_cases c2 : d < a
            · rw [if_pos c2, e5 d c2, h5 d c2, if_neg c1]
              exact ⟨rfl, by omega⟩
            · rw [if_neg c2, e6 d (by omega) hd]
              exact ⟨rfl, hv⟩
        obtain ⟨s2, u2, f1, f2⟩ := hsub (a + z) s1 (fun d => if d < i then p d else if d < a then 0 else v) u haz (hL.fr e2) row1 (fun d hd => by rw [e4]; exact h6 d hd)
        rw [f1, obs]
        have f3 : ResU n s s2 i p u u2 ((sub (a + z)).map (rowW a z v)) := ResU.pre e2 (fun d hd => e5 d (by omega)) e3 (ResU.lift h2 (fun d hd => rfl) f2)
        obtain ⟨s3, u3, g1, g2⟩ := tail s2 u2 (hL.fr f3.1) (fun d hd => by
          rw [f2.2.1 d (by omega), e5 d hd]
          exact h5 d hd) (fun d hd => ⟨(f3.2.2.2 d hd).1, (f3.2.2.2 d hd).2.1⟩)
        rw [g1]
        refine ⟨s3, u3, rfl, ?_⟩
        rw [wysAt, if_pos ⟨hgi, x⟩]
        exact f3.app g2
      · rw [if_neg x]
        exact skip (fun y => x y.2)
    by_cases c1 : g = 0
    · rw [if_pos (by rw [c1]; rfl)]
      exact test (Or.inl c1)
    · have g1 : g = 1 := by omega
      rw [if_neg (by rw [g1]; decide)]
      by_cases c2 : i < a
      · rw [if_neg (nI_ge c2 (by omega))]
        exact test (Or.inr c2)
      · rw [if_pos (nI_le (by omega) (by omega)), f_X9_lay_193]
        have e0 : f_X9_lay_199 (f_X9_lay_168 L fu) L FU r (nI i) (nI n) (nI z) (nI v) (nI g) (nI a) 0 (nI a) s = f_X9_lay_230 (f_X9_lay_168 L fu) L r (nI i) (nI n) (nI z) (nI v) (nI g) (nI a) 0 s := by
          rw [show FU = 4095 + 1 from rfl, f_X9_lay_199, nI_add, if_neg (nI_ge (by omega) (by omega)), if_pos rfl]
        rw [e0]
        exact skip (fun y => by omega)
/-- LAY: the last k runs on the cells from i on -/
theorem lay9 : ∀ (k i fu : Nat) (s : St) (p u : Nat → Nat), k ≤ R → i ≤ n → k < fu → Lc s q base W H l n R len col mk → (∀ d, d < i → s.1 58 d = nI (p d) ∧ p d < 4) → (∀ d, d < n → s.1 59 d = nI (u d) ∧ u d < 16) → ∃ s' u', f_X9_lay fu (nI (R - k)) (nI i) s = some s' ∧ ResU n s s' i p u u' (wys n R len col (fun c w => (mk c).testBit w) k i) := by
  intro k
  induction k with
  | zero =>
    intro i fu s p u hk hi hf hL hp hu
    have hn := hL.le12
    obtain ⟨fu, rfl⟩ : ∃ z, fu = z + 1 := ⟨fu - 1, by omega⟩
    have hs := sizeOf9 hL
    have hL' := hL
    obtain ⟨h1, h2, h3, h4, h5, h6, h7, w1, w2, hb, hl, hnn, hR, h8, h9, h10⟩ := hL'
    rw [f_X9_lay, h7, hs, obs]
    rw [show ((nI n, s) : Int32 × St).2.1 43 33 = nI l from h7, aI_nI rfl (by show l < 24; omega) (by decide), obs]
    rw [if_pos (show nI (R - 0) = ((nI n, s) : Int32 × St).2.1 44 l from h8.symm)]
    exact lay25 (fun d hd => (hp d hd).2) (fun d hd => (hu d hd).2) (n - i) i FU s hL rfl (Nat.le_refl _) hi (by unfold FU; omega) (fun d hd => by rw [if_pos hd]; exact (hp d hd).1) (fun d hd => (hu d hd).1)
  | succ k ih =>
    intro i fu s p u hk hi hf hL hp hu
    have hn := hL.le12
    obtain ⟨fu, rfl⟩ : ∃ z, fu = z + 1 := ⟨fu - 1, by omega⟩
    have hs := sizeOf9 hL
    have hL' := hL
    obtain ⟨h1, h2, h3, h4, h5, h6, h7, w1, w2, hb, hl, hnn, hR, h8, h9, h10⟩ := hL'
    obtain ⟨r, hr⟩ : ∃ r, R - (k + 1) = r := ⟨_, rfl⟩
    have hrR : r < R := by omega
    obtain ⟨q1, q2, q3, q4⟩ := h9 r hrR
    have hsub : ∀ (i' : Nat) (s : St) (p' u : Nat → Nat), i' ≤ n → Lc s q base W H l n R len col mk → (∀ d, d < i' → s.1 58 d = nI (p' d) ∧ p' d < 4) → (∀ d, d < n → s.1 59 d = nI (u d) ∧ u d < 16) → ∃ s' u', f_X9_lay fu (nI r + 1) (nI i') s = some s' ∧ ResU n s s' i' p' u u' (wys n R len col (fun c w => (mk c).testBit w) k i') := by
      intro i' s p' u hi' hL'' hp' hu'
      rw [nI_1, show r + 1 = R - k by omega]
      exact ih i' fu s p' u (by omega) hi' (by omega) hL'' hp' hu'
    have main : ∀ g, g = 0 ∨ g = 1 → ∃ s' u', f_X9_lay_168 (f_X9_lay fu) FU (nI r) (nI i) (nI n) (nI (len r)) (nI (col r)) (nI g) (nI i) s = some s' ∧ ResU n s s' i p u u' (wysAt (fun c w => (mk c).testBit w) (wys n R len col (fun c w => (mk c).testBit w) k) (len r) (col r) g i (n + 1 - len r - i) i) := fun g hg => lay168 q1.1 q1.2 (by omega) hg (fun d hd => (hp d hd).2) hsub (n + 1 - len r - i) i FU s u hL rfl (Nat.le_refl _) hi (by unfold FU; omega) (fun d hd => by rw [if_pos hd]; exact (hp d hd).1) hu
    rw [hr, f_X9_lay, h7, hs, obs]
    rw [show ((nI n, s) : Int32 × St).2.1 43 33 = nI l from h7, aI_nI rfl (by show l < 24; omega) (by decide), obs]
    rw [if_neg (show ¬ nI r = ((nI n, s) : Int32 × St).2.1 44 l from fun x => by rw [show ((nI n, s) : Int32 × St).2.1 44 l = nI R from h8] at x; have := nI_inj (by omega) (by omega) x; omega)]
    rw [at12, aI_nI rfl (by show _ < 288; omega) (by decide), obs, aI_nI rfl (by show _ < 288; omega) (by decide), obs]
    rw [show ((nI n, s) : Int32 × St).2.1 45 (12 * l + r) = nI (len r) from q3, show ((nI n, s) : Int32 × St).2.1 46 (12 * l + r) = nI (col r) from q4]
    unfold wys
    rw [hr]
    by_cases c0 : r = 0
    · rw [if_pos (by rw [c0]; decide), f_X9_lay_162, f_X9_lay_163]
      have : gapR col r = 0 := by unfold gapR; rw [if_neg (fun x => x.1 c0)]
      rw [this]
      exact main 0 (Or.inl rfl)
    · rw [if_neg (nI_nle (by omega) (by omega)), nI_sub1 (by omega), aI_nI rfl (by show _ < 288; omega) (by decide), obs]
      obtain ⟨-, -, -, q8⟩ := h9 (r - 1) (by omega)
      rw [show ((nI n, s) : Int32 × St).2.1 46 (12 * l + r - 1) = nI (col (r - 1)) by rw [show 12 * l + r - 1 = 12 * l + (r - 1) by omega]; exact q8]
      have q9 := (h9 (r - 1) (by omega)).2.1
      by_cases c1 : col (r - 1) = col r
      · rw [if_pos (congrArg nI c1), f_X9_lay_163]
        have : gapR col r = 1 := by unfold gapR; rw [if_pos ⟨c0, c1.symm⟩]
        rw [this]
        exact main 1 (Or.inr rfl)
      · rw [if_neg (fun x => c1 (nI_inj (by omega) (by omega) x)), f_X9_lay_162, f_X9_lay_163]
        have : gapR col r = 0 := by unfold gapR; rw [if_neg (fun x => c1 x.2.symm)]
        rw [this]
        exact main 0 (Or.inl rfl)
end Lay
