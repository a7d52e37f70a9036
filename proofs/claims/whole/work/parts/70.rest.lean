/-! to rest: rounds of the LINE RULE over all lines -/
def swp (P : Pz) : Nat → Gs → Nat → Bool × Nat × Gs
  | 0, g, c => (true, c, g)
  | k + 1, g, c => if (wy P g (P.L - (k + 1))).isEmpty then (false, c, g) else swp P k (nar P g (P.L - (k + 1))) (c + smL (chg P g (P.L - (k + 1))) (P.n (P.L - (k + 1))))
def rstF (P : Pz) : Nat → Nat → Gs → Bool × Nat × Gs
  | 0, r, g => (true, r, g)
  | f + 1, r, g => if (swp P P.L g 0).1 then (if (swp P P.L g 0).2.1 = 0 then (true, r, (swp P P.L g 0).2.2) else rstF P f (r + 1) (swp P P.L g 0).2.2) else (false, r, (swp P P.L g 0).2.2)
def subG (P : Pz) (g' g : Gs) : Prop := ∀ x y, x < P.W → y < P.H → ∀ v, v < 4 → (g' x y).testBit v = true → (g x y).testBit v = true
def szG (P : Pz) (g : Gs) : Nat := smC (fun x y => pop (g x y)) P.W P.H
theorem pop_sub : ∀ a, a < 16 → ∀ b, b < 16 → (∀ v, v < 4 → a.testBit v = true → b.testBit v = true) → pop a ≤ pop b ∧ (a ≠ b → pop a < pop b) := by decide +kernel
theorem pop_1 : ∀ a, a < 16 → 1 ≤ a → 1 ≤ pop a := by decide +kernel
theorem smL_mono {f g : Nat → Nat} : ∀ n, (∀ j, j < n → f j ≤ g j) → smL f n ≤ smL g n := by
  intro n
  induction n with
  | zero => intro _; exact Nat.le_refl _
  | succ n ih =>
    intro h
    have a := ih (fun j hj => h j (by omega))
    have b := h n (by omega)
    rw [smL, smL]
    omega
theorem smL_lt {f g : Nat → Nat} {i : Nat} (hi : f i < g i) : ∀ n, i < n → (∀ j, j < n → f j ≤ g j) → smL f n < smL g n := by
  intro n
  induction n with
  | zero => intro h; omega
  | succ n ih =>
    intro h hm
    rw [smL, smL]
    have b := hm n (by omega)
    by_cases e : i = n
    · subst e
      have a := smL_mono (f := f) (g := g) i (fun j hj => hm j (by omega))
      omega
    · have a := ih (by omega) (fun j hj => hm j (by omega))
      omega
theorem smC_mono {f g : Nat → Nat → Nat} {W : Nat} : ∀ H, (∀ x y, x < W → y < H → f x y ≤ g x y) → smC f W H ≤ smC g W H := by
  intro H
  induction H with
  | zero => intro _; exact Nat.le_refl _
  | succ H ih =>
    intro h
    rw [smC, smC]
    have a := ih (fun x y hx hy => h x y hx (by omega))
    have b := smL_mono (f := fun x => f x H) (g := fun x => g x H) W (fun j hj => h j H hj (by omega))
    omega
theorem smC_lt {f g : Nat → Nat → Nat} {W i j : Nat} (hij : f i j < g i j) (hi : i < W) : ∀ H, j < H → (∀ x y, x < W → y < H → f x y ≤ g x y) → smC f W H < smC g W H := by
  intro H
  induction H with
  | zero => intro h; omega
  | succ H ih =>
    intro h hm
    rw [smC, smC]
    by_cases e : j = H
    · subst e
      have a := smC_mono (f := f) (g := g) (W := W) j (fun x y hx hy => hm x y hx (by omega))
      have b := smL_lt (f := fun x => f x j) (g := fun x => g x j) (i := i) hij W hi (fun x hx => hm x j hx (by omega))
      omega
    · have a := ih (by omega) (fun x y hx hy => hm x y hx (by omega))
      have b := smL_mono (f := fun x => f x H) (g := fun x => g x H) W (fun x hx => hm x H hx (by omega))
      omega
theorem smC_bd {f : Nat → Nat → Nat} {W B : Nat} : ∀ H, (∀ x y, x < W → y < H → f x y ≤ B) → smC f W H ≤ B * W * H := by
  intro H
  induction H with
  | zero => intro _; exact Nat.zero_le _
  | succ H ih =>
    intro h
    have a := ih (fun x y hx hy => h x y hx (by omega))
    have b : smL (fun x => f x H) W ≤ smL (fun _ => B) W := smL_mono W (fun x hx => h x H hx (by omega))
    have c : smL (fun _ => B) W ≤ B * W := smL_le (fun _ => Nat.le_refl _) W
    rw [smC, Nat.mul_succ]
    omega
section Rest
variable {P : Pz} {g : Gs}
theorem ok16 (hP : P.ok) (hg : setsOK P.W P.H P.C g) : ∀ x y, x < P.W → y < P.H → g x y < 16 := fun x y hx hy => lt16 hP.2.2.1.2 (hg x y hx hy).2
theorem szG_le (hP : P.ok) (hg : setsOK P.W P.H P.C g) : szG P g ≤ 576 := by
  have h := smC_bd (f := fun x y => pop (g x y)) (W := P.W) (B := 4) P.H (fun x y hx hy => pop_le _ (ok16 hP hg x y hx hy))
  obtain ⟨⟨-, a⟩, ⟨-, b⟩, -⟩ := hP
  have c : 4 * P.W * P.H ≤ 4 * 12 * 12 := Nat.mul_le_mul (Nat.mul_le_mul_left _ a) b
  unfold szG
  omega
theorem subG_rfl : subG P g g := fun _ _ _ _ _ _ h => h
theorem subG.trans {g1 g2 g3 : Gs} (h : subG P g1 g2) (k : subG P g2 g3) : subG P g1 g3 := fun x y hx hy v hv q => k x y hx hy v hv (h x y hx hy v hv q)
theorem szG_sub {g' : Gs} (h16 : ∀ x y, x < P.W → y < P.H → g x y < 16) (h16' : ∀ x y, x < P.W → y < P.H → g' x y < 16) (h : subG P g' g) : szG P g' ≤ szG P g :=
  smC_mono P.H (fun x y hx hy => (pop_sub _ (h16' x y hx hy) _ (h16 x y hx hy) (h x y hx hy)).1)
theorem szG_lt {g' : Gs} (h16 : ∀ x y, x < P.W → y < P.H → g x y < 16) (h16' : ∀ x y, x < P.W → y < P.H → g' x y < 16) (h : subG P g' g) {i j : Nat} (hi : i < P.W) (hj : j < P.H) (hne : g' i j ≠ g i j) : szG P g' < szG P g :=
  smC_lt (i := i) (j := j) ((pop_sub _ (h16' i j hi hj) _ (h16 i j hi hj) (h i j hi hj)).2 hne) hi P.H hj (fun x y hx hy => (pop_sub _ (h16' x y hx hy) _ (h16 x y hx hy) (h x y hx hy)).1)
theorem nar_sub {l : Nat} (hP : P.ok) (hl : l < P.L) : subG P (nar P g l) g := by
  intro x y hx hy v hv h
  by_cases c : onL P l x y
  · obtain ⟨h1, h2, h3⟩ := on_xy c
    rw [nar_in c] at h
    have := unN_sub hP hl h1 hv h
    rw [rowM_xy, ← h2, ← h3] at this
    exact this
  · rw [nar_out c] at h
    exact h
theorem smL_pos {f : Nat → Nat} : ∀ n, smL f n ≠ 0 → ∃ j, j < n ∧ f j ≠ 0 := by
  intro n
  induction n with
  | zero => intro h; exact absurd rfl h
  | succ n ih =>
    intro h
    rw [smL] at h
    by_cases c : f n = 0
    · obtain ⟨j, a, b⟩ := ih (by omega)
      exact ⟨j, by omega, b⟩
    · exact ⟨n, by omega, c⟩
theorem chg_0 {l : Nat} (h : smL (chg P g l) (P.n l) = 0) : nar P g l = g := by
  have : ∀ p, p < P.n l → chg P g l p = 0 := by
    intro p hp
    rcases chg01 (P := P) (g := g) (l := l) (p := p) with z | z
    · exact z
    · have := smL_lt (f := fun _ => 0) (g := chg P g l) (i := p) (by omega) (P.n l) hp (fun _ _ => Nat.zero_le _)
      omega
  funext x y
  by_cases c : onL P l x y
  · obtain ⟨h1, h2, h3⟩ := on_xy c
    have := this _ h1
    unfold chg at this
    rw [nar_in c]
    by_cases e : rowM g P.H l (posL P l x y) = unN (wy P g l) (posL P l x y)
    · rw [← e, rowM_xy, ← h2, ← h3]
    · rw [if_neg e] at this
      cases this
  · exact nar_out c
theorem chg_n0 {l : Nat} (hl : l < P.L) (h : smL (chg P g l) (P.n l) ≠ 0) : ∃ x y, x < P.W ∧ y < P.H ∧ nar P g l x y ≠ g x y := by
  obtain ⟨p, hp, hne⟩ := smL_pos _ h
  have on := xy_on hl hp
  refine ⟨xL P l p, yL P l p, on.1.1, on.1.2.1, ?_⟩
  rw [nar_in on.1, on.2, ← rowM_xy (P := P) (g := g) (l := l) p]
  unfold chg at hne
  by_cases e : rowM g P.H l p = unN (wy P g l) p
  · rw [if_pos e] at hne
    exact absurd rfl hne
  · exact fun q => e q.symm
/-- what a sweep does to the sets -/
theorem swp_spec (hP : P.ok) : ∀ k g c, k ≤ P.L → setsOK P.W P.H P.C g → setsOK P.W P.H P.C (swp P k g c).2.2 ∧ subG P (swp P k g c).2.2 g ∧ c ≤ (swp P k g c).2.1 ∧ (swp P k g c).2.1 ≤ c + 12 * k ∧ ((swp P k g c).2.1 = c → (swp P k g c).2.2 = g) ∧ ((swp P k g c).2.1 ≠ c → szG P (swp P k g c).2.2 < szG P g) := by
  intro k
  induction k with
  | zero =>
    intro g c _ hg
    exact ⟨hg, subG_rfl, Nat.le_refl _, Nat.le_refl _, fun _ => rfl, fun h => absurd rfl h⟩
  | succ k ih =>
    intro g c hk hg
    rw [swp]
    by_cases e : (wy P g (P.L - (k + 1))).isEmpty = true
    · rw [if_pos e]
      exact ⟨hg, subG_rfl, Nat.le_refl _, by show c ≤ _; omega, fun _ => rfl, fun h => absurd rfl h⟩
    · rw [if_neg e]
      have hl : P.L - (k + 1) < P.L := by have := Pz.L_le hP; omega
      revert e hl
      generalize P.L - (k + 1) = l
      intro e hl
      have hex : ∃ w, w ∈ wy P g l := by
        cases hw : wy P g l with
        | nil => rw [hw] at e; exact absurd rfl e
        | cons w ws => exact ⟨w, by simp⟩
      have hg' := nar_ok hP hl hP.2.2.1.2 hg hex
      obtain ⟨i1, i2, i3, i4, i5, i6⟩ := ih (nar P g l) (c + smL (chg P g l) (P.n l)) (by omega) hg'
      have hs : smL (chg P g l) (P.n l) ≤ 12 := by
        have := smL_le (f := chg P g l) (c := 1) (fun j => by rcases chg01 (P := P) (g := g) (l := l) (p := j) with z | z <;> omega) (P.n l)
        have := (Pz.n_le (l := l) hP).2
        omega
      have sub := nar_sub (g := g) hP hl
      have szl := szG_sub (ok16 hP hg) (ok16 hP hg') sub
      refine ⟨i1, i2.trans sub, by omega, by omega, fun h => ?_, fun h => ?_⟩
      · have h0 : smL (chg P g l) (P.n l) = 0 := by omega
        rw [i5 (by omega)]
        exact chg_0 h0
      · by_cases h0 : smL (chg P g l) (P.n l) = 0
        · have := i6 (by omega)
          omega
        · obtain ⟨x, y, hx, hy, hne⟩ := chg_n0 hl h0
          have := szG_lt (ok16 hP hg) (ok16 hP hg') sub hx hy hne
          have := szG_sub (ok16 hP hg') (ok16 hP i1) i2
          omega
end Rest
/-! the class settles -/
def SFr (q : Nat) (s s' : St) : Prop := (∀ a, a ≠ 17 → a ≠ 18 → s'.1 a = s.1 a) ∧ (∀ a, a ≠ q → s'.2.1 a = s.2.1 a) ∧ s'.2.2 = s.2.2
theorem SFr.rfl' {q : Nat} {s : St} : SFr q s s := ⟨fun _ _ _ => rfl, fun _ _ => rfl, rfl⟩
theorem SFr.trans {q : Nat} {s t u : St} (h : SFr q s t) (g : SFr q t u) : SFr q s u := ⟨fun a h1 h2 => (g.1 a h1 h2).trans (h.1 a h1 h2), fun a h1 => (g.2.1 a h1).trans (h.2.1 a h1), g.2.2.trans h.2.2⟩
theorem Cz.s {s s' : St} {P : Pz} {q : Nat} (h : Cz s P) (g : SFr q s s') : Cz s' P := h.fr (g.1 3 (by decide) (by decide)) (g.1 4 (by decide) (by decide)) (g.1 5 (by decide) (by decide)) (g.1 6 (by decide) (by decide))
theorem KFr.s {q : Nat} {s s' : St} (g : KFr s s') : SFr q s s' := ⟨g.1, fun a _ => by rw [g.2], by rw [g.2]⟩
theorem SFr.row {q : Nat} {s : St} {w : Nat → Int64} : SFr q s (sRowL s q w) := ⟨fun _ _ _ => rfl, fun _ h => sRowL_ne h, rfl⟩
/-- a sets object of the class -/
def sOK (G q : Nat) : Prop := clO G = 4 ∧ rf G 1 = q ∧ arT q = 3 ∧ arN q = 24
section Settle
variable {P : Pz} {G q : Nat}
theorem set19 {K : Int32 → Int32 → St → Option (Int32 × St)} {v4 : Int32} (hG : sOK G q) : ∀ (k c fu : Nat) (g : Gs) (s : St) (v3 v5 : Int32), k ≤ P.L → k < fu → Cz s P → setsOK P.W P.H P.C g → hasWr (s.2.1 q) P.W P.H g → (∀ m, m < P.L → bt v3 m = false → rst P g m) → (v5 = 0 ↔ c = 0) → ∃ s', SFr q s s' ∧ hasWr (s'.2.1 q) P.W P.H (swp P k g c).2.2 ∧ (((swp P k g c).1 = false ∧ f_X5_settle_19 G K fu v3 v4 v5 (nI (P.L - k)) s = some (-2, s')) ∨ ((swp P k g c).1 = true ∧ ∃ (v3' v5' : Int32), (∀ m, m < P.L → bt v3' m = false → rst P (swp P k g c).2.2 m) ∧ (v5' = 0 ↔ (swp P k g c).2.1 = 0) ∧ f_X5_settle_19 G K fu v3 v4 v5 (nI (P.L - k)) s = if v5' = 0 then some (v4 * nI P.L, s') else K v3' (v4 + 1) s')) := by
  obtain ⟨g1, g2, g3, g4⟩ := hG
  intro k
  induction k with
  | zero =>
    intro c fu g s v3 v5 hk hf hc hg hw hm h5
    obtain ⟨fu, rfl⟩ : ∃ z, fu = z + 1 := ⟨fu - 1, by omega⟩
    have hL := Pz.L_le hc.1
    refine ⟨s, SFr.rfl', hw, Or.inr ⟨rfl, v3, v5, hm, h5, ?_⟩⟩
    rw [f_X5_settle_19, clines hc.size, obs, if_pos (nI_le (show P.W + P.H ≤ P.L - 0 from Nat.le_refl _) (by omega))]
    show (if v5 = 0 then Option.bind (f_X0_lines 3 s) _ else _) = _
    rw [clines hc.size, obs]
    rfl
  | succ k ih =>
    intro c fu g s v3 v5 hk hf hc hg hw hm h5
    obtain ⟨fu, rfl⟩ : ∃ z, fu = z + 1 := ⟨fu - 1, by omega⟩
    have hP := hc.1
    have hL := Pz.L_le hP
    have hnx : P.L - (k + 1) + 1 = P.L - k := by omega
    rw [swp]
    have hl : P.L - (k + 1) < P.L := by omega
    revert hnx hl
    generalize hll : P.L - (k + 1) = l
    intro hnx hl
    have nextE : nI l + 1 = nI (P.L - k) := by rw [nI_1, hnx]
    have hemp : ∀ w, w ∈ wy P g l → ¬ (wy P g l).isEmpty = true := by
      intro w hw' he
      rw [List.isEmpty_iff] at he
      rw [he] at hw'
      simp at hw'
    have hne : ¬ (∃ w, w ∈ wy P g l) → (wy P g l).isEmpty = true := by
      intro h
      rw [List.isEmpty_iff]
      cases hw' : wy P g l with
      | nil => rfl
      | cons w ws => exact absurd ⟨w, by rw [hw']; simp⟩ h
    have hWH : P.W + P.H = P.L := rfl
    have hexp : f_X5_settle_19 G K (fu + 1) v3 v4 v5 (nI l) s = (if (((v3.toUInt32 >>> ((nI l).toUInt32 &&& Int32.toUInt32 31)).toInt32) &&& (1 : Int32)) = 0 then f_X5_settle_108 G K (f_X5_settle_19 G K fu) v3 v4 v5 (nI l) s else Option.bind (aJ s (rf G 1) (nI l)) fun x6 => Option.bind (f_X3_keptOf (nI l) x6 s) fun r7 => if (lg_cmp r7.1 (0 : Int64)) = 0 then some ((-2 : Int32), r7.2) else Option.bind (f_X4_narrow G (nI l) r7.1 r7.2) fun r9 => Option.bind (some ((v3 &&& (((1 : Int32) <<< (nI l &&& 31)) ^^^ (-1 : Int32))) ||| r9.1 : Int32)) fun x10 => if r9.1 = 0 then f_X5_settle_105 G K (f_X5_settle_19 G K fu) x10 v4 (nI l) (0 : Int32) v5 r9.2 else f_X5_settle_105 G K (f_X5_settle_19 G K fu) x10 v4 (nI l) (1 : Int32) v5 r9.2) := by
      rw [f_X5_settle_19, clines hc.size, obs, hWH, if_neg (show ¬ nI P.L ≤ nI l from nI_ge hl (by omega))]
    rw [bitT (x := v3) (a := l) (by omega)] at hexp
    by_cases b : bt v3 l = true
    · rw [if_pos b, if_neg (show ¬ (1 : Int32) = 0 by decide)] at hexp
      obtain ⟨kp, t, e1, e2, e3, e4⟩ := keptN (g := g) hc hl (hw l hl)
      have ek : (aJ s (rf G 1) (nI l)) = some (s.2.1 q l) := by rw [g2, aJ_nI g3 (by omega) (by omega)]
      by_cases c0 : ∃ w, w ∈ wy P g l
      · obtain ⟨w0, hw0⟩ := id c0
        rw [if_neg (hemp w0 hw0)]
        obtain ⟨kn, kb⟩ := e4 c0
        have hct := hc.k e2
        have htq : t.2.1 q = s.2.1 q := by rw [e2.2]
        obtain ⟨w', mk, n1', n2, n3⟩ := narrow4 (G := G) (q := q) (g := g) hct hl g1 g2 g3 g4 (ok16 hP hg) (by rw [htq]; exact hw) kb
        have frA : SFr q s (sRowL t q w') := (KFr.s e2).trans SFr.row
        have hn := Pz.n_le (l := l) hP
        have hcr : crL P l + P.n l ≤ 24 := by
          obtain ⟨⟨a1, a2⟩, ⟨a3, a4⟩, -⟩ := id hP
          unfold crL
          split <;> omega
        have hmk : mk = 0 ↔ smL (chg P g l) (P.n l) = 0 := by
          constructor
          · intro z
            by_cases y : smL (chg P g l) (P.n l) = 0
            · exact y
            · obtain ⟨p, p1, p2⟩ := smL_pos _ y
              have := (n3 (crL P l + p) (by omega)).mpr ⟨p, p1, rfl, by rcases chg01 (P := P) (g := g) (l := l) (p := p) with q | q; exact absurd q p2; exact q⟩
              rw [z, b_0] at this
              cases this
          · intro z
            refine b_ext (fun i hi => ?_)
            rw [b_0]
            cases hb : bt mk i
            · rfl
            · obtain ⟨p, p1, p2, p3⟩ := (n3 i hi).mp hb
              have := smL_lt (f := fun _ => 0) (g := chg P g l) (i := p) (by omega) (P.n l) p1 (fun _ _ => Nat.zero_le _)
              omega
        have hmask : ∀ m, m < P.L → bt ((v3 &&& (((1 : Int32) <<< (nI l &&& 31)) ^^^ (-1 : Int32))) ||| mk) m = false → rst P (nar P g l) m := by
          intro m hm' hb
          rw [b_or, b_and, b_xor, b_shl1 (by omega) (by omega), b_m1 m (by omega), Bool.xor_true, Bool.or_eq_false_iff] at hb
          obtain ⟨hb1, hb2⟩ := hb
          by_cases em : m = l
          · rw [em]
            exact rst_nar hP hl c0
          · rw [decide_eq_false em, Bool.not_false, Bool.and_true] at hb1
            refine rst_congr hP hm' (fun d hd => ?_) (hm m hm' hb1)
            rw [rowM_xy, rowM_xy]
            by_cases on : onL P l (xL P m d) (yL P m d)
            · obtain ⟨o1, o2, o3⟩ := on_xy on
              have hcross : crL P l + posL P l (xL P m d) (yL P m d) = m := by
                have on' := xy_on hm' hd
                have p1 := on.2.2
                have p2 := on'.1
                unfold onL at p2
                unfold crL posL
                unfold xL yL at p1 p2 ⊢
                unfold Pz.n lnOf at hd
                unfold Pz.L at hm' hl
                by_cases c1 : l < P.H
                · simp only [if_pos c1] at p1 ⊢
                  by_cases c2 : m < P.H
                  · simp only [if_pos c2] at p1
                    omega
                  · simp only [if_neg c2]
                    omega
                · simp only [if_neg c1] at p1 ⊢
                  by_cases c2 : m < P.H
                  · simp only [if_pos c2]
                    omega
                  · simp only [if_neg c2] at p1
                    omega
              have hz : chg P g l (posL P l (xL P m d) (yL P m d)) = 0 := by
                rcases chg01 (P := P) (g := g) (l := l) (p := posL P l (xL P m d) (yL P m d)) with z | z
                · exact z
                · have := (n3 m (by omega)).mpr ⟨_, o1, hcross.symm, z⟩
                  rw [hb2] at this
                  cases this
              unfold chg at hz
              by_cases e : rowM g P.H l (posL P l (xL P m d) (yL P m d)) = unN (wy P g l) (posL P l (xL P m d) (yL P m d))
              · rw [nar_in on, ← e, rowM_xy, ← o2, ← o3]
              · rw [if_neg e] at hz
                cases hz
            · rw [nar_out on]
        have body : f_X5_settle_19 G K (fu + 1) v3 v4 v5 (nI l) s = f_X5_settle_19 G K fu ((v3 &&& (((1 : Int32) <<< (nI l &&& 31)) ^^^ (-1 : Int32))) ||| mk) v4 (v5 ||| (if mk = 0 then 0 else 1)) (nI (P.L - k)) (sRowL t q w') := by
          rw [hexp, ek, obs, e1, obs, if_neg (fun x => kn ((lg0 _).mp x)), n1', obs, obs, ← nextE]
          by_cases z : mk = 0
          · rw [if_pos z, if_pos z]
            rfl
          · rw [if_neg z, if_neg z]
            rfl
        obtain ⟨s', i1, i2, i3⟩ := ih (c + smL (chg P g l) (P.n l)) fu (nar P g l) (sRowL t q w') ((v3 &&& (((1 : Int32) <<< (nI l &&& 31)) ^^^ (-1 : Int32))) ||| mk) (v5 ||| (if mk = 0 then 0 else 1)) (by omega) (by omega) (hct.sRowL) (nar_ok hP hl hP.2.2.1.2 hg c0) (by rw [sRowL_row]; exact n2) hmask (by
          by_cases z : mk = 0
          · rw [if_pos z, hmk.mp z, Int32.or_zero]
            exact h5
          · rw [if_neg z]
            have z2 : smL (chg P g l) (P.n l) ≠ 0 := fun x => z (hmk.mpr x)
            constructor
            · intro x
              have := congrArg (fun q => bt q 0) x
              rw [show bt (0 : Int32) 0 = false from rfl, b_or, b_1, decide_eq_true rfl, Bool.or_true] at this
              cases this
            · intro x
              omega)
        refine ⟨s', frA.trans i1, i2, ?_⟩
        rcases i3 with ⟨j1, j2⟩ | ⟨j1, v3', v5', j2, j3, j4⟩
        · exact Or.inl ⟨j1, body.trans j2⟩
        · exact Or.inr ⟨j1, v3', v5', j2, j3, body.trans j4⟩
      · rw [if_pos (hne c0)]
        refine ⟨t, KFr.s e2, by rw [show t.2.1 q = s.2.1 q by rw [e2.2]]; exact hw, Or.inl ⟨rfl, ?_⟩⟩
        rw [hexp, ek, obs, e1, obs, if_pos ((lg0 _).mpr (e3 (fun w hw' => c0 ⟨w, hw'⟩)))]
    · have b' : bt v3 l = false := by simpa using b
      rw [if_neg b, if_pos rfl] at hexp
      have hr := hm l hl b'
      obtain ⟨w0, hw0⟩ := hr.1
      rw [if_neg (hemp w0 hw0), rst_same hr]
      have h0 : smL (chg P g l) (P.n l) = 0 := smL_zero _ (fun p hp => by unfold chg; rw [if_pos (hr.2 p hp)])
      rw [h0, Nat.add_zero, hexp, f_X5_settle_108, nextE]
      exact ih c fu g s v3 v5 (by omega) (by omega) hc hg hw hm h5
end Settle
