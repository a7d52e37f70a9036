/-! THE LINE RULE as a function on sets g of cells -/
def Pz : Type := Nat × Nat × Nat × (Nat → Nat) × (Nat → Nat → Nat) × (Nat → Nat → Nat)
def Pz.W (P : Pz) : Nat := Prod.fst P
def Pz.H (P : Pz) : Nat := Prod.fst (Prod.snd P)
def Pz.C (P : Pz) : Nat := Prod.fst (Prod.snd (Prod.snd P))
def Pz.cn (P : Pz) : Nat → Nat := Prod.fst (Prod.snd (Prod.snd (Prod.snd P)))
def Pz.len (P : Pz) : Nat → Nat → Nat := Prod.fst (Prod.snd (Prod.snd (Prod.snd (Prod.snd P))))
def Pz.col (P : Pz) : Nat → Nat → Nat := Prod.snd (Prod.snd (Prod.snd (Prod.snd (Prod.snd P))))
def Pz.n (P : Pz) (l : Nat) : Nat := lnOf P.W P.H l
def Pz.L (P : Pz) : Nat := P.W + P.H
def Pz.ok (P : Pz) : Prop := (1 ≤ P.W ∧ P.W ≤ 12) ∧ (1 ≤ P.H ∧ P.H ≤ 12) ∧ (1 ≤ P.C ∧ P.C ≤ 3) ∧ ∀ l, l < P.L → P.cn l ≤ 12 ∧ need (P.len l) (P.col l) (P.cn l) ≤ P.n l ∧ ∀ k, k < P.cn l → (1 ≤ P.len l k ∧ P.len l k ≤ 12) ∧ (1 ≤ P.col l k ∧ P.col l k ≤ P.C)
abbrev Gs : Type := Nat → Nat → Nat
def wy (P : Pz) (g : Gs) (l : Nat) : List (Nat → Nat) := wys (P.n l) (P.cn l) (P.len l) (P.col l) (canM (P.n l) (rowM g P.H l)) (P.cn l) 0
def unN (ws : List (Nat → Nat)) (c : Nat) : Nat := (if ws.any (fun w => w c == 0) then 1 else 0) + (if ws.any (fun w => w c == 1) then 2 else 0) + (if ws.any (fun w => w c == 2) then 4 else 0) + (if ws.any (fun w => w c == 3) then 8 else 0)
theorem unB : ∀ a b c d : Bool, ((if a then 1 else 0) + (if b then 2 else 0) + (if c then 4 else 0) + (if d then 8 else 0) < 16) ∧ ∀ v, v < 4 → Nat.testBit ((if a then 1 else 0) + (if b then 2 else 0) + (if c then 4 else 0) + (if d then 8 else 0)) v = (if v = 0 then a else if v = 1 then b else if v = 2 then c else d) := by decide +kernel
theorem unN_bit {ws : List (Nat → Nat)} {c v : Nat} (hv : v < 4) : (unN ws c).testBit v = ws.any (fun w => w c == v) := by
  unfold unN
  rw [(unB _ _ _ _).2 v hv]
  by_cases h0 : v = 0
  · subst h0; rfl
  by_cases h1 : v = 1
  · subst h1; rfl
  by_cases h2 : v = 2
  · subst h2; rfl
  obtain rfl : v = 3 := by omega
  rfl
theorem unN_lt {ws : List (Nat → Nat)} {c : Nat} : unN ws c < 16 := (unB _ _ _ _).1
theorem unN_iff {ws : List (Nat → Nat)} {c v : Nat} (hv : v < 4) : (unN ws c).testBit v = true ↔ ∃ w, w ∈ ws ∧ w c = v := by
  rw [unN_bit hv, List.any_eq_true]
  simp only [beq_iff_eq]
def onL (P : Pz) (l x y : Nat) : Prop := x < P.W ∧ y < P.H ∧ (if l < P.H then y = l else x = l - P.H)
def onB (P : Pz) (l x y : Nat) : Bool := decide (x < P.W ∧ y < P.H ∧ (if l < P.H then y = l else x = l - P.H))
theorem onB_iff {P : Pz} {l x y : Nat} : onB P l x y = true ↔ onL P l x y := decide_eq_true_iff
def posL (P : Pz) (l x y : Nat) : Nat := if l < P.H then x else y
def nar (P : Pz) (g : Gs) (l : Nat) : Gs := fun x y => if onB P l x y then unN (wy P g l) (posL P l x y) else g x y
theorem nar_out {P : Pz} {g : Gs} {l x y : Nat} (h : ¬ onL P l x y) : nar P g l x y = g x y := if_neg (fun q => h (onB_iff.mp q))
theorem nar_in {P : Pz} {g : Gs} {l x y : Nat} (h : onL P l x y) : nar P g l x y = unN (wy P g l) (posL P l x y) := if_pos (onB_iff.mpr h)
/-- cells of line l that the LINE RULE changes -/
def chg (P : Pz) (g : Gs) (l p : Nat) : Nat := if rowM g P.H l p = unN (wy P g l) p then 0 else 1
/-- the ways keep to the sets, and are monotone in them -/
theorem wys_can {n R : Nat} {len col : Nat → Nat} {can : Nat → Nat → Bool} (hl : ∀ k, k < R → len k ≤ 12) : ∀ k i w, k ≤ R → w ∈ wys n R len col can k i → ∀ c, i ≤ c → c < n → can c (w c) = true := by
  intro k
  induction k with
  | zero =>
    intro i w _ h c c1 c2
    obtain ⟨h1, h2⟩ := mem_wys0.mp h
    rw [h2]
    exact h1 c c1 c2
  | succ k ih =>
    intro i w hk h c c1 c2
    obtain ⟨b, q1, q2, q3, q4, q5, w', q6, q7⟩ := (mem_wysS (r := R - (k + 1)) rfl (hl _ (by omega))).mp h
    rw [q7]
    unfold rowW
    by_cases z1 : c < b
    · rw [if_pos z1]
      exact q3 c c1 z1
    · by_cases z2 : c < b + len (R - (k + 1))
      · rw [if_neg z1, if_pos z2]
        exact q5 c (by omega) z2
      · rw [if_neg z1, if_neg z2]
        exact ih _ w' (by omega) q6 c (by omega) c2
theorem wys_mono {n R : Nat} {len col : Nat → Nat} {can can' : Nat → Nat → Bool} (hl : ∀ k, k < R → len k ≤ 12) : ∀ k i w, k ≤ R → w ∈ wys n R len col can k i → (∀ c, i ≤ c → c < n → can' c (w c) = true) → w ∈ wys n R len col can' k i := by
  intro k
  induction k with
  | zero =>
    intro i w _ h hc
    obtain ⟨h1, h2⟩ := mem_wys0.mp h
    refine mem_wys0.mpr ⟨fun c c1 c2 => ?_, h2⟩
    have := hc c c1 c2
    rw [h2] at this
    exact this
  | succ k ih =>
    intro i w hk h hc
    have hr : R - (k + 1) = R - (k + 1) := rfl
    obtain ⟨b, q1, q2, q3, q4, q5, w', q6, q7⟩ := (mem_wysS hr (hl _ (by omega))).mp h
    refine (mem_wysS hr (hl _ (by omega))).mpr ⟨b, q1, q2, fun c c1 c2 => ?_, q4, fun c c1 c2 => ?_, w', ?_, q7⟩
    · have := hc c c1 (by omega)
      rw [q7] at this
      unfold rowW at this
      rw [if_pos c2] at this
      exact this
    · have := hc c (by omega) (by omega)
      rw [q7] at this
      unfold rowW at this
      rw [if_neg (by omega), if_pos c2] at this
      exact this
    · refine ih _ w' (by omega) q6 (fun c c1 c2 => ?_)
      have := hc c (by omega) c2
      rw [q7] at this
      unfold rowW at this
      rw [if_neg (by omega), if_neg (by omega)] at this
      exact this
section Rule
variable {P : Pz} {g : Gs} {l : Nat}
theorem Pz.n_le (hP : P.ok) : 1 ≤ P.n l ∧ P.n l ≤ 12 := by
  obtain ⟨a, b, -⟩ := hP
  unfold Pz.n lnOf
  split <;> omega
theorem Pz.L_le (hP : P.ok) : 2 ≤ P.L ∧ P.L ≤ 24 := by
  obtain ⟨a, b, -⟩ := hP
  unfold Pz.L
  omega
theorem wy_can (hP : P.ok) (hl : l < P.L) {w : Nat → Nat} (h : w ∈ wy P g l) {c : Nat} (hc : c < P.n l) : w c < 4 ∧ (rowM g P.H l c).testBit (w c) = true := by
  have := wys_can (fun k hk => ((hP.2.2.2 l hl).2.2 k hk).1.2) _ _ w (Nat.le_refl _) h c (Nat.zero_le _) hc
  unfold canM at this
  simp only [Bool.and_eq_true, decide_eq_true_eq] at this
  exact ⟨this.1.2, this.2⟩
theorem wy_mono (hP : P.ok) (hl : l < P.L) {g' : Gs} {w : Nat → Nat} (h : w ∈ wy P g l) (h2 : ∀ c, c < P.n l → (rowM g' P.H l c).testBit (w c) = true) : w ∈ wy P g' l := by
  refine wys_mono (fun k hk => ((hP.2.2.2 l hl).2.2 k hk).1.2) _ _ w (Nat.le_refl _) h (fun c _ hc => ?_)
  unfold canM
  simp only [Bool.and_eq_true, decide_eq_true_eq]
  exact ⟨⟨hc, (wy_can hP hl h hc).1⟩, h2 c hc⟩
theorem wy_congr (hP : P.ok) (hl : l < P.L) {g' : Gs} (h : ∀ c, c < P.n l → rowM g' P.H l c = rowM g P.H l c) {w : Nat → Nat} : w ∈ wy P g l ↔ w ∈ wy P g' l :=
  ⟨fun q => wy_mono hP hl q (fun c hc => by rw [h c hc]; exact (wy_can hP hl q hc).2), fun q => wy_mono hP hl q (fun c hc => by rw [← h c hc]; exact (wy_can hP hl q hc).2)⟩
theorem unN_sub (hP : P.ok) (hl : l < P.L) {c v : Nat} (hc : c < P.n l) (hv : v < 4) (h : (unN (wy P g l) c).testBit v = true) : (rowM g P.H l c).testBit v = true := by
  obtain ⟨w, h1, h2⟩ := (unN_iff hv).mp h
  rw [← h2]
  exact (wy_can hP hl h1 hc).2
theorem tb_ext {a b : Nat} (ha : a < 16) (hb : b < 16) (h : ∀ v, v < 4 → a.testBit v = b.testBit v) : a = b := by
  apply Nat.eq_of_testBit_eq
  intro i
  by_cases c : i < 4
  · exact h i c
  · rw [lt16_bit ha (by omega), lt16_bit hb (by omega)]
theorem unN_eq {a b : List (Nat → Nat)} (h : ∀ w, w ∈ a ↔ w ∈ b) (c : Nat) : unN a c = unN b c := by
  refine tb_ext unN_lt unN_lt (fun v hv => ?_)
  rw [Bool.eq_iff_iff, unN_iff hv, unN_iff hv]
  constructor
  · rintro ⟨w, h1, h2⟩
    exact ⟨w, (h w).mp h1, h2⟩
  · rintro ⟨w, h1, h2⟩
    exact ⟨w, (h w).mpr h1, h2⟩
/-- cell p of line l -/
def xL (P : Pz) (l p : Nat) : Nat := if l < P.H then p else l - P.H
def yL (P : Pz) (l p : Nat) : Nat := if l < P.H then l else p
theorem xy_on (hl : l < P.L) {p : Nat} (hp : p < P.n l) : onL P l (xL P l p) (yL P l p) ∧ posL P l (xL P l p) (yL P l p) = p := by
  unfold Pz.n lnOf at hp
  unfold Pz.L at hl
  unfold onL posL xL yL
  by_cases c : l < P.H
  · simp only [if_pos c] at hp ⊢
    exact ⟨⟨hp, c, trivial⟩, trivial⟩
  · simp only [if_neg c] at hp ⊢
    exact ⟨⟨by omega, hp, trivial⟩, trivial⟩
theorem on_xy {x y : Nat} (h : onL P l x y) : posL P l x y < P.n l ∧ x = xL P l (posL P l x y) ∧ y = yL P l (posL P l x y) := by
  unfold onL at h
  unfold posL xL yL Pz.n lnOf
  by_cases c : l < P.H
  · simp only [if_pos c] at h ⊢
    exact ⟨h.1, trivial, h.2.2⟩
  · simp only [if_neg c] at h ⊢
    exact ⟨h.2.1, h.2.2, trivial⟩
theorem rowM_xy (p : Nat) : rowM g P.H l p = g (xL P l p) (yL P l p) := by
  unfold rowM xL yL
  by_cases c : l < P.H
  · simp only [if_pos c]
  · simp only [if_neg c]
theorem rowM_nar (hl : l < P.L) {p : Nat} (hp : p < P.n l) : rowM (nar P g l) P.H l p = unN (wy P g l) p := by
  rw [rowM_xy, nar_in (xy_on hl hp).1, (xy_on hl hp).2]
/-- behind the rule the line is at rest -/
theorem wy_nar (hP : P.ok) (hl : l < P.L) {w : Nat → Nat} : w ∈ wy P g l ↔ w ∈ wy P (nar P g l) l := by
  constructor
  · intro h
    refine wy_mono hP hl h (fun c hc => ?_)
    rw [rowM_nar hl hc]
    exact (unN_iff (wy_can hP hl h hc).1).mpr ⟨w, h, rfl⟩
  · intro h
    refine wy_mono hP hl h (fun c hc => ?_)
    have := wy_can hP hl h hc
    rw [rowM_nar hl hc] at this
    exact unN_sub hP hl hc this.1 this.2
/-- at rest: the line has ways, and its cells are what they show -/
def rst (P : Pz) (g : Gs) (l : Nat) : Prop := (∃ w, w ∈ wy P g l) ∧ ∀ p, p < P.n l → rowM g P.H l p = unN (wy P g l) p
theorem rst_nar (hP : P.ok) (hl : l < P.L) (h : ∃ w, w ∈ wy P g l) : rst P (nar P g l) l := by
  obtain ⟨w, hw⟩ := h
  refine ⟨⟨w, (wy_nar hP hl).mp hw⟩, fun p hp => ?_⟩
  rw [rowM_nar hl hp]
  exact unN_eq (fun w => wy_nar hP hl) p
theorem rst_same (h : rst P g l) : nar P g l = g := by
  funext x y
  by_cases c : onL P l x y
  · obtain ⟨h1, h2, h3⟩ := on_xy c
    rw [nar_in c, ← h.2 _ h1, rowM_xy, ← h2, ← h3]
  · exact nar_out c
theorem rst_congr (hP : P.ok) (hl : l < P.L) {g' : Gs} (e : ∀ c, c < P.n l → rowM g' P.H l c = rowM g P.H l c) (h : rst P g l) : rst P g' l := by
  obtain ⟨⟨w, hw⟩, h2⟩ := h
  refine ⟨⟨w, (wy_congr hP hl e).mp hw⟩, fun p hp => ?_⟩
  rw [e p hp, h2 p hp]
  exact unN_eq (fun w => wy_congr hP hl e) p
theorem nar_ok {C : Nat} (hP : P.ok) (hl : l < P.L) (hC : C ≤ 3) (hg : setsOK P.W P.H C g) (h : ∃ w, w ∈ wy P g l) : setsOK P.W P.H C (nar P g l) := by
  obtain ⟨w, hw⟩ := h
  intro x y hx hy
  by_cases c : onL P l x y
  · obtain ⟨h1, h2, h3⟩ := on_xy c
    rw [nar_in c]
    have hv := wy_can hP hl hw h1
    refine ⟨?_, ?_⟩
    · rcases Nat.eq_zero_or_pos (unN (wy P g l) (posL P l x y)) with z | z
      · have := (unN_iff hv.1).mpr ⟨w, hw, rfl⟩
        rw [z, Nat.zero_testBit] at this
        cases this
      · exact z
    · apply Nat.lt_pow_two_of_testBit
      intro i hi
      cases hb : (unN (wy P g l) (posL P l x y)).testBit i
      · rfl
      · by_cases i4 : i < 4
        · have := unN_sub hP hl h1 i4 hb
          rw [rowM_xy, ← h2, ← h3, Nat.testBit_lt_two_pow (Nat.lt_of_lt_of_le (hg x y hx hy).2 (Nat.pow_le_pow_right (by decide) hi))] at this
          cases this
        · rw [lt16_bit unN_lt (by omega)] at hb
          cases hb
  · rw [nar_out c]
    exact hg x y hx hy
end Rule
/-! the class's side -/
def Cz (s : St) (P : Pz) : Prop := P.ok ∧ s.1 3 3 = nI P.W ∧ s.1 3 4 = nI P.H ∧ s.1 3 5 = nI P.C ∧ ∀ l, l < P.L → s.1 4 l = nI (P.cn l) ∧ ∀ k, k < P.cn l → s.1 5 (12 * l + k) = nI (P.len l k) ∧ s.1 6 (12 * l + k) = nI (P.col l k)
theorem Cz.size {s : St} {P : Pz} (h : Cz s P) : cSize s P.W P.H P.C := ⟨h.2.1, h.2.2.1, h.2.2.2.1, h.1.1.1, h.1.1.2, h.1.2.1.1, h.1.2.1.2, h.1.2.2.1.1, h.1.2.2.1.2⟩
theorem Cz.line {s : St} {P : Pz} {l : Nat} (h : Cz s P) (hl : l < P.L) : Kc s P.W P.H P.C l (P.n l) (P.cn l) (P.len l) (P.col l) := by
  obtain ⟨h1, h2, h3, h4, h5⟩ := id h
  obtain ⟨a1, a2, a3⟩ := h1.2.2.2 l hl
  refine ⟨h.size, hl, rfl, a1, (h5 l hl).1, fun k hk => ?_⟩
  have hC := h1.2.2.1
  have := (a3 k hk).2
  exact ⟨(a3 k hk).1, by omega, (h5 l hl).2 k hk⟩
theorem Cz.fr {s s' : St} {P : Pz} (h : Cz s P) (e3 : s'.1 3 = s.1 3) (e4 : s'.1 4 = s.1 4) (e5 : s'.1 5 = s.1 5) (e6 : s'.1 6 = s.1 6) : Cz s' P := by
  unfold Cz
  rw [e3, e4, e5, e6]
  exact h
theorem Cz.k {s s' : St} {P : Pz} (h : Cz s P) (g : KFr s s') : Cz s' P := h.fr (g.1 3 (by decide) (by decide)) (g.1 4 (by decide) (by decide)) (g.1 5 (by decide) (by decide)) (g.1 6 (by decide) (by decide))
theorem keptN {s : St} {P : Pz} {g : Gs} {l : Nat} {x : Int64} (hx : Cz s P) (hl : l < P.L) (h : ∀ i, i < 64 → jb x i = wbit (rowM g P.H l) (P.n l) i) : ∃ kp s', f_X3_keptOf (nI l) x s = some (kp, s') ∧ KFr s s' ∧ ((∀ w, ¬ w ∈ wy P g l) → kp = 0) ∧ ((∃ w, w ∈ wy P g l) → kp ≠ 0 ∧ ∀ i, i < 64 → jb kp i = wbit (unN (wy P g l)) (P.n l) i) := by
  obtain ⟨kp, s', e1, e2, e3, e4⟩ := keptOf3 (hx.line hl) h
  have hn := Pz.n_le (l := l) hx.1
  refine ⟨kp, s', e1, e2, e3, fun q => ?_⟩
  have e5 : ∀ i, i < 64 → jb kp i = wbit (unN (wy P g l)) (P.n l) i := by
    intro i hi
    rw [Bool.eq_iff_iff, e4 q i hi]
    unfold wbit
    simp only [Bool.and_eq_true, decide_eq_true_eq]
    constructor
    · rintro ⟨a, b, c⟩
      exact ⟨⟨a, b⟩, (unN_iff b).mpr c⟩
    · rintro ⟨⟨a, b⟩, c⟩
      exact ⟨a, b, (unN_iff b).mp c⟩
  refine ⟨fun z => ?_, e5⟩
  obtain ⟨w, hw⟩ := q
  have hv := (wy_can hx.1 hl hw (show 0 < P.n l by omega)).1
  have := e5 (12 * w 0) (by omega)
  rw [z, j_0] at this
  unfold wbit at this
  rw [show 12 * w 0 % 12 = 0 by omega, show 12 * w 0 / 12 = w 0 by omega, decide_eq_true (show 0 < P.n l by omega), decide_eq_true hv, (unN_iff hv).mpr ⟨w, hw, rfl⟩] at this
  cases this
