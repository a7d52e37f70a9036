/-! what a line forces: prefixes and suffixes against the ways -/
section Line
variable (n R : Nat) (len col : Nat → Nat) (can : Nat → Nat → Bool)
def blk (i j : Nat) : Prop := ∀ c, i ≤ c → c < j → can c 0 = true
def rnR (r a : Nat) : Prop := ∀ c, a ≤ c → c < a + len r → can c (col r) = true
/-- Bp k i: the cells below i can be the first k runs -/
def Bp : Nat → Nat → Prop
  | 0, i => blk can 0 i
  | k + 1, i => ∃ a, ((if gapR col k = 1 then 1 ≤ a ∧ Bp k (a - 1) ∧ can (a - 1) 0 = true else Bp k a) ∧ rnR len col can k a) ∧ a + len k ≤ i ∧ blk can (a + len k) i
/-- run k can begin at a, as to what lies ahead -/
def Sp (k a : Nat) : Prop := (if gapR col k = 1 then 1 ≤ a ∧ Bp len col can k (a - 1) ∧ can (a - 1) 0 = true else Bp len col can k a) ∧ rnR len col can k a
/-- the first k runs end just at e -/
def En : Nat → Nat → Prop
  | 0, e => e = 0
  | k + 1, e => ∃ a, Sp len col can k a ∧ e = a + len k
def Tq (r e : Nat) : Prop := ∃ w, w ∈ wys n R len col can (R - r) e
/-- the runs from k on, on the cells from i on, cell i - 1 being blank -/
def Tn (k i : Nat) : Prop := (k = R ∧ blk can i n) ∨ (k < R ∧ ∃ b, i ≤ b ∧ b + len k ≤ n ∧ blk can i b ∧ rnR len col can k b ∧ Tq n R len col can (k + 1) (b + len k))
end Line
section LineT
variable {n R : Nat} {len col : Nat → Nat} {can : Nat → Nat → Bool}
theorem Bp_En : ∀ k i, Bp len col can k i ↔ ∃ e, e ≤ i ∧ En len col can k e ∧ blk can e i := by
  intro k i
  cases k with
  | zero =>
    constructor
    · intro h
      exact ⟨0, Nat.zero_le _, rfl, h⟩
    · rintro ⟨e, -, rfl, h⟩
      exact h
  | succ k =>
    constructor
    · rintro ⟨a, h1, h2, h3⟩
      exact ⟨a + len k, h2, ⟨a, h1, rfl⟩, h3⟩
    · rintro ⟨e, h1, ⟨a, h2, rfl⟩, h3⟩
      exact ⟨a, h2, h1, h3⟩
theorem gap01 (r : Nat) : gapR col r = 0 ∨ gapR col r = 1 := by unfold gapR; split <;> simp
/-- run k begins at b behind cells e .. b that are blank -/
theorem Sp_of {k e b : Nat} (hE : En len col can k e) (h1 : e ≤ b) (h2 : blk can e b) (h3 : gapR col k = 0 ∨ e < b) (h4 : rnR len col can k b) : Sp len col can k b := by
  refine ⟨?_, h4⟩
  by_cases g : gapR col k = 1
  · rw [if_pos g]
    have : e < b := by omega
    exact ⟨by omega, (Bp_En k (b - 1)).mpr ⟨e, by omega, hE, fun c c1 c2 => h2 c c1 (by omega)⟩, h2 (b - 1) (by omega) (by omega)⟩
  · rw [if_neg g]
    exact (Bp_En k b).mpr ⟨e, h1, hE, h2⟩
theorem Sp_En {k b : Nat} (h : Sp len col can k b) : ∃ e, e ≤ b ∧ En len col can k e ∧ blk can e b ∧ (gapR col k = 0 ∨ e < b) := by
  obtain ⟨h1, -⟩ := h
  by_cases g : gapR col k = 1
  · rw [if_pos g] at h1
    obtain ⟨a1, a2, a3⟩ := h1
    obtain ⟨e, e1, e2, e3⟩ := (Bp_En k (b - 1)).mp a2
    refine ⟨e, by omega, e2, fun c c1 c2 => ?_, Or.inr (by omega)⟩
    by_cases z : c = b - 1
    · rw [z]; exact a3
    · exact e3 c c1 (by omega)
  · rw [if_neg g] at h1
    obtain ⟨e, e1, e2, e3⟩ := (Bp_En k b).mp h1
    exact ⟨e, e1, e2, e3, Or.inl ((gap01 k).resolve_right g)⟩
theorem allC_iff {f : Nat → Bool} {i j : Nat} : allC f i j = true ↔ ∀ c, i ≤ c → c < j → f c = true := by
  unfold allC
  rw [decide_eq_true_eq]
  exact ⟨fun h c c1 c2 => h c c2 c1, fun h c c1 c2 => h c c2 c1⟩
theorem mem_wysAt {sub : Nat → List (Nat → Nat)} {z v g i : Nat} {w : Nat → Nat} : ∀ m a, w ∈ wysAt can sub z v g i m a ↔ ∃ b, a ≤ b ∧ b < a + m ∧ blk can a b ∧ (g = 0 ∨ i < b) ∧ (∀ c, b ≤ c → c < b + z → can c v = true) ∧ ∃ w', w' ∈ sub (b + z) ∧ w = rowW b z v w' := by
  intro m
  induction m with
  | zero =>
    intro a
    constructor
    · intro h
      simp [wysAt] at h
    · rintro ⟨b, h1, h2, -⟩
      omega
  | succ m ih =>
    intro a
    rw [wysAt, List.mem_append]
    constructor
    · rintro (h | h)
      · by_cases c : (g = 0 ∨ i < a) ∧ allC (fun c => can c v) a (a + z) = true
        · rw [if_pos c] at h
          obtain ⟨w', q1, q2⟩ := List.mem_map.mp h
          exact ⟨a, Nat.le_refl _, by omega, fun c c1 c2 => absurd c2 (by omega), c.1, allC_iff.mp c.2, w', q1, q2.symm⟩
        · rw [if_neg c] at h
          simp at h
      · by_cases c : can a 0 = true
        · rw [if_pos c] at h
          obtain ⟨b, q1, q2, q3, q4⟩ := (ih (a + 1)).mp h
          refine ⟨b, by omega, by omega, fun x x1 x2 => ?_, q4⟩
          by_cases e : x = a
          · rw [e]; exact c
          · exact q3 x (by omega) x2
        · rw [if_neg c] at h
          simp at h
    · rintro ⟨b, q1, q2, q3, q4, q5, w', q6, q7⟩
      by_cases e : b = a
      · subst e
        left
        rw [if_pos ⟨q4, allC_iff.mpr q5⟩]
        exact List.mem_map.mpr ⟨w', q6, q7.symm⟩
      · right
        rw [if_pos (q3 a (Nat.le_refl _) (by omega))]
        exact (ih (a + 1)).mpr ⟨b, by omega, by omega, fun x x1 x2 => q3 x (by omega) x2, q4, q5, w', q6, q7⟩
theorem mem_wys0 {i : Nat} {w : Nat → Nat} : w ∈ wys n R len col can 0 i ↔ blk can i n ∧ w = fun _ => 0 := by
  unfold wys
  by_cases c : allC (fun c => can c 0) i n = true
  · rw [if_pos c, List.mem_singleton]
    exact ⟨fun h => ⟨allC_iff.mp c, h⟩, fun h => h.2⟩
  · rw [if_neg c]
    exact ⟨fun h => by simp at h, fun h => absurd (allC_iff.mpr h.1) c⟩
theorem mem_wysS {k r i : Nat} {w : Nat → Nat} (hr : R - (k + 1) = r) (hl : len r ≤ 12) : w ∈ wys n R len col can (k + 1) i ↔ ∃ b, i ≤ b ∧ b + len r ≤ n ∧ blk can i b ∧ (gapR col r = 0 ∨ i < b) ∧ rnR len col can r b ∧ ∃ w', w' ∈ wys n R len col can k (b + len r) ∧ w = rowW b (len r) (col r) w' := by
  have e : wys n R len col can (k + 1) i = wysAt can (wys n R len col can k) (len r) (col r) (gapR col r) i (n + 1 - len r - i) i := by rw [← hr]; rfl
  rw [e, mem_wysAt]
  constructor
  · rintro ⟨b, q1, q2, q3⟩
    exact ⟨b, q1, by omega, q3⟩
  · rintro ⟨b, q1, q2, q3⟩
    exact ⟨b, q1, by omega, q3⟩
/-- a suffix behind a prefix is part of a whole way -/
theorem way_ext (hl : ∀ k, k < R → len k ≤ 12) (hcan : ∀ c v, can c v = true → c < n) (hlen : ∀ k, k < R → 1 ≤ len k) : ∀ k e w', k ≤ R → En len col can k e → w' ∈ wys n R len col can (R - k) e → ∃ w, w ∈ wys n R len col can R 0 ∧ ∀ c, e ≤ c → w c = w' c := by
  intro k
  induction k with
  | zero =>
    intro e w' hk hE hw
    obtain rfl : e = 0 := hE
    exact ⟨w', hw, fun _ _ => rfl⟩
  | succ k ih =>
    intro e w' hk hE hw
    obtain ⟨a, hS, rfl⟩ := hE
    obtain ⟨e0, e1, e2, e3, e4⟩ := Sp_En hS
    have hrun := hS.2
    have hl1 := hlen k (by omega)
    have han : a + len k ≤ n := by
      have := hcan _ _ (hrun (a + len k - 1) (by omega) (by omega))
      omega
    have hm : rowW a (len k) (col k) w' ∈ wys n R len col can (R - k) e0 := by
      have hR : R - k = (R - (k + 1)) + 1 := by omega
      rw [hR, mem_wysS (r := k) (by omega) (hl k (by omega))]
      exact ⟨a, e1, han, e3, e4, hrun, w', hw, rfl⟩
    obtain ⟨w, q1, q2⟩ := ih e0 _ (by omega) e2 hm
    refine ⟨w, q1, fun c hc => ?_⟩
    rw [q2 c (by omega)]
    unfold rowW
    rw [if_neg (by omega), if_neg (by omega)]
theorem way_split (hl : ∀ k, k < R → len k ≤ 12) (hc1 : ∀ k, k < R → 1 ≤ col k) {c : Nat} (hc : c < n) : ∀ d r e w, R - r = d → r ≤ R → En len col can r e → e ≤ c → w ∈ wys n R len col can (R - r) e → (w c = 0 ∧ ∃ k, k ≤ R ∧ Bp len col can k c ∧ can c 0 = true ∧ Tn n R len col can k (c + 1)) ∨ (∃ k, k < R ∧ w c = col k ∧ ∃ a, Sp len col can k a ∧ a ≤ c ∧ c < a + len k ∧ Tq n R len col can (k + 1) (a + len k)) := by
  intro d
  induction d with
  | zero =>
    intro r e w hd hr hE he hw
    obtain rfl : r = R := by omega
    rw [hd] at hw
    obtain ⟨q1, q2⟩ := mem_wys0.mp hw
    left
    refine ⟨by rw [q2], r, Nat.le_refl _, (Bp_En r c).mpr ⟨e, he, hE, fun x x1 x2 => q1 x x1 (by omega)⟩, q1 c he hc, Or.inl ⟨rfl, fun x x1 x2 => q1 x (by omega) x2⟩⟩
  | succ d ih =>
    intro r e w hd hr hE he hw
    have hR : R - r = (R - (r + 1)) + 1 := by omega
    rw [hR, mem_wysS (r := r) (by omega) (hl r (by omega))] at hw
    obtain ⟨b, q1, q2, q3, q4, q5, w', q6, q7⟩ := hw
    have hS := Sp_of hE q1 q3 q4 q5
    by_cases c1 : c < b
    · left
      refine ⟨by rw [q7]; unfold rowW; rw [if_pos c1], r, hr, (Bp_En r c).mpr ⟨e, he, hE, fun x x1 x2 => q3 x x1 (by omega)⟩, q3 c he c1, Or.inr ⟨by omega, b, by omega, q2, fun x x1 x2 => q3 x (by omega) x2, q5, w', q6⟩⟩
    · by_cases c2 : c < b + len r
      · right
        exact ⟨r, by omega, by rw [q7]; unfold rowW; rw [if_neg c1, if_pos c2], b, hS, by omega, c2, w', q6⟩
      · rcases ih (r + 1) (b + len r) w' (by omega) (by omega) ⟨b, hS, rfl⟩ (by omega) q6 with ⟨x1, x2⟩ | ⟨k, x1, x2, x3⟩
        · left
          exact ⟨by rw [q7]; unfold rowW; rw [if_neg c1, if_neg c2]; exact x1, x2⟩
        · right
          exact ⟨k, x1, by rw [q7]; unfold rowW; rw [if_neg c1, if_neg c2]; exact x2, x3⟩
theorem way_blank (hl : ∀ k, k < R → len k ≤ 12) (hcan : ∀ c v, can c v = true → c < n) (hlen : ∀ k, k < R → 1 ≤ len k) (hc1 : ∀ k, k < R → 1 ≤ col k) {c : Nat} (hc : c < n) : (∃ w, w ∈ wys n R len col can R 0 ∧ w c = 0) ↔ ∃ k, k ≤ R ∧ Bp len col can k c ∧ can c 0 = true ∧ Tn n R len col can k (c + 1) := by
  constructor
  · rintro ⟨w, h1, h2⟩
    rcases way_split hl hc1 hc (R - 0) 0 0 w rfl (Nat.zero_le _) rfl (Nat.zero_le _) h1 with ⟨-, x⟩ | ⟨k, x1, x2, -⟩
    · exact x
    · have := hc1 k x1
      omega
  · rintro ⟨k, h1, h2, h3, h4⟩
    obtain ⟨e, e1, e2, e3⟩ := (Bp_En k c).mp h2
    have : ∃ w', w' ∈ wys n R len col can (R - k) e ∧ w' c = 0 := by
      rcases h4 with ⟨rfl, g⟩ | ⟨g1, b, g2, g3, g4, g5, w', g6⟩
      · refine ⟨fun _ => 0, ?_, rfl⟩
        rw [Nat.sub_self]
        refine mem_wys0.mpr ⟨fun x x1 x2 => ?_, rfl⟩
        by_cases z1 : x < c
        · exact e3 x x1 z1
        · by_cases z2 : x = c
          · rw [z2]; exact h3
          · exact g x (by omega) x2
      · have hR : R - k = (R - (k + 1)) + 1 := by omega
        refine ⟨rowW b (len k) (col k) w', ?_, by unfold rowW; rw [if_pos (by omega)]⟩
        rw [hR, mem_wysS (r := k) (by omega) (hl k g1)]
        refine ⟨b, by omega, g3, fun x x1 x2 => ?_, Or.inr (by omega), g5, w', g6, rfl⟩
        by_cases z1 : x < c
        · exact e3 x x1 z1
        · by_cases z2 : x = c
          · rw [z2]; exact h3
          · exact g4 x (by omega) x2
    obtain ⟨w', q1, q2⟩ := this
    obtain ⟨w, q3, q4⟩ := way_ext hl hcan hlen k e w' h1 e2 q1
    exact ⟨w, q3, by rw [q4 c e1]; exact q2⟩
theorem way_col (hl : ∀ k, k < R → len k ≤ 12) (hcan : ∀ c v, can c v = true → c < n) (hlen : ∀ k, k < R → 1 ≤ len k) (hc1 : ∀ k, k < R → 1 ≤ col k) {c v : Nat} (hc : c < n) (hv : 1 ≤ v) : (∃ w, w ∈ wys n R len col can R 0 ∧ w c = v) ↔ ∃ k, k < R ∧ col k = v ∧ ∃ a, Sp len col can k a ∧ a ≤ c ∧ c < a + len k ∧ Tq n R len col can (k + 1) (a + len k) := by
  constructor
  · rintro ⟨w, h1, h2⟩
    rcases way_split hl hc1 hc (R - 0) 0 0 w rfl (Nat.zero_le _) rfl (Nat.zero_le _) h1 with ⟨x, -⟩ | ⟨k, x1, x2, x3⟩
    · omega
    · exact ⟨k, x1, by omega, x3⟩
  · rintro ⟨k, h1, h2, a, h3, h4, h5, w', h6⟩
    obtain ⟨e0, e1, e2, e3, e4⟩ := Sp_En h3
    have hl1 := hlen k h1
    have han : a + len k ≤ n := by
      have := hcan _ _ (h3.2 (a + len k - 1) (by omega) (by omega))
      omega
    have hm : rowW a (len k) (col k) w' ∈ wys n R len col can (R - k) e0 := by
      have hR : R - k = (R - (k + 1)) + 1 := by omega
      rw [hR, mem_wysS (r := k) (by omega) (hl k h1)]
      exact ⟨a, e1, han, e3, e4, h3.2, w', h6, rfl⟩
    obtain ⟨w, q3, q4⟩ := way_ext hl hcan hlen k e0 _ (by omega) e2 hm
    refine ⟨w, q3, ?_⟩
    rw [q4 c (by omega)]
    unfold rowW
    rw [if_neg (by omega), if_pos h5, h2]
theorem way_any (hl : ∀ k, k < R → len k ≤ 12) (hcan : ∀ c v, can c v = true → c < n) (hlen : ∀ k, k < R → 1 ≤ len k) : (∃ w, w ∈ wys n R len col can R 0) ↔ Bp len col can R n := by
  have fw : ∀ d r e w, R - r = d → r ≤ R → En len col can r e → e ≤ n → w ∈ wys n R len col can (R - r) e → Bp len col can R n := by
    intro d
    induction d with
    | zero =>
      intro r e w hd hr hE he hw
      obtain rfl : r = R := by omega
      rw [hd] at hw
      exact (Bp_En r n).mpr ⟨e, he, hE, (mem_wys0.mp hw).1⟩
    | succ d ih =>
      intro r e w hd hr hE he hw
      have hR : R - r = (R - (r + 1)) + 1 := by omega
      rw [hR, mem_wysS (r := r) (by omega) (hl r (by omega))] at hw
      obtain ⟨b, q1, q2, q3, q4, q5, w', q6, q7⟩ := hw
      exact ih (r + 1) (b + len r) w' (by omega) (by omega) ⟨b, Sp_of hE q1 q3 q4 q5, rfl⟩ q2 q6
  constructor
  · rintro ⟨w, hw⟩
    exact fw (R - 0) 0 0 w rfl (Nat.zero_le _) rfl (Nat.zero_le _) hw
  · intro h
    obtain ⟨e, e1, e2, e3⟩ := (Bp_En R n).mp h
    obtain ⟨w, q1, -⟩ := way_ext hl hcan hlen R e (fun _ => 0) (Nat.le_refl _) e2 (by rw [Nat.sub_self]; exact mem_wys0.mpr ⟨e3, rfl⟩)
    exact ⟨w, q1⟩
end LineT
/-! the class's LINE RULE -/
def canM (n : Nat) (mk : Nat → Nat) (c v : Nat) : Bool := decide (c < n) && decide (v < 4) && (mk c).testBit v
/-- what stands around a line in the class -/
def Kc (s : St) (W H C l n R : Nat) (len col : Nat → Nat) : Prop := cSize s W H C ∧ l < W + H ∧ n = lnOf W H l ∧ R ≤ 12 ∧ s.1 4 l = nI R ∧ ∀ k, k < R → (1 ≤ len k ∧ len k ≤ 12) ∧ (1 ≤ col k ∧ col k ≤ 3) ∧ s.1 5 (12 * l + k) = nI (len k) ∧ s.1 6 (12 * l + k) = nI (col k)
def KFr (s s' : St) : Prop := (∀ a, a ≠ 17 → a ≠ 18 → s'.1 a = s.1 a) ∧ s'.2 = s.2
theorem KFr.rfl' {s : St} : KFr s s := ⟨fun _ _ _ => rfl, rfl⟩
theorem KFr.trans {s t u : St} (h : KFr s t) (g : KFr t u) : KFr s u := ⟨fun a h1 h2 => (g.1 a h1 h2).trans (h.1 a h1 h2), g.2.trans h.2⟩
theorem KFr.s17 {s : St} {j : Nat} {v : Int32} : KFr s (sF s 17 j v) := ⟨fun a h1 _ => sF_ne h1, rfl⟩
theorem KFr.s18 {s : St} {j : Nat} {v : Int32} : KFr s (sF s 18 j v) := ⟨fun a _ h1 => sF_ne h1, rfl⟩
theorem Kc.fr {s s' : St} {W H C l n R : Nat} {len col : Nat → Nat} (h : Kc s W H C l n R len col) (g : KFr s s') : Kc s' W H C l n R len col := by
  unfold Kc cSize
  rw [g.1 3 (by decide) (by decide), g.1 4 (by decide) (by decide), g.1 5 (by decide) (by decide), g.1 6 (by decide) (by decide)]
  exact h
theorem Kc.le12 {s : St} {W H C l n R : Nat} {len col : Nat → Nat} (h : Kc s W H C l n R len col) : 1 ≤ n ∧ n ≤ 12 ∧ l < 24 := by
  obtain ⟨⟨-, -, -, a1, a2, a3, a4, -⟩, hl, hn, -⟩ := h
  rw [hn]
  unfold lnOf
  split <;> omega
theorem gap0 {s : St} {W H C l n R k : Nat} {len col : Nat → Nat} (h : Kc s W H C l n R len col) (hk : k ≤ R) : f_X0_needsGapAhead 3 (nI l) (nI k) s = some (if k < R ∧ gapR col k = 1 then 1 else 0, s) := by
  have hn := h.le12
  obtain ⟨hz, hl, hnn, hR, h4, h5⟩ := h
  unfold f_X0_needsGapAhead
  rw [if_neg (fun q => q rfl)]
  by_cases c0 : k = 0
  · subst c0
    rw [if_pos (by decide), if_neg (fun q => by have := q.2; unfold gapR at this; rw [if_neg (fun x => x.1 rfl)] at this; omega)]
  · rw [if_neg (nI_nle (by omega) (by omega)), show rf 3 0 = 4 from rfl, show rf 3 2 = 6 from rfl, aI_nI rfl (by show l < 24; omega) (by decide), obs, h4]
    by_cases c1 : k < R
    · rw [if_neg (nI_ge c1 (by omega)), at12, nI_sub1 (by omega), aI_nI rfl (by show _ < 288; omega) (by decide), obs, aI_nI rfl (by show _ < 288; omega) (by decide), obs, (h5 k c1).2.2.2, show 12 * l + k - 1 = 12 * l + (k - 1) by omega, (h5 (k - 1) (by omega)).2.2.2]
      have b1 := (h5 k c1).2.1
      have b2 := (h5 (k - 1) (by omega)).2.1
      by_cases c2 : col (k - 1) = col k
      · rw [if_pos (congrArg nI c2), if_pos ⟨c1, by unfold gapR; rw [if_pos ⟨c0, c2.symm⟩]⟩]
      · rw [if_neg (fun x => c2 (nI_inj (by omega) (by omega) x)), if_neg (fun q => by have := q.2; unfold gapR at this; rw [if_neg (fun x => c2 x.2.symm)] at this; omega)]
    · rw [if_pos (nI_le (by omega) (by omega)), if_neg (fun q => c1 q.1)]
