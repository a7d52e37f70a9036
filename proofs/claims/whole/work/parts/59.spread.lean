/-! places and cells as bits of an int: spreadUp, spreadDown, stretches, cover, cellsWith -/
def upP (P B : Nat → Bool) (i : Nat) : Prop := ∃ j, j ≤ i ∧ P j = true ∧ ∀ c, j ≤ c → c < i → B c = true
def dnP (P B : Nat → Bool) (i : Nat) : Prop := ∃ j, i ≤ j ∧ P j = true ∧ ∀ c, i ≤ c → c < j → B c = true
theorem p2 : ∀ t, t < 4 → nI (2 ^ t) * 2 = nI (2 ^ (t + 1)) := by decide +kernel
theorem p12 : ∀ t, t < 4 → ¬ (12 : Int32) ≤ nI (2 ^ t) := by decide +kernel
theorem pl : ∀ t, t < 4 → 2 ^ t < 32 := by decide
theorem up1 {n t : Nat} {x y : Int32} {s : St} (ht : t < 4) : f_X3_spreadUp_7 (n + 1) x y (nI (2 ^ t)) s = f_X3_spreadUp_7 n (x ||| ((x &&& y) <<< (nI (2 ^ t) &&& 31))) (y &&& ((y.toUInt32 >>> ((nI (2 ^ t)).toUInt32 &&& Int32.toUInt32 31)).toInt32)) (nI (2 ^ (t + 1))) s := by
  rw [f_X3_spreadUp_7, if_neg (p12 t ht), obs, p2 t ht]
theorem dn1 {n t : Nat} {x y : Int32} {s : St} (ht : t < 4) : f_X3_spreadDown_7 (n + 1) x y (nI (2 ^ t)) s = f_X3_spreadDown_7 n (x ||| (((x.toUInt32 >>> ((nI (2 ^ t)).toUInt32 &&& Int32.toUInt32 31)).toInt32) &&& y)) (y &&& ((y.toUInt32 >>> ((nI (2 ^ t)).toUInt32 &&& Int32.toUInt32 31)).toInt32)) (nI (2 ^ (t + 1))) s := by
  rw [f_X3_spreadDown_7, if_neg (p12 t ht), obs, obs, p2 t ht]
/-- y tells where k cells of B begin -/
def opB (B : Nat → Bool) (k : Nat) (y : Int32) : Prop := ∀ i, bt y i = true ↔ ∀ c, i ≤ c → c < i + k → B c = true
theorem op1 {B : Nat → Bool} {k : Nat} {y : Int32} (hk : k < 32) (h : opB B k y) : opB B (2 * k) (y &&& ((y.toUInt32 >>> ((nI k).toUInt32 &&& Int32.toUInt32 31)).toInt32)) := by
  intro i
  rw [b_and, b_ushr k hk, Bool.and_eq_true, h i, h (k + i)]
  constructor
  · rintro ⟨h1, h2⟩ c hc1 hc2
    by_cases e : c < i + k
    · exact h1 c hc1 e
    · exact h2 c (by omega) (by omega)
  · intro h1
    exact ⟨fun c hc1 hc2 => h1 c hc1 (by omega), fun c hc1 hc2 => h1 c (by omega) (by omega)⟩
def upB (P B : Nat → Bool) (k : Nat) (x : Int32) : Prop := ∀ i, i < 32 → (bt x i = true ↔ ∃ j, j ≤ i ∧ i - j < k ∧ P j = true ∧ ∀ c, j ≤ c → c < i → B c = true)
theorem upB1 {P B : Nat → Bool} {k : Nat} {x y : Int32} (hk : k < 32) (h1 : 1 ≤ k) (hx : upB P B k x) (hy : opB B k y) : upB P B (2 * k) (x ||| ((x &&& y) <<< (nI k &&& 31))) := by
  intro i hi
  rw [b_or, b_shl k hk _ hi, b_and, Bool.or_eq_true, Bool.and_eq_true, Bool.and_eq_true, decide_eq_true_eq, hx i hi]
  constructor
  · rintro (⟨j, q1, q2, q3, q4⟩ | ⟨q0, q1, q2⟩)
    · exact ⟨j, q1, by omega, q3, q4⟩
    · obtain ⟨j, r1, r2, r3, r4⟩ := (hx (i - k) (by omega)).mp q1
      refine ⟨j, by omega, by omega, r3, fun c c1 c2 => ?_⟩
      by_cases e : c < i - k
      · exact r4 c c1 e
      · exact (hy (i - k)).mp q2 c (by omega) (by omega)
  · rintro ⟨j, q1, q2, q3, q4⟩
    by_cases e : i - j < k
    · exact Or.inl ⟨j, q1, e, q3, q4⟩
    · refine Or.inr ⟨by omega, (hx (i - k) (by omega)).mpr ⟨j, by omega, by omega, q3, fun c c1 c2 => q4 c c1 (by omega)⟩, (hy (i - k)).mpr (fun c c1 c2 => q4 c (by omega) (by omega))⟩
def dnB (P B : Nat → Bool) (k : Nat) (x : Int32) : Prop := ∀ i, (bt x i = true ↔ ∃ j, i ≤ j ∧ j - i < k ∧ P j = true ∧ ∀ c, i ≤ c → c < j → B c = true)
theorem dnB1 {P B : Nat → Bool} {k : Nat} {x y : Int32} (hk : k < 32) (h1 : 1 ≤ k) (hx : dnB P B k x) (hy : opB B k y) : dnB P B (2 * k) (x ||| (((x.toUInt32 >>> ((nI k).toUInt32 &&& Int32.toUInt32 31)).toInt32) &&& y)) := by
  intro i
  rw [b_or, b_and, b_ushr k hk, Bool.or_eq_true, Bool.and_eq_true, hx i]
  constructor
  · rintro (⟨j, q1, q2, q3, q4⟩ | ⟨q1, q2⟩)
    · exact ⟨j, q1, by omega, q3, q4⟩
    · obtain ⟨j, r1, r2, r3, r4⟩ := (hx (k + i)).mp q1
      refine ⟨j, by omega, by omega, r3, fun c c1 c2 => ?_⟩
      by_cases e : c < i + k
      · exact (hy i).mp q2 c c1 e
      · exact r4 c (by omega) c2
  · rintro ⟨j, q1, q2, q3, q4⟩
    by_cases e : j - i < k
    · exact Or.inl ⟨j, q1, e, q3, q4⟩
    · refine Or.inr ⟨(hx (k + i)).mpr ⟨j, by omega, by omega, q3, fun c c1 c2 => q4 c (by omega) c2⟩, (hy i).mpr (fun c c1 c2 => q4 c c1 (by omega))⟩
theorem op0 (y : Int32) : opB (bt y) 1 y := fun i => ⟨fun h c c1 c2 => by rw [show c = i by omega]; exact h, fun h => h i (Nat.le_refl _) (by omega)⟩
theorem up0 (x : Int32) (B : Nat → Bool) : upB (bt x) B 1 x := fun i _ => ⟨fun h => ⟨i, Nat.le_refl _, by omega, h, fun c c1 c2 => absurd c2 (by omega)⟩, fun ⟨j, q1, q2, q3, _⟩ => by rw [show i = j by omega]; exact q3⟩
theorem dn0 (x : Int32) (B : Nat → Bool) : dnB (bt x) B 1 x := fun i => ⟨fun h => ⟨i, Nat.le_refl _, by omega, h, fun c c1 c2 => absurd c2 (by omega)⟩, fun ⟨j, q1, q2, q3, _⟩ => by rw [show i = j by omega]; exact q3⟩
theorem spUp {x y : Int32} {s : St} (hy : ∀ i, 12 ≤ i → bt y i = false) : ∃ z, f_X3_spreadUp x y s = some (z, s) ∧ ∀ i, i < 32 → (bt z i = true ↔ upP (bt x) (bt y) i) := by
  unfold f_X3_spreadUp
  rw [show FU = (4091 + 1 + 1 + 1 + 1 + 1) from rfl, show f_X3_spreadUp_7 (4091 + 1 + 1 + 1 + 1 + 1) x y 1 s = f_X3_spreadUp_7 (4091 + 1 + 1 + 1 + 1 + 1) x y (nI (2 ^ 0)) s from rfl, up1 (by omega), up1 (by omega), up1 (by omega), up1 (by omega)]
  have a1 := op1 (k := 2 ^ 0) (by decide) (op0 y)
  have a2 := op1 (k := 2 ^ 1) (by decide) a1
  have a3 := op1 (k := 2 ^ 2) (by decide) a2
  have b1 := upB1 (k := 2 ^ 0) (by decide) (by decide) (up0 x (bt y)) (op0 y)
  have b2 := upB1 (k := 2 ^ 1) (by decide) (by decide) b1 a1
  have b3 := upB1 (k := 2 ^ 2) (by decide) (by decide) b2 a2
  have b4 := upB1 (k := 2 ^ 3) (by decide) (by decide) b3 a3
  rw [show f_X3_spreadUp_7 = f_X3_spreadUp_7 from rfl, f_X3_spreadUp_7, if_pos (by decide)]
  refine ⟨_, rfl, fun i hi => (b4 i hi).trans ⟨fun ⟨j, q1, _, q3, q4⟩ => ⟨j, q1, q3, q4⟩, fun ⟨j, q1, q3, q4⟩ => ⟨j, q1, ?_, q3, q4⟩⟩⟩
  by_cases e : i ≤ 12
  · show i - j < 16
    omega
  · by_cases e2 : j = i
    · show i - j < 16
      omega
    · have := q4 (i - 1) (by omega) (by omega)
      rw [hy (i - 1) (by omega)] at this
      cases this
theorem spDn {x y : Int32} {s : St} (hx : ∀ i, 13 ≤ i → bt x i = false) : ∃ z, f_X3_spreadDown x y s = some (z, s) ∧ ∀ i, (bt z i = true ↔ dnP (bt x) (bt y) i) := by
  unfold f_X3_spreadDown
  rw [show FU = (4091 + 1 + 1 + 1 + 1 + 1) from rfl, show f_X3_spreadDown_7 (4091 + 1 + 1 + 1 + 1 + 1) x y 1 s = f_X3_spreadDown_7 (4091 + 1 + 1 + 1 + 1 + 1) x y (nI (2 ^ 0)) s from rfl, dn1 (by omega), dn1 (by omega), dn1 (by omega), dn1 (by omega)]
  have a1 := op1 (k := 2 ^ 0) (by decide) (op0 y)
  have a2 := op1 (k := 2 ^ 1) (by decide) a1
  have a3 := op1 (k := 2 ^ 2) (by decide) a2
  have b1 := dnB1 (k := 2 ^ 0) (by decide) (by decide) (dn0 x (bt y)) (op0 y)
  have b2 := dnB1 (k := 2 ^ 1) (by decide) (by decide) b1 a1
  have b3 := dnB1 (k := 2 ^ 2) (by decide) (by decide) b2 a2
  have b4 := dnB1 (k := 2 ^ 3) (by decide) (by decide) b3 a3
  rw [f_X3_spreadDown_7, if_pos (by decide)]
  refine ⟨_, rfl, fun i => (b4 i).trans ⟨fun ⟨j, q1, _, q3, q4⟩ => ⟨j, q1, q3, q4⟩, fun ⟨j, q1, q3, q4⟩ => ⟨j, q1, ?_, q3, q4⟩⟩⟩
  by_cases e : j < 13
  · show j - i < 16
    omega
  · rw [hx j (by omega)] at q3
    cases q3
theorem stretch {x : Int32} {z : Nat} {s : St} (hz : 1 ≤ z) (hz2 : z ≤ 12) : ∃ y, f_X3_stretches x (nI z) s = some (y, s) ∧ opB (bt x) z y := by
  have loop : ∀ (m k fu : Nat) (y : Int32), z - k = m → 1 ≤ k → k ≤ z → m < fu → opB (bt x) k y → ∃ y', f_X3_stretches_4 fu x (nI z) y (nI k) s = some (y', s) ∧ opB (bt x) z y' := by
    intro m
    induction m with
    | zero =>
      intro k fu y h1 h2 h3 h4 h5
      obtain ⟨fu, rfl⟩ : ∃ z, fu = z + 1 := ⟨fu - 1, by omega⟩
      obtain rfl : k = z := by omega
      exact ⟨y, by rw [f_X3_stretches_4, if_pos (nI_le (Nat.le_refl _) (by omega))], h5⟩
    | succ m ih =>
      intro k fu y h1 h2 h3 h4 h5
      obtain ⟨fu, rfl⟩ : ∃ z, fu = z + 1 := ⟨fu - 1, by omega⟩
      rw [f_X3_stretches_4, if_neg (nI_ge (by omega) (by omega)), obs, nI_1]
      refine ih (k + 1) fu _ (by omega) (by omega) (by omega) (by omega) (fun i => ?_)
      rw [b_and, b_ushr k (by omega), Bool.and_eq_true, h5 i]
      constructor
      · rintro ⟨q1, q2⟩ c c1 c2
        by_cases e : c < i + k
        · exact q1 c c1 e
        · rw [show c = k + i by omega]; exact q2
      · intro q
        exact ⟨fun c c1 c2 => q c c1 (by omega), q (k + i) (by omega) (by omega)⟩
  unfold f_X3_stretches
  rw [n1]
  exact loop (z - 1) 1 FU x rfl (by omega) hz (by unfold FU; omega) (op0 x)
theorem coverB {x : Int32} {z : Nat} {s : St} (hz2 : z ≤ 12) : ∃ y, f_X3_cover x (nI z) s = some (y, s) ∧ ∀ i, i < 32 → (bt y i = true ↔ ∃ b, b ≤ i ∧ i < b + z ∧ bt x b = true) := by
  have loop : ∀ (m k fu : Nat) (y : Int32), z - k = m → k ≤ z → m < fu → (∀ i, i < 32 → (bt y i = true ↔ ∃ b, b ≤ i ∧ i < b + k ∧ bt x b = true)) → ∃ y', f_X3_cover_4 fu x (nI z) y (nI k) s = some (y', s) ∧ ∀ i, i < 32 → (bt y' i = true ↔ ∃ b, b ≤ i ∧ i < b + z ∧ bt x b = true) := by
    intro m
    induction m with
    | zero =>
      intro k fu y h1 h3 h4 h5
      obtain ⟨fu, rfl⟩ : ∃ z, fu = z + 1 := ⟨fu - 1, by omega⟩
      obtain rfl : k = z := by omega
      exact ⟨y, by rw [f_X3_cover_4, if_pos (nI_le (Nat.le_refl _) (by omega))], h5⟩
    | succ m ih =>
      intro k fu y h1 h3 h4 h5
      obtain ⟨fu, rfl⟩ : ∃ z, fu = z + 1 := ⟨fu - 1, by omega⟩
      rw [f_X3_cover_4, if_neg (nI_ge (by omega) (by omega)), nI_1]
      refine ih (k + 1) fu _ (by omega) (by omega) (by omega) (fun i hi => ?_)
      rw [b_or, b_shl k (by omega) _ hi, Bool.or_eq_true, Bool.and_eq_true, decide_eq_true_eq, h5 i hi]
      constructor
      · rintro (⟨b, q1, q2, q3⟩ | ⟨q1, q2⟩)
        · exact ⟨b, q1, by omega, q3⟩
        · exact ⟨i - k, by omega, by omega, q2⟩
      · rintro ⟨b, q1, q2, q3⟩
        by_cases e : i < b + k
        · exact Or.inl ⟨b, q1, e, q3⟩
        · exact Or.inr ⟨by omega, by rw [show i - k = b by omega]; exact q3⟩
  unfold f_X3_cover
  rw [n0]
  exact loop z 0 FU (nI 0) rfl (by omega) (by unfold FU; omega) (fun i hi => ⟨fun h => (by rw [← n0, b_0] at h; exact Bool.noConfusion h), fun ⟨b, q1, q2, _⟩ => (by omega)⟩)
theorem b_4095 (i : Nat) : bt 4095 i = decide (i < 12) := by
  rcases Nat.lt_or_ge i 32 with h | h
  · exact (by decide +kernel : ∀ i, i < 32 → bt 4095 i = decide (i < 12)) i h
  · rw [b_big h, decide_eq_false (by omega)]
theorem cellsW {x : Int64} {v : Nat} {s : St} (hv : v < 4) : ∃ y, f_X3_cellsWith x (nI v) s = some (y, s) ∧ ∀ i, bt y i = (decide (i < 12) && jb x (12 * v + i)) := by
  unfold f_X3_cellsWith
  rw [n12, pk_mul]
  refine ⟨_, rfl, fun i => ?_⟩
  rw [b_and, bj_l2i, j_ushr (12 * v) (by omega), b_4095]
  by_cases h : i < 12
  · simp [h, show i < 32 by omega]
  · simp [h]
