/-! bitCount of a window of 12 bits -/
def bcN (a : Nat) : Nat :=
  let x1 := a - ((a >>> 1) &&& 1431655765)
  let x2 := (x1 &&& 858993459) + ((x1 >>> 2) &&& 858993459)
  let x3 := (x2 + (x2 >>> 4)) &&& 252645135
  let x4 := x3 + (x3 >>> 8)
  let x5 := x4 + (x4 >>> 16)
  x5 &&& 63
def cnt12 (M : Nat) : Nat := smL (fun p => M / 2 ^ p % 2) 12
theorem bcN_win : ∀ b, b < 13 → ∀ a, a < 64 → ∀ c, c < 64 → Nat.beq (bcN ((64 * a + c) * 2 ^ b)) (cnt12 (64 * a + c)) = true := by decide +kernel
theorem nx_ush' {n k : Nat} (hn : n < 2 ^ 32) (hk : k < 32) : ((nI n).toUInt32 >>> ((nI k).toUInt32 &&& Int32.toUInt32 31)).toInt32 = nI (n >>> k) := by
  refine b_ext (fun i hi => ?_)
  rw [b_ushr k hk, b_nI, b_nI, Nat.testBit_shiftRight, decide_eq_true hi, Bool.true_and]
  by_cases c : k + i < 32
  · rw [decide_eq_true c, Bool.true_and]
  · rw [decide_eq_false c, Bool.false_and, Nat.testBit_lt_two_pow (Nat.lt_of_lt_of_le hn (Nat.pow_le_pow_right (by decide) (by omega)))]
theorem bcV_N {n : Nat} (hn : n < 2 ^ 32) : bcV (nI n) = nI (bcN n) := by
  have h1 : (n >>> 1) &&& 1431655765 ≤ n := Nat.le_trans Nat.and_le_left (by rw [Nat.shiftRight_eq_div_pow]; exact Nat.div_le_self _ _)
  unfold bcV bcN
  simp only []
  have e1 : nI n - (((nI n).toUInt32 >>> ((1 : Int32).toUInt32 &&& Int32.toUInt32 31)).toInt32 &&& (1431655765 : Int32)) = nI (n - ((n >>> 1) &&& 1431655765)) := by
    rw [show (1 : Int32) = nI 1 from rfl, show (1431655765 : Int32) = nI 1431655765 from rfl, nx_ush' hn (by decide), nx_and, pk_sub h1]
  rw [e1]
  have h2 : n - ((n >>> 1) &&& 1431655765) < 2 ^ 32 := by omega
  revert h2
  generalize n - ((n >>> 1) &&& 1431655765) = y1
  intro h2
  have e2 : (nI y1 &&& (858993459 : Int32)) + (((nI y1).toUInt32 >>> ((2 : Int32).toUInt32 &&& Int32.toUInt32 31)).toInt32 &&& (858993459 : Int32)) = nI ((y1 &&& 858993459) + ((y1 >>> 2) &&& 858993459)) := by
    rw [show (2 : Int32) = nI 2 from rfl, show (858993459 : Int32) = nI 858993459 from rfl, nx_ush' h2 (by decide), nx_and, nx_and, nI_add]
  rw [e2]
  have h3 : (y1 &&& 858993459) + ((y1 >>> 2) &&& 858993459) < 2 ^ 32 := by
    have a1 : y1 &&& 858993459 ≤ 858993459 := Nat.and_le_right
    have a2 : (y1 >>> 2) &&& 858993459 ≤ 858993459 := Nat.and_le_right
    omega
  revert h3
  generalize (y1 &&& 858993459) + ((y1 >>> 2) &&& 858993459) = y2
  intro h3
  have e3 : (nI y2 + ((nI y2).toUInt32 >>> ((4 : Int32).toUInt32 &&& Int32.toUInt32 31)).toInt32) &&& (252645135 : Int32) = nI ((y2 + (y2 >>> 4)) &&& 252645135) := by
    rw [show (4 : Int32) = nI 4 from rfl, show (252645135 : Int32) = nI 252645135 from rfl, nx_ush' h3 (by decide), nI_add, nx_and]
  rw [e3]
  have h4 : (y2 + (y2 >>> 4)) &&& 252645135 ≤ 252645135 := Nat.and_le_right
  revert h4
  generalize (y2 + (y2 >>> 4)) &&& 252645135 = y3
  intro h4
  have e4 : nI y3 + ((nI y3).toUInt32 >>> ((8 : Int32).toUInt32 &&& Int32.toUInt32 31)).toInt32 = nI (y3 + (y3 >>> 8)) := by
    rw [show (8 : Int32) = nI 8 from rfl, nx_ush' (by omega) (by decide), nI_add]
  rw [e4]
  have h5 : y3 + (y3 >>> 8) < 2 ^ 32 := by
    have : y3 >>> 8 ≤ y3 := by rw [Nat.shiftRight_eq_div_pow]; exact Nat.div_le_self _ _
    omega
  revert h5
  generalize y3 + (y3 >>> 8) = y4
  intro h5
  rw [show (16 : Int32) = nI 16 from rfl, nx_ush' h5 (by decide), nI_add, show (63 : Int32) = nI 63 from rfl, nx_and]
theorem cnt12_sm {M : Nat} (f : Nat → Nat) {n : Nat} (hn : n ≤ 12) (hM : ∀ p, p < 12 → M.testBit p = decide (p < n ∧ f p = 1)) (hf : ∀ p, p < n → f p = 0 ∨ f p = 1) : cnt12 M = smL f n := by
  have key : ∀ p, p < 12 → M / 2 ^ p % 2 = if p < n then f p else 0 := by
    intro p hp
    have := hM p hp
    rw [Nat.testBit_eq_decide_div_mod_eq, Bool.eq_iff_iff, decide_eq_true_eq, decide_eq_true_eq] at this
    have h2 : M / 2 ^ p % 2 < 2 := Nat.mod_lt _ (by decide)
    by_cases c : p < n
    · rw [if_pos c]
      rcases hf p c with h | h
      · rw [h] at this ⊢
        have : ¬ M / 2 ^ p % 2 = 1 := fun x => absurd (this.mp x).2 (by decide)
        omega
      · rw [h] at this ⊢
        exact this.mpr ⟨c, rfl⟩
    · rw [if_neg c]
      have : ¬ M / 2 ^ p % 2 = 1 := fun x => c (this.mp x).1
      omega
  have ext : smL (fun p => if p < n then f p else 0) 12 = smL f n := by
    have := smL_add (fun p => if p < n then f p else 0) n (12 - n)
    rw [show n + (12 - n) = 12 by omega, smL_zero (f := fun j => if n + j < n then f (n + j) else 0) (12 - n) (fun j _ => if_neg (by omega)), Nat.add_zero] at this
    rw [this]
    exact smL_congr n (fun j hj => if_pos hj)
  rw [← ext]
  exact smL_congr 12 key
/-- bitCount of a word with bits b .. b + n -/
theorem bc_win {x : Int32} {b n : Nat} (f : Nat → Nat) (hb : b < 13) (hn : n ≤ 12) (hf : ∀ p, p < n → f p = 0 ∨ f p = 1) (hx : ∀ i, i < 32 → (bt x i = true ↔ ∃ p, p < n ∧ i = b + p ∧ f p = 1)) : bcV x = nI (smL f n) := by
  obtain ⟨X, hX, rfl⟩ := wb_of32 x
  have hbit : ∀ i, X.testBit i = decide (b ≤ i ∧ i < b + n ∧ f (i - b) = 1) := by
    intro i
    rw [Bool.eq_iff_iff, decide_eq_true_eq]
    rcases Nat.lt_or_ge i 32 with h | h
    · have := hx i h
      rw [b_nI, decide_eq_true h, Bool.true_and] at this
      rw [this]
      constructor
      · rintro ⟨p, p1, p2, p3⟩
        exact ⟨by omega, by omega, by rw [p2, show b + p - b = p by omega]; exact p3⟩
      · rintro ⟨p1, p2, p3⟩
        exact ⟨i - b, by omega, by omega, p3⟩
    · rw [Nat.testBit_lt_two_pow (Nat.lt_of_lt_of_le hX (Nat.pow_le_pow_right (by decide) h))]
      constructor
      · intro q
        cases q
      · intro q
        omega
  have hM12 : X / 2 ^ b < 2 ^ 12 := by
    apply Nat.lt_pow_two_of_testBit
    intro i hi
    rw [Nat.testBit_div_two_pow, hbit]
    exact decide_eq_false (by omega)
  have hXM : X = X / 2 ^ b * 2 ^ b := by
    apply Nat.eq_of_testBit_eq
    intro i
    rw [Nat.testBit_mul_two_pow, Nat.testBit_div_two_pow]
    by_cases c : b ≤ i
    · rw [decide_eq_true c, Bool.true_and, show i - b + b = i by omega]
    · rw [decide_eq_false c, Bool.false_and, hbit]
      exact decide_eq_false (by omega)
  rw [bcV_N hX]
  congr 1
  have := bcN_win b hb (X / 2 ^ b / 64) (by omega) (X / 2 ^ b % 64) (Nat.mod_lt _ (by decide))
  rw [show 64 * (X / 2 ^ b / 64) + X / 2 ^ b % 64 = X / 2 ^ b by omega, ← hXM] at this
  rw [Nat.eq_of_beq_eq_true this]
  refine cnt12_sm f hn (fun p hp => ?_) hf
  rw [Nat.testBit_div_two_pow, hbit]
  congr 1
  apply propext
  constructor
  · rintro ⟨a1, a2, a3⟩
    exact ⟨by omega, by rw [show p + b - b = p by omega] at a3; exact a3⟩
  · rintro ⟨a1, a2⟩
    exact ⟨by omega, by omega, by rw [show p + b - b = p by omega]; exact a2⟩
