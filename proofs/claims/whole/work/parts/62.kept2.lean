theorem dec_nI (k : Nat) : nI k + (-1) = nI k - 1 := (Int32.sub_eq_add_neg _ _).symm
theorem nneg0 {k : Nat} (h : k < 2 ^ 31) : ¬ nI k < 0 := Int32.not_lt.mpr (nI_pos' h)
section Kept2
variable {W H C l n R : Nat} {len col mk : Nat → Nat} {x : Int64}
theorem jb_low {z : Int32} (h : ∀ i, 12 ≤ i → bt z i = false) {i : Nat} (hi : i < 64) : jb z.toInt64 i = (decide (i < 12) && bt z i) := by
  rw [jb_i2l z hi, h 31 (by omega)]
  by_cases c : i < 12
  · rw [if_pos (by omega), decide_eq_true c, Bool.true_and]
  · rw [decide_eq_false c, Bool.false_and, h i (by omega)]
    split <;> rfl
/-- the word of the blanks between run k - 1 and run k -/
theorem blankW {k : Nat} {a y z : Int32} (hn : n ≤ 12) (hy : ∀ c, bt y c = canM n mk c 0) (hz : Aft n R len col mk k z) (ha : ∀ i, i < 32 → (bt a i = true ↔ Bp len col (canM n mk) k i)) (i : Nat) (hi : i < 64) : jb ((a &&& ((z.toUInt32 >>> ((1 : Int32).toUInt32 &&& Int32.toUInt32 31)).toInt32)) &&& y).toInt64 i = true ↔ i < 12 ∧ Bp len col (canM n mk) k i ∧ canM n mk i 0 = true ∧ Tn n R len col (canM n mk) k (i + 1) := by
  have hs : ((1 : Int32).toUInt32 &&& Int32.toUInt32 31) = ((nI 1).toUInt32 &&& Int32.toUInt32 31) := rfl
  have hb : ∀ i, 12 ≤ i → bt ((a &&& ((z.toUInt32 >>> ((1 : Int32).toUInt32 &&& Int32.toUInt32 31)).toInt32)) &&& y) i = false := fun i hi => by
    rw [b_and, hy i]
    have : ¬ i < n := by omega
    simp [canM, this]
  rw [jb_low hb hi, Bool.and_eq_true, decide_eq_true_eq, b_and, b_and, Bool.and_eq_true, Bool.and_eq_true, hs, b_ushr 1 (by omega), hy]
  constructor
  · rintro ⟨h1, ⟨h2, h3⟩, h4⟩
    have h5 := (ha i (by omega)).mp h2
    exact ⟨h1, h5, h4, (hz.2.2 i (canM_n h4) h5 h4).mp (by rw [Nat.add_comm]; exact h3)⟩
  · rintro ⟨h1, h2, h4, h5⟩
    exact ⟨h1, ⟨(ha i (by omega)).mpr h2, by rw [Nat.add_comm]; exact (hz.2.2 i (canM_n h4) h2 h4).mpr h5⟩, h4⟩
theorem kBl_S {k c : Nat} (hk : k < R) : kBl n R len col mk k c ↔ (Bp len col (canM n mk) k c ∧ canM n mk c 0 = true ∧ Tn n R len col (canM n mk) k (c + 1)) ∨ kBl n R len col mk (k + 1) c := by
  constructor
  · rintro ⟨j, h1, h2, h3⟩
    by_cases e : j = k
    · subst e
      exact Or.inl h3
    · exact Or.inr ⟨j, by omega, h2, h3⟩
  · rintro (h | ⟨j, h1, h2, h3⟩)
    · exact ⟨k, Nat.le_refl _, by omega, h⟩
    · exact ⟨j, by omega, h2, h3⟩
theorem kCo_S {k v c : Nat} (hk : k < R) : kCo n R len col mk k v c ↔ (col k = v ∧ ∃ a, Sp len col (canM n mk) k a ∧ a ≤ c ∧ c < a + len k ∧ Tq n R len col (canM n mk) (k + 1) (a + len k)) ∨ kCo n R len col mk (k + 1) v c := by
  constructor
  · rintro ⟨j, h1, h2, h3⟩
    by_cases e : j = k
    · subst e
      exact Or.inl h3
    · exact Or.inr ⟨j, by omega, h2, h3⟩
  · rintro (h | ⟨j, h1, h2, h3⟩)
    · exact ⟨k, Nat.le_refl _, by omega, h⟩
    · exact ⟨j, by omega, h2, h3⟩
theorem kept210 {s : St} {y : Int32} (hK : Kc s W H C l n R len col) (hy : ∀ c, bt y c = canM n mk c 0) (hf : fwd n R len col mk s R) : ∀ (k fu : Nat) (z : Int32) (kp : Int64), k ≤ R → k < fu → Aft n R len col mk k z → kpt n R len col mk k kp → ∃ kp', f_X3_keptOf_210 fu (nI l) y z kp (nI k - 1) s = some (kp', s) ∧ kpt n R len col mk 0 kp' := by
  intro k
  induction k with
  | zero =>
    intro fu z kp h1 h2 h3 h4
    obtain ⟨fu, rfl⟩ : ∃ z, fu = z + 1 := ⟨fu - 1, by omega⟩
    refine ⟨kp, ?_, h4⟩
    rw [f_X3_keptOf_210, if_pos (by decide)]
  | succ k ih =>
    intro fu z kp h1 h2 h3 h4
    obtain ⟨fu, rfl⟩ : ∃ z, fu = z + 1 := ⟨fu - 1, by omega⟩
    have hn := hK.le12
    have hK' := hK
    obtain ⟨hz, hl, hnn, hR, k4, k5⟩ := hK'
    have hk : k < R := by omega
    obtain ⟨q1, q2, q3, q4⟩ := k5 k hk
    have hlen : ∀ k, k < R → 1 ≤ len k := fun k hk => (k5 k hk).1.1
    have hle : ∀ k, k < R → len k ≤ 12 := fun k hk => (k5 k hk).1.2
    have go : ∀ t0 : Int32, (∀ e, e ≤ n → En len col (canM n mk) (k + 1) e → (bt t0 e = true ↔ Tq n R len col (canM n mk) (k + 1) e)) → ∃ kp', f_X3_keptOf_254 (f_X3_keptOf_210 fu) (nI l) y kp (nI k) (nI (len k)) t0 s = some (kp', s) ∧ kpt n R len col mk 0 kp' := by
      intro t0 ht0
      unfold f_X3_keptOf_254
      rw [aI_nI rfl (by show k < 12; omega) (by decide), obs, obs]
      generalize hx2 : (s.1 18 k &&& ((t0.toUInt32 >>> ((nI (len k)).toUInt32 &&& Int32.toUInt32 31)).toInt32)) = x2
      have e2 : ∀ a, bt x2 a = true ↔ (Sp len col (canM n mk) k a ∧ Tq n R len col (canM n mk) (k + 1) (a + len k)) := by
        intro a
        rw [← hx2, b_and, Bool.and_eq_true, b_ushr (len k) (by omega), Nat.add_comm (len k) a]
        constructor
        · rintro ⟨w1, w2⟩
          have ha : a < 32 := by
            rcases Nat.lt_or_ge a 32 with h | h
            · exact h
            · rw [b_big h] at w1; cases w1
          have w3 := (hf.2 k hk a ha).mp w1
          exact ⟨w3, (ht0 _ (Sp_le hlen hk w3) ⟨a, w3, rfl⟩).mp w2⟩
        · rintro ⟨w1, w2⟩
          have ha := Sp_le hlen hk w1
          exact ⟨(hf.2 k hk a (by omega)).mpr w1, (ht0 _ ha ⟨a, w1, rfl⟩).mpr w2⟩
      have x13 : ∀ i, 13 ≤ i → bt x2 i = false := fun i hi => by
        cases hb : bt x2 i
        · rfl
        · have := Sp_le hlen hk ((e2 i).mp hb).1
          omega
      obtain ⟨cv, c1, c2⟩ := coverB (x := x2) (z := len k) (s := s) q1.2
      obtain ⟨z', d1, d2⟩ := spDn (x := x2) (y := y) (s := s) x13
      have hA := Aft_step hk hn.2.1 hle hlen hy e2 d2
      rw [c1, obs]
      show ∃ kp', Option.bind (f_X0_colourOf 3 (nI l) (nI k) s) _ = _ ∧ _
      rw [colourOf0 rfl rfl rfl (by omega), obs, show rf 3 2 = 6 from rfl, q4, obs]
      show ∃ kp', Option.bind (f_X3_spreadDown x2 y s) _ = _ ∧ _
      rw [d1, obs]
      show ∃ kp', Option.bind (aI s 17 (nI k)) _ = _ ∧ _
      rw [aI_nI rfl (by show k < 13; omega) (by decide), obs, obs]
      have hc12 : ∀ i, 12 ≤ i → bt cv i = false := fun i hi => by
        rcases Nat.lt_or_ge i 32 with h | h
        · cases hb : bt cv i
          · rfl
          · obtain ⟨b, b1, b2, b3⟩ := (c2 i h).mp hb
            have := Sp_le hlen hk ((e2 b).mp b3).1
            omega
        · exact b_big h
      have hkp : kpt n R len col mk k (kp ||| (cv.toInt64 <<< (((12 : Int32) * nI (col k)).toInt64 &&& 63)) ||| (((s.1 17 k &&& ((z'.toUInt32 >>> ((1 : Int32).toUInt32 &&& Int32.toUInt32 31)).toInt32)) &&& y).toInt64)) := by
        intro i hi
        rw [j_or, j_or, Bool.or_eq_true, Bool.or_eq_true, h4 i hi, blankW hn.2.1 hy hA (hf.1 k (by omega)) i hi, n12, pk_mul, j_shl (12 * col k) (by omega) _ hi, Bool.and_eq_true, decide_eq_true_eq, jb_low hc12 (by omega), Bool.and_eq_true, decide_eq_true_eq, kBl_S hk, kCo_S hk]
        constructor
        · rintro ((⟨w1, w2⟩ | ⟨w1, w2, w3⟩) | ⟨w1, w2⟩)
          · refine ⟨w1, ?_⟩
            rcases w2 with ⟨a1, a2⟩ | ⟨a1, a2⟩
            · exact Or.inl ⟨a1, Or.inr a2⟩
            · exact Or.inr ⟨a1, Or.inr a2⟩
          · refine ⟨by omega, Or.inr ⟨by omega, Or.inl ⟨by omega, ?_⟩⟩⟩
            obtain ⟨b, b1, b2, b3⟩ := (c2 (i - 12 * col k) (by omega)).mp w3
            obtain ⟨b4, b5⟩ := (e2 b).mp b3
            rw [show i % 12 = i - 12 * col k by omega]
            exact ⟨b, b4, b1, b2, b5⟩
          · refine ⟨by omega, Or.inl ⟨by omega, Or.inl ?_⟩⟩
            rw [show i % 12 = i by omega]
            exact w2
        · rintro ⟨w1, ⟨w2, (w3 | w3)⟩ | ⟨w2, (⟨w3, a, a1, a2, a3, a4⟩ | w3)⟩⟩
          · right
            rw [show i % 12 = i by omega] at w3
            exact ⟨by omega, w3⟩
          · exact Or.inl (Or.inl ⟨w1, Or.inl ⟨w2, w3⟩⟩)
          · refine Or.inl (Or.inr ⟨by omega, by omega, ?_⟩)
            rw [c2 (i - 12 * col k) (by omega), show i - 12 * col k = i % 12 by omega]
            exact ⟨a, a2, a3, (e2 a).mpr ⟨a1, a4⟩⟩
          · exact Or.inl (Or.inl ⟨w1, Or.inr ⟨w2, w3⟩⟩)
      obtain ⟨kp', f1, f2⟩ := ih fu z' _ (by omega) (by omega) hA hkp
      rw [← dec_nI k] at f1
      exact ⟨kp', f1, f2⟩
    rw [f_X3_keptOf_210, nI_sub1 (by omega), show k + 1 - 1 = k from rfl, if_neg (nneg0 (by omega)), lengthOf0 rfl rfl rfl (by omega), obs, show rf 3 1 = 5 from rfl, q3]
    show ∃ kp', Option.bind (f_X0_needsGapAhead 3 (nI l) (nI k + 1) s) _ = _ ∧ _
    rw [nI_1, gap0 hK h1, obs]
    by_cases g : k + 1 < R ∧ gapR col (k + 1) = 1
    · rw [if_pos g, if_neg nz]
      refine go _ (fun e he hE => ?_)
      have := h3.2.1 e he hE
      rw [if_pos g] at this
      rw [← this, b_and, Bool.and_eq_true, show ((1 : Int32).toUInt32 &&& Int32.toUInt32 31) = ((nI 1).toUInt32 &&& Int32.toUInt32 31) from rfl, b_ushr 1 (by omega), hy, Nat.add_comm 1 e]
      exact ⟨fun q => ⟨q.2, q.1⟩, fun q => ⟨q.2, q.1⟩⟩
    · rw [if_neg g, if_pos rfl]
      refine go _ (fun e he hE => ?_)
      have := h3.2.1 e he hE
      rw [if_neg g] at this
      exact this
/-- what the LINE RULE keeps -/
theorem keptOf3 {s : St} (hK : Kc s W H C l n R len col) (hx : ∀ i, i < 64 → jb x i = wbit mk n i) : ∃ kp s', f_X3_keptOf (nI l) x s = some (kp, s') ∧ KFr s s' ∧ ((∀ w, ¬ w ∈ wys n R len col (canM n mk) R 0) → kp = 0) ∧ ((∃ w, w ∈ wys n R len col (canM n mk) R 0) → ∀ i, i < 64 → (jb kp i = true ↔ (i % 12 < n ∧ i / 12 < 4 ∧ ∃ w, w ∈ wys n R len col (canM n mk) R 0 ∧ w (i % 12) = i / 12))) := by
  have hn := hK.le12
  have hK' := hK
  obtain ⟨hz, hl, hnn, hR, k4, k5⟩ := hK'
  have hlen : ∀ k, k < R → 1 ≤ len k := fun k hk => (k5 k hk).1.1
  have hle : ∀ k, k < R → len k ≤ 12 := fun k hk => (k5 k hk).1.2
  have hc1 : ∀ k, k < R → 1 ≤ col k := fun k hk => (k5 k hk).2.1.1
  have hcan : ∀ c v, canM n mk c v = true → c < n := fun c v h => canM_n h
  have hany := way_any hle hcan hlen (R := R) (col := col)
  obtain ⟨y, y1, y2⟩ := cellsW (x := x) (v := 0) (s := s) (by omega)
  have hy : ∀ c, bt y c = canM n mk c 0 := canM_bits (by omega) hn.2.1 hx y2
  have hy12 : ∀ i, 12 ≤ i → bt y i = false := fun i hi => by
    rw [hy i]
    have : ¬ i < n := by omega
    simp [canM, this]
  obtain ⟨b0, b1, b2⟩ := spUp (x := 1) (y := y) (s := s) hy12
  have hf0 : fwd n R len col mk (sF s 17 0 b0) 0 := by
    refine ⟨fun j hj i hi => ?_, fun j hj => absurd hj (by omega)⟩
    obtain rfl : j = 0 := by omega
    rw [sF_at, b2 i hi]
    constructor
    · rintro ⟨j, q1, q2, q3⟩
      rw [b_1, decide_eq_true_eq] at q2
      subst q2
      intro c c1 c2
      rw [← hy c]
      exact q3 c c1 c2
    · intro q
      exact ⟨0, Nat.zero_le _, by rw [b_1]; rfl, fun c c1 c2 => by rw [hy c]; exact q c c1 c2⟩
  obtain ⟨s', fu', e1, e2, e3⟩ := kept43 (x := x) hx hy R 0 FU (sF s 17 0 b0) (hK.fr KFr.s17) (by omega) (Nat.zero_le _) (by unfold FU; omega) hf0
  have fr : KFr s s' := KFr.s17.trans e2
  have hK2 := hK.fr fr
  unfold f_X3_keptOf
  rw [cellsOf0 hz (by omega), obs, ← hnn]
  show ∃ kp s', Option.bind (aI s 4 (nI l)) _ = _ ∧ _
  rw [aI_nI rfl (by show l < 24; omega) (by decide), obs, k4]
  show ∃ kp s', Option.bind (f_X3_cellsWith x (0 : Int32) s) _ = _ ∧ _
  rw [n0, y1, obs]
  show ∃ kp s', Option.bind (f_X3_spreadUp (1 : Int32) y s) _ = _ ∧ _
  rw [b1, obs]
  show ∃ kp s', Option.bind (pI s 17 (nI 0) b0) _ = _ ∧ _
  rw [pI_nI rfl (by show 0 < 13; omega) (by decide), obs, e1, f_X3_keptOf_43, if_pos (nI_le (Nat.le_refl _) (by omega)), aI_nI rfl (by show R < 13; omega) (by decide), obs]
  have tb : ((((s'.1 17 R).toUInt32 >>> ((nI n).toUInt32 &&& Int32.toUInt32 31)).toInt32) &&& (1 : Int32)) = 0 ↔ ¬ Bp len col (canM n mk) R n := by
    rw [← e3.1 R (Nat.le_refl _) n (by omega)]
    constructor
    · intro h hb
      have := congrArg (fun q => bt q 0) h
      rw [show bt (0 : Int32) 0 = false from rfl, b_and, b_ushr n (by omega), b_1] at this
      rw [Nat.add_zero, hb] at this
      cases this
    · intro h
      refine b_ext (fun i hi => ?_)
      rw [b_and, b_ushr n (by omega), b_1, b_0]
      by_cases e : i = 0
      · subst e
        rw [Nat.add_zero]
        cases hb : bt (s'.1 17 R) n
        · rfl
        · exact absurd hb h
      · rw [decide_eq_false e, Bool.and_false]
  by_cases c : Bp len col (canM n mk) R n
  · rw [if_neg (fun q => tb.mp q c)]
    have h1 : ∀ j, bt ((1 : Int32) <<< (nI n &&& 31)) j = decide (j = n) := by
      intro j
      rcases Nat.lt_or_ge j 32 with h | h
      · rw [b_shl n (by omega) _ h, b_1]
        by_cases e : j = n
        · simp [e]
        · by_cases e2 : n ≤ j
          · have : ¬ j - n = 0 := by omega
            simp [e, this]
          · simp [e, e2]
      · rw [b_big h, decide_eq_false (by omega)]
    obtain ⟨z, d1, d2⟩ := spDn (x := (1 : Int32) <<< (nI n &&& 31)) (y := y) (s := s') (fun i hi => by rw [h1, decide_eq_false (by omega)])
    have hA : Aft n R len col mk R z := Aft_R hn.2.1 hy d2
    rw [d1, obs]
    show ∃ kp s'', Option.bind (aI s' 17 (nI R)) _ = _ ∧ _
    rw [aI_nI rfl (by show R < 13; omega) (by decide), obs, obs]
    have hkp : kpt n R len col mk R (((s'.1 17 R &&& ((z.toUInt32 >>> ((1 : Int32).toUInt32 &&& Int32.toUInt32 31)).toInt32)) &&& y).toInt64) := by
      intro i hi
      rw [blankW hn.2.1 hy hA (e3.1 R (Nat.le_refl _)) i hi]
      constructor
      · rintro ⟨w1, w2⟩
        refine ⟨by omega, Or.inl ⟨by omega, R, Nat.le_refl _, Nat.le_refl _, ?_⟩⟩
        rw [show i % 12 = i by omega]
        exact w2
      · rintro ⟨w1, ⟨w2, j, j1, j2, w3⟩ | ⟨w2, j, j1, j2, w3⟩⟩
        · obtain rfl : j = R := by omega
          rw [show i % 12 = i by omega] at w3
          exact ⟨by omega, w3⟩
        · omega
    obtain ⟨kp, f1, f2⟩ := kept210 hK2 hy e3 R FU z _ (Nat.le_refl _) (by unfold FU; omega) hA hkp
    refine ⟨kp, s', by rw [show (1 : Int32) = nI 1 from rfl] at f1 ⊢; exact f1, fr, fun q => ?_, fun _ i hi => ?_⟩
    · obtain ⟨w, hw⟩ := hany.mpr c
      exact absurd hw (q w)
    · rw [f2 i hi]
      by_cases hi48 : i < 48
      · by_cases hc : i % 12 < n
        · by_cases hv : i / 12 = 0
          · constructor
            · rintro ⟨-, ⟨-, j, j1, j2, w3⟩ | ⟨w2, -⟩⟩
              · exact ⟨hc, by omega, by rw [hv]; exact (way_blank hle hcan hlen hc1 hc).mpr ⟨j, j2, w3⟩⟩
              · omega
            · rintro ⟨-, -, w, w1, w2⟩
              obtain ⟨j, j2, w3⟩ := (way_blank hle hcan hlen hc1 hc).mp ⟨w, w1, w2.trans hv⟩
              exact ⟨hi48, Or.inl ⟨hv, j, Nat.zero_le _, j2, w3⟩⟩
          · constructor
            · rintro ⟨-, ⟨w2, -⟩ | ⟨w2, j, j1, j2, j3, w3⟩⟩
              · omega
              · exact ⟨hc, by omega, (way_col hle hcan hlen hc1 hc w2).mpr ⟨j, j2, j3, w3⟩⟩
            · rintro ⟨-, -, w, w1, w2⟩
              obtain ⟨j, j2, j3, w3⟩ := (way_col hle hcan hlen hc1 hc (show 1 ≤ i / 12 by omega)).mp ⟨w, w1, w2⟩
              exact ⟨hi48, Or.inr ⟨by omega, j, Nat.zero_le _, j2, j3, w3⟩⟩
        · constructor
          · rintro ⟨-, ⟨-, j, j1, j2, w3, w4, -⟩ | ⟨-, j, j1, j2, j3, a, a1, a2, a3, -⟩⟩
            · exact absurd (canM_n w4) hc
            · exact absurd (canM_n (a1.2 _ a2 a3)) hc
          · rintro ⟨h, -⟩
            exact absurd h hc
      · constructor
        · rintro ⟨h, -⟩
          exact absurd h hi48
        · rintro ⟨-, h, -⟩
          omega
  · rw [if_pos (tb.mpr c)]
    refine ⟨0, s', rfl, fr, fun _ => rfl, fun q => absurd (hany.mp q) c⟩
end Kept2
