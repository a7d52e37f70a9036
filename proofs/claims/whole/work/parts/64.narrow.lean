/-! narrow: a line's word and those across it -/
theorem lg0 (x : Int64) : lg_cmp x 0 = 0 ↔ x = 0 := by
  unfold lg_cmp
  by_cases h : x > 0
  · rw [if_pos h]
    exact ⟨fun q => absurd q (by decide), fun q => by rw [q] at h; exact absurd h (by decide)⟩
  · rw [if_neg h]
    by_cases h2 : x = 0
    · rw [if_pos h2]
      exact ⟨fun _ => h2, fun _ => rfl⟩
    · rw [if_neg h2]
      exact ⟨fun q => absurd q (by decide), fun q => absurd q h2⟩
theorem j_zero {x : Int64} : x = 0 ↔ ∀ i, i < 64 → jb x i = false :=
  ⟨fun h i _ => by rw [h, j_0], fun h => j_ext (fun i hi => by rw [h i hi, j_0])⟩
def cellD (d : Int64) (p : Nat) : Prop := ∃ v, v < 4 ∧ jb d (12 * v + p) = true
theorem x3_bits {d : Int64} {p : Nat} (hp : p < 12) (j : Nat) : jb (((d.toUInt64 >>> ((nI p).toInt64.toUInt64 &&& Int64.toUInt64 63)).toInt64) &&& (68736258049 : Int64)) j = (jb d (p + j) && decide (j = 0 ∨ j = 12 ∨ j = 24 ∨ j = 36)) := by
  rw [j_and, j_ushr p (by omega), j_cell]
theorem x3_zero {d : Int64} {p : Nat} (hp : p < 12) : (((d.toUInt64 >>> ((nI p).toInt64.toUInt64 &&& Int64.toUInt64 63)).toInt64) &&& (68736258049 : Int64)) = 0 ↔ ¬ cellD d p := by
  rw [j_zero]
  constructor
  · rintro h ⟨v, v1, v2⟩
    have := h (12 * v) (by omega)
    rw [x3_bits hp, show p + 12 * v = 12 * v + p by omega, v2, decide_eq_true (by omega)] at this
    cases this
  · intro h i hi
    rw [x3_bits hp]
    by_cases c : i = 0 ∨ i = 12 ∨ i = 24 ∨ i = 36
    · cases hb : jb d (p + i)
      · rfl
      · exact absurd ⟨i / 12, by omega, by rw [show 12 * (i / 12) + p = p + i by omega]; exact hb⟩ h
    · rw [decide_eq_false c, Bool.and_false]
theorem x3_shl {d : Int64} {p z i : Nat} (hp : p < 12) (hz : z < 12) (hi : i < 64) : jb ((((d.toUInt64 >>> ((nI p).toInt64.toUInt64 &&& Int64.toUInt64 63)).toInt64) &&& (68736258049 : Int64)) <<< ((nI z).toInt64 &&& 63)) i = (decide (i % 12 = z ∧ i / 12 < 4) && jb d (12 * (i / 12) + p)) := by
  rw [j_shl z (by omega) _ hi, x3_bits hp]
  by_cases c : i % 12 = z ∧ i / 12 < 4
  · rw [decide_eq_true c, decide_eq_true (show z ≤ i by omega), decide_eq_true (show i - z = 0 ∨ i - z = 12 ∨ i - z = 24 ∨ i - z = 36 by omega), Bool.and_true, show p + (i - z) = 12 * (i / 12) + p by omega]
  · rw [decide_eq_false c]
    by_cases c2 : z ≤ i
    · rw [decide_eq_false (show ¬ (i - z = 0 ∨ i - z = 12 ∨ i - z = 24 ∨ i - z = 36) by omega), Bool.and_false, Bool.and_false, Bool.false_and]
    · rw [decide_eq_false c2, Bool.false_and, Bool.false_and]
theorem b_shl1 {k i : Nat} (hk : k < 32) (hi : i < 32) : bt ((1 : Int32) <<< (nI k &&& 31)) i = decide (i = k) := by
  rw [b_shl k hk _ hi, b_1]
  by_cases e : i = k
  · subst e; simp
  · by_cases e2 : k ≤ i
    · rw [decide_eq_false (show ¬ i - k = 0 by omega), decide_eq_false e, Bool.and_false]
    · rw [decide_eq_false e2, decide_eq_false e, Bool.false_and]
section Narrow
variable {W H C l n G q z b : Nat} {d : Int64} {s : St}
theorem narrow95 (hz : cSize s W H C) (hl : l < 24) (hn : n = lnOf W H l) (hn12 : n ≤ 12) (hq : rf G 1 = q) (ht : arT q = 3) (hN : arN q = 24) (hz12 : z < 12) (hb : b + n ≤ 24) : ∀ (m p fu : Nat) (w : Nat → Int64) (v9 : Int32), n - p = m → p ≤ n → m < fu → ∃ w' v9', f_X4_narrow_95 G fu (nI l) d (nI z) (nI b) v9 (nI p) (sRowL s q w) = some (v9', sRowL s q w') ∧ (∀ a i, i < 64 → jb (w' a) i = if b + p ≤ a ∧ a < b + n ∧ i % 12 = z ∧ i / 12 < 4 then (jb (w a) i && !(jb d (12 * (i / 12) + (a - b)))) else jb (w a) i) ∧ (∀ i, i < 32 → (bt v9' i = true ↔ bt v9 i = true ∨ (b + p ≤ i ∧ i < b + n ∧ cellD d (i - b)))) := by
  intro m
  induction m with
  | zero =>
    intro p fu w v9 h1 h2 h3
    obtain ⟨fu, rfl⟩ : ∃ z, fu = z + 1 := ⟨fu - 1, by omega⟩
    obtain rfl : p = n := by omega
    refine ⟨w, v9, ?_, fun a i hi => by rw [if_neg (by omega)], fun i hi => ⟨Or.inl, fun q => q.resolve_right (by omega)⟩⟩
    rw [f_X4_narrow_95, cellsOf0 (s := sRowL s q w) hz hl, obs, ← hn, if_pos (nI_le (Nat.le_refl _) (by omega))]
  | succ m ih =>
    intro p fu w v9 h1 h2 h3
    obtain ⟨fu, rfl⟩ : ∃ z, fu = z + 1 := ⟨fu - 1, by omega⟩
    have hp : p < n := by omega
    rw [f_X4_narrow_95, cellsOf0 (s := sRowL s q w) hz hl, obs, ← hn, if_neg (nI_ge hp (by omega)), obs]
    by_cases c : cellD d p
    · rw [if_neg (fun x => (x3_zero (by omega)).mp ((lg0 _).mp x) c)]
      show ∃ w' v9', Option.bind (aJ (sRowL s q w) (rf G 1) (nI b + nI p)) _ = _ ∧ _
      rw [hq, nI_add, aJ_nI ht (by omega) (by omega), obs, sRowL_row, pJ_nI ht (by omega) (by omega), obs, sL_row, sRowL_sRowL, sRowL_row, f_X4_narrow_160, nI_1]
      obtain ⟨w', v9', e1, e2, e3⟩ := ih (p + 1) fu _ _ (by omega) (by omega) (by omega)
      refine ⟨w', v9', e1, fun a i hi => ?_, fun i hi => ?_⟩
      · rw [e2 a i hi]
        by_cases ea : a = b + p
        · rw [if_neg (by omega)]
          unfold updJ
          rw [if_pos ea, j_and, j_xor, j_m1 i hi, x3_shl (by omega) hz12 hi, Bool.xor_true, ea]
          by_cases c2 : i % 12 = z ∧ i / 12 < 4
          · rw [if_pos ⟨by omega, by omega, c2.1, c2.2⟩, decide_eq_true c2, Bool.true_and, show b + p - b = p by omega]
          · rw [if_neg (fun x => c2 ⟨x.2.2.1, x.2.2.2⟩), decide_eq_false c2, Bool.false_and, Bool.not_false, Bool.and_true]
        · unfold updJ
          rw [if_neg ea]
          by_cases c2 : b + p ≤ a ∧ a < b + n ∧ i % 12 = z ∧ i / 12 < 4
          · rw [if_pos c2, if_pos (by omega)]
          · rw [if_neg c2, if_neg (by omega)]
      · rw [e3 i hi, b_or, b_shl1 (by omega) hi, Bool.or_eq_true, decide_eq_true_eq]
        constructor
        · rintro ((x | x) | ⟨x1, x2, x3⟩)
          · exact Or.inl x
          · subst x
            exact Or.inr ⟨by omega, by omega, by rw [show b + p - b = p by omega]; exact c⟩
          · exact Or.inr ⟨by omega, x2, x3⟩
        · rintro (x | ⟨x1, x2, x3⟩)
          · exact Or.inl (Or.inl x)
          · by_cases e : i = b + p
            · exact Or.inl (Or.inr e)
            · exact Or.inr ⟨by omega, x2, x3⟩
    · rw [if_pos ((lg0 _).mpr ((x3_zero (by omega)).mpr c)), f_X4_narrow_160, nI_1]
      obtain ⟨w', v9', e1, e2, e3⟩ := ih (p + 1) fu w v9 (by omega) (by omega) (by omega)
      refine ⟨w', v9', e1, fun a i hi => ?_, fun i hi => ?_⟩
      · rw [e2 a i hi]
        by_cases ea : a = b + p
        · rw [if_neg (by omega)]
          by_cases c2 : i % 12 = z ∧ i / 12 < 4
          · rw [if_pos ⟨by omega, by omega, c2.1, c2.2⟩, ea, show b + p - b = p by omega]
            cases hb : jb d (12 * (i / 12) + p)
            · rw [Bool.not_false, Bool.and_true]
            · exact absurd ⟨i / 12, c2.2, hb⟩ c
          · rw [if_neg (fun x => c2 ⟨x.2.2.1, x.2.2.2⟩)]
        · by_cases c2 : b + p ≤ a ∧ a < b + n ∧ i % 12 = z ∧ i / 12 < 4
          · rw [if_pos c2, if_pos (by omega)]
          · rw [if_neg c2, if_neg (by omega)]
      · rw [e3 i hi]
        constructor
        · rintro (x | ⟨x1, x2, x3⟩)
          · exact Or.inl x
          · exact Or.inr ⟨by omega, x2, x3⟩
        · rintro (x | ⟨x1, x2, x3⟩)
          · exact Or.inl x
          · by_cases e : i = b + p
            · subst e
              rw [show b + p - b = p by omega] at x3
              exact absurd x3 c
            · exact Or.inr ⟨by omega, x2, x3⟩
end Narrow
/-- lines across l: cell p lies on the line crL P l + p -/
def crL (P : Pz) (l : Nat) : Nat := if l < P.H then P.H else 0
def cdL (P : Pz) (l : Nat) : Nat := if l < P.H then l else l - P.H
theorem wbit_iff {m : Nat → Nat} {n i : Nat} : wbit m n i = true ↔ i % 12 < n ∧ i / 12 < 4 ∧ (m (i % 12)).testBit (i / 12) = true := by
  unfold wbit
  simp only [Bool.and_eq_true, decide_eq_true_eq, and_assoc]
theorem narrow4 {s : St} {P : Pz} {g : Gs} {G q l : Nat} {kp : Int64} (hx : Cz s P) (hl : l < P.L) (hc : clO G = 4) (hq : rf G 1 = q) (ht : arT q = 3) (hN : arN q = 24) (h16 : ∀ x y, x < P.W → y < P.H → g x y < 16) (hg : hasWr (s.2.1 q) P.W P.H g) (hk : ∀ i, i < 64 → jb kp i = wbit (unN (wy P g l)) (P.n l) i) : ∃ w' mk, f_X4_narrow G (nI l) kp s = some (mk, sRowL s q w') ∧ hasWr w' P.W P.H (nar P g l) ∧ ∀ i, i < 32 → (bt mk i = true ↔ ∃ p, p < P.n l ∧ i = crL P l + p ∧ chg P g l p = 1) := by
  have hP := hx.1
  have hn := Pz.n_le (l := l) hP
  have hL := Pz.L_le hP
  have hz := hx.size
  obtain ⟨⟨W1, W2⟩, ⟨H1, H2⟩, -⟩ := id hP
  have hd : ∀ i, i < 64 → jb (s.2.1 q l &&& (kp ^^^ (-1 : Int64))) i = (wbit (rowM g P.H l) (P.n l) i && !(wbit (unN (wy P g l)) (P.n l) i)) := by
    intro i hi
    rw [j_and, j_xor, j_m1 i hi, Bool.xor_true, hk i hi, hg l hl i hi]
    rfl
  have hsub : ∀ p v, p < P.n l → v < 4 → (unN (wy P g l) p).testBit v = true → (rowM g P.H l p).testBit v = true := fun p v hp hv h => unN_sub hP hl hp hv h
  have h16r : ∀ p, p < P.n l → rowM g P.H l p < 16 := fun p hp => by
    rw [rowM_xy]
    have := (xy_on hl hp).1
    exact h16 _ _ this.1 this.2.1
  have hch : ∀ p, p < P.n l → (cellD (s.2.1 q l &&& (kp ^^^ (-1 : Int64))) p ↔ chg P g l p = 1) := by
    intro p hp
    unfold chg
    constructor
    · rintro ⟨v, v1, v2⟩
      rw [hd _ (by omega), Bool.and_eq_true, wbit_iff, show (12 * v + p) % 12 = p by omega, show (12 * v + p) / 12 = v by omega] at v2
      rw [if_neg]
      intro e
      rw [e] at v2
      have : wbit (unN (wy P g l)) (P.n l) (12 * v + p) = true := wbit_iff.mpr (by rw [show (12 * v + p) % 12 = p by omega, show (12 * v + p) / 12 = v by omega]; exact v2.1)
      rw [this] at v2
      exact absurd v2.2 (by decide)
    · intro h
      by_cases e : rowM g P.H l p = unN (wy P g l) p
      · rw [if_pos e] at h
        cases h
      · by_cases q : cellD (s.2.1 q l &&& (kp ^^^ (-1 : Int64))) p
        · exact q
        · exfalso
          apply e
          refine tb_ext (h16r p hp) unN_lt (fun v hv => ?_)
          rw [Bool.eq_iff_iff]
          refine ⟨fun x => ?_, hsub p v hp hv⟩
          cases hb : (unN (wy P g l) p).testBit v
          · exfalso
            apply q
            refine ⟨v, hv, ?_⟩
            rw [hd _ (by omega), Bool.and_eq_true, wbit_iff, show (12 * v + p) % 12 = p by omega, show (12 * v + p) / 12 = v by omega]
            refine ⟨⟨hp, hv, x⟩, ?_⟩
            unfold wbit
            rw [show (12 * v + p) % 12 = p by omega, show (12 * v + p) / 12 = v by omega, hb, Bool.and_false]
            rfl
          · rfl
  have hcd : cdL P l < 12 := by
    unfold cdL
    unfold Pz.L at hl
    split <;> omega
  have hcr : crL P l + P.n l ≤ 24 := by
    unfold crL
    split <;> omega
  unfold f_X4_narrow
  rw [if_neg (fun x => x hc), hq, aJ_nI ht (by omega) (by omega), obs]
  by_cases c0 : (s.2.1 q l &&& (kp ^^^ (-1 : Int64))) = 0
  · rw [if_pos ((lg0 _).mpr c0)]
    have hno : ∀ p, p < P.n l → chg P g l p = 0 := by
      intro p hp
      have : ¬ chg P g l p = 1 := fun h => by
        obtain ⟨v, v1, v2⟩ := (hch p hp).mpr h
        rw [c0, j_0] at v2
        cases v2
      unfold chg at this ⊢
      split
      · rfl
      · rename_i h
        rw [if_neg h] at this
        exact absurd rfl this
    refine ⟨s.2.1 q, 0, by rw [sRowL_self], ?_, fun i hi => ?_⟩
    · refine hasWr_congr hg (fun x y hx hy => ?_)
      by_cases c : onL P l x y
      · obtain ⟨h1, h2, h3⟩ := on_xy c
        have := hno _ h1
        unfold chg at this
        rw [nar_in c]
        by_cases e : rowM g P.H l (posL P l x y) = unN (wy P g l) (posL P l x y)
        · rw [← e, rowM_xy, ← h2, ← h3]
        · rw [if_neg e] at this
          cases this
      · exact nar_out c
    · rw [b_0]
      constructor
      · intro h
        cases h
      · rintro ⟨p, p1, p2, p3⟩
        rw [hno p p1] at p3
        cases p3
  · rw [if_neg (fun x => c0 ((lg0 _).mp x)), obs, pJ_nI ht (by omega) (by omega), obs, sL_row]
    generalize hw0 : updJ (s.2.1 q) l (s.2.1 q l &&& kp) = w0
    obtain ⟨w', mk, e1, e2, e3⟩ := narrow95 (G := G) (q := q) (z := cdL P l) (b := crL P l) (d := s.2.1 q l &&& (kp ^^^ (-1 : Int64))) hz (show l < 24 by omega) (show P.n l = lnOf P.W P.H l from rfl) hn.2 hq ht hN hcd hcr (P.n l) 0 FU w0 0 (by omega) (Nat.zero_le _) (by unfold FU; omega)
    have hH : (sRowL s q w0).1 3 4 = nI P.H := hz.2.1
    refine ⟨w', mk, ?_, ?_, fun i hi => ?_⟩
    · rw [hH]
      unfold crL cdL at e1
      by_cases c : l < P.H
      · rw [if_pos c, if_pos c] at e1
        rw [if_neg (nI_ge c (by omega)), f_X4_narrow_49, if_neg (by decide), f_X4_narrow_69, if_neg (by decide), f_X4_narrow_87, hH]
        exact e1
      · rw [if_neg c, if_neg c] at e1
        rw [if_pos (nI_le (by omega) (by omega)), f_X4_narrow_49, if_pos rfl, f_X4_narrow_69, if_pos rfl, f_X4_narrow_87, hH, pk_sub (by omega)]
        exact e1
    · intro m hm i hi
      rw [e2 m i hi, ← hw0]
      unfold updJ
      by_cases em : m = l
      · subst em
        have ncr : ¬ (crL P m + 0 ≤ m ∧ m < crL P m + P.n m ∧ i % 12 = cdL P m ∧ i / 12 < 4) := by
          unfold crL
          unfold Pz.n lnOf
          split <;> omega
        rw [if_neg ncr, if_pos rfl, j_and, hk i hi, hg m hm i hi, Bool.eq_iff_iff, Bool.and_eq_true, wbit_iff, wbit_iff, wbit_iff]
        constructor
        · rintro ⟨a, b1, b2, b3⟩
          exact ⟨b1, b2, by rw [rowM_nar hl b1]; exact b3⟩
        · rintro ⟨b1, b2, b3⟩
          rw [rowM_nar hl b1] at b3
          exact ⟨⟨b1, b2, hsub _ _ b1 b2 b3⟩, b1, b2, b3⟩
      · rw [if_neg em]
        by_cases cr : crL P l ≤ m ∧ m < crL P l + P.n l
        · have hxy : xL P l (m - crL P l) = xL P m (cdL P l) ∧ yL P l (m - crL P l) = yL P m (cdL P l) ∧ cdL P l < P.n m ∧ onL P l (xL P m (cdL P l)) (yL P m (cdL P l)) ∧ posL P l (xL P m (cdL P l)) (yL P m (cdL P l)) = m - crL P l := by
            unfold Pz.n lnOf at cr ⊢
            unfold Pz.L at hl
            unfold crL at cr ⊢
            unfold cdL onL posL xL yL
            by_cases c : l < P.H
            · simp only [if_pos c] at cr ⊢
              have : ¬ m < P.H := by omega
              simp only [if_neg this]
              exact ⟨trivial, trivial, c, ⟨by omega, c, trivial⟩, trivial⟩
            · simp only [if_neg c] at cr ⊢
              have : m < P.H := by omega
              simp only [if_pos this]
              exact ⟨trivial, by omega, by omega, ⟨by omega, this, trivial⟩, by omega⟩
          obtain ⟨x1, x2, x3, x4, x5⟩ := hxy
          have hp' : m - crL P l < P.n l := by omega
          by_cases c2 : i % 12 = cdL P l ∧ i / 12 < 4
          · rw [if_pos ⟨by omega, cr.2, c2⟩, hg m hm i hi, hd _ (by omega), Bool.eq_iff_iff, Bool.and_eq_true, Bool.not_eq_true', wbit_iff]
            have r1 : rowM (nar P g l) P.H m (cdL P l) = unN (wy P g l) (m - crL P l) := by
              rw [rowM_xy, nar_in x4, x5]
            have r2 : rowM g P.H m (cdL P l) = rowM g P.H l (m - crL P l) := by
              rw [rowM_xy, rowM_xy, x1, x2]
            have y1 : (12 * (i / 12) + (m - crL P l)) % 12 = m - crL P l := by omega
            have y2 : (12 * (i / 12) + (m - crL P l)) / 12 = i / 12 := by omega
            rw [c2.1, r2]
            unfold wbit
            rw [c2.1, r1, y1, y2, decide_eq_true c2.2, decide_eq_true hp', decide_eq_true (show cdL P l < lnOf P.W P.H m from x3)]
            constructor
            · rintro ⟨⟨a1, a2, a3⟩, a4⟩
              rw [a3] at a4
              simpa using a4
            · intro a
              have a' : (unN (wy P g l) (m - crL P l)).testBit (i / 12) = true := by simpa using a
              have a3 := hsub _ _ hp' c2.2 a'
              exact ⟨⟨x3, c2.2, a3⟩, by rw [a3, a']; rfl⟩
          · rw [if_neg (fun x => c2 ⟨x.2.2.1, x.2.2.2⟩), hg m hm i hi, Bool.eq_iff_iff, wbit_iff, wbit_iff]
            have : ∀ p, p < lnOf P.W P.H m → ¬ p = cdL P l → rowM (nar P g l) P.H m p = rowM g P.H m p := by
              intro p hp hne
              rw [rowM_xy, rowM_xy, nar_out]
              intro on
              have := on.2.2
              unfold xL yL at this
              unfold cdL at hne
              unfold crL at cr
              unfold Pz.L at hl
              unfold Pz.n lnOf at cr
              by_cases c : l < P.H
              · simp only [if_pos c] at this hne cr
                have c' : ¬ m < P.H := by omega
                simp only [if_neg c'] at this
                omega
              · simp only [if_neg c] at this hne cr
                have c' : m < P.H := by omega
                simp only [if_pos c'] at this
                omega
            constructor
            · rintro ⟨a1, a2, a3⟩
              exact ⟨a1, a2, by rw [this _ a1 (fun e => c2 ⟨e, a2⟩)]; exact a3⟩
            · rintro ⟨a1, a2, a3⟩
              exact ⟨a1, a2, by rw [← this _ a1 (fun e => c2 ⟨e, a2⟩)]; exact a3⟩
        · rw [if_neg (fun x => cr ⟨by omega, x.2.1⟩), hg m hm i hi, Bool.eq_iff_iff, wbit_iff, wbit_iff]
          have : ∀ p, p < lnOf P.W P.H m → rowM (nar P g l) P.H m p = rowM g P.H m p := by
            intro p hp
            rw [rowM_xy, rowM_xy, nar_out]
            intro on
            have o1 := on.1
            have o2 := on.2.1
            have := on.2.2
            unfold xL at o1
            unfold yL at o2
            unfold xL yL at this
            unfold crL at cr
            unfold Pz.L at hl
            unfold Pz.n lnOf at cr
            unfold lnOf at hp
            by_cases c : l < P.H
            · simp only [if_pos c] at this cr
              by_cases c' : m < P.H
              · simp only [if_pos c'] at this
                omega
              · omega
            · simp only [if_neg c] at this cr
              by_cases c' : m < P.H
              · omega
              · simp only [if_neg c'] at this
                omega
          constructor
          · rintro ⟨a1, a2, a3⟩
            exact ⟨a1, a2, by rw [this _ a1]; exact a3⟩
          · rintro ⟨a1, a2, a3⟩
            exact ⟨a1, a2, by rw [← this _ a1]; exact a3⟩
    · rw [e3 i hi, b_0]
      constructor
      · rintro (x | ⟨x1, x2, x3⟩)
        · cases x
        · exact ⟨i - crL P l, by omega, by omega, (hch _ (by omega)).mp x3⟩
      · rintro ⟨p, p1, p2, p3⟩
        exact Or.inr ⟨by omega, by omega, by rw [p2, show crL P l + p - crL P l = p by omega]; exact (hch p p1).mpr p3⟩
