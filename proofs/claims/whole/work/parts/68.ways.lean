/-! counting the ways by prefixes -/
section Cnt
def Bc (can : Nat → Nat → Bool) (E : Nat → Nat) : Nat → Nat
  | 0 => E 0
  | i + 1 => (if can i 0 = true then Bc can E i else 0) + E (i + 1)
def Bl (can : Nat → Nat → Bool) (E : Nat → Nat) : Nat → Nat
  | 0 => 0
  | i + 1 => if can i 0 = true then Bc can E i else 0
theorem Bc_Bl {can : Nat → Nat → Bool} {E : Nat → Nat} (i : Nat) : Bc can E i = Bl can E i + E i := by
  cases i with
  | zero => rw [Bc, Bl, Nat.zero_add]
  | succ i => rw [Bc, Bl]
def Ec (len col : Nat → Nat) (can : Nat → Nat → Bool) : Nat → Nat → Nat
  | 0, e => if e = 0 then 1 else 0
  | k + 1, e => if len k ≤ e ∧ allC (fun c => can c (col k)) (e - len k) e = true then (if gapR col k = 1 then Bl can (Ec len col can k) (e - len k) else Bc can (Ec len col can k) (e - len k)) else 0
variable {n R : Nat} {len col : Nat → Nat} {can : Nat → Nat → Bool}
def Fk (n R : Nat) (len col : Nat → Nat) (can : Nat → Nat → Bool) (k i : Nat) : Nat := (wysAt can (wys n R len col can (R - (k + 1))) (len k) (col k) 0 0 (n + 1 - len k - i) i).length
def Uk (n R : Nat) (len col : Nat → Nat) (can : Nat → Nat → Bool) (k e : Nat) : Nat := (wys n R len col can (R - k) e).length
theorem Fk_step {k i : Nat} (hz : 1 ≤ len k) (hcan : ∀ c v, can c v = true → c < n) : Fk n R len col can k i = (if can i 0 = true then Fk n R len col can k (i + 1) else 0) + (if allC (fun c => can c (col k)) i (i + len k) = true then Uk n R len col can (k + 1) (i + len k) else 0) := by
  by_cases c : i + len k ≤ n
  · have e : n + 1 - len k - i = (n + 1 - len k - (i + 1)) + 1 := by omega
    unfold Fk Uk
    rw [e, wysAt, List.length_append]
    have e2 : (if (0 = 0 ∨ 0 < i) ∧ allC (fun c => can c (col k)) i (i + len k) = true then (wys n R len col can (R - (k + 1)) (i + len k)).map (rowW i (len k) (col k)) else []).length = (if allC (fun c => can c (col k)) i (i + len k) = true then (wys n R len col can (R - (k + 1)) (i + len k)).length else 0) := by
      by_cases q : allC (fun c => can c (col k)) i (i + len k) = true
      · rw [if_pos ⟨Or.inl rfl, q⟩, if_pos q, List.length_map]
      · rw [if_neg (fun x => q x.2), if_neg q]
        rfl
    have e3 : (if can i 0 = true then wysAt can (wys n R len col can (R - (k + 1))) (len k) (col k) 0 0 (n + 1 - len k - (i + 1)) (i + 1) else []).length = (if can i 0 = true then (wysAt can (wys n R len col can (R - (k + 1))) (len k) (col k) 0 0 (n + 1 - len k - (i + 1)) (i + 1)).length else 0) := by
      split <;> rfl
    rw [e2, e3, Nat.add_comm]
  · have q : ¬ allC (fun c => can c (col k)) i (i + len k) = true := fun x => by
      have := hcan _ _ (allC_iff.mp x (i + len k - 1) (by omega) (by omega))
      omega
    unfold Fk
    rw [show n + 1 - len k - i = 0 by omega, show n + 1 - len k - (i + 1) = 0 by omega, if_neg q]
    split <;> rfl
theorem wysAt_g0 {sub : Nat → List (Nat → Nat)} {z v i : Nat} : ∀ m a, wysAt can sub z v 0 i m a = wysAt can sub z v 0 0 m a := by
  intro m
  induction m with
  | zero => intro a; rfl
  | succ m ih =>
    intro a
    rw [wysAt, wysAt, ih (a + 1)]
    congr 1
    by_cases q : allC (fun c => can c v) a (a + z) = true
    · rw [if_pos ⟨Or.inl rfl, q⟩, if_pos ⟨Or.inl rfl, q⟩]
    · rw [if_neg (fun x => q x.2), if_neg (fun x => q x.2)]
theorem wysAt_g1 {sub : Nat → List (Nat → Nat)} {z v i g : Nat} : ∀ m a, i < a → wysAt can sub z v g i m a = wysAt can sub z v 0 0 m a := by
  intro m
  induction m with
  | zero => intro a _; rfl
  | succ m ih =>
    intro a ha
    rw [wysAt, wysAt, ih (a + 1) (by omega)]
    congr 1
    by_cases q : allC (fun c => can c v) a (a + z) = true
    · rw [if_pos ⟨Or.inr ha, q⟩, if_pos ⟨Or.inl rfl, q⟩]
    · rw [if_neg (fun x => q x.2), if_neg (fun x => q x.2)]
theorem Uk_F {k e : Nat} (hk : k < R) : Uk n R len col can k e = if gapR col k = 1 then (if can e 0 = true then Fk n R len col can k (e + 1) else 0) else Fk n R len col can k e := by
  have e1 : R - k = (R - (k + 1)) + 1 := by omega
  have e2 : R - (R - (k + 1) + 1) = k := by omega
  unfold Uk Fk
  rw [e1, wys, e2]
  by_cases g : gapR col k = 1
  · rw [if_pos g, g]
    by_cases z : n + 1 - len k - e = 0
    · rw [z, show n + 1 - len k - (e + 1) = 0 by omega]
      split <;> rfl
    · have e3 : n + 1 - len k - e = (n + 1 - len k - (e + 1)) + 1 := by omega
      rw [e3, wysAt, if_neg (fun x => by have := x.1; omega), List.nil_append, wysAt_g1 _ _ (by omega)]
      split <;> rfl
  · rw [if_neg g, (gap01 k).resolve_right g, wysAt_g0]
theorem Ec_S {k b : Nat} : Ec len col can (k + 1) (b + len k) = if allC (fun c => can c (col k)) b (b + len k) = true then (if gapR col k = 1 then Bl can (Ec len col can k) b else Bc can (Ec len col can k) b) else 0 := by
  rw [Ec, show b + len k - len k = b by omega]
  by_cases q : allC (fun c => can c (col k)) b (b + len k) = true
  · rw [if_pos ⟨by omega, q⟩, if_pos q]
  · rw [if_neg (fun x => q x.2), if_neg q]
theorem tele {k : Nat} (hk : k < R) (hz : 1 ≤ len k) (hcan : ∀ c v, can c v = true → c < n) : ∀ i, smL (fun e => Ec len col can k e * Uk n R len col can k e) i = Bl can (Ec len col can k) i * Fk n R len col can k i + smL (fun b => Ec len col can (k + 1) (b + len k) * Uk n R len col can (k + 1) (b + len k)) i := by
  intro i
  induction i with
  | zero => simp [smL, Bl]
  | succ i ih =>
    have hF := Fk_step (R := R) (col := col) (i := i) hz hcan
    rw [smL, smL, ih, Uk_F hk, Ec_S, hF, Bl, Bc_Bl]
    cases hc : can i 0 <;> by_cases ha : allC (fun c => can c (col k)) i (i + len k) = true <;> by_cases hg : gapR col k = 1 <;> simp only [ha, hg, if_true, if_false, Nat.add_mul, Nat.mul_add, Nat.zero_mul, Nat.mul_zero, Nat.add_zero, Nat.zero_add, Bool.false_eq_true] <;> omega
theorem Ec_out {k e : Nat} (hz : 1 ≤ len k) (hcan : ∀ c v, can c v = true → c < n) (h : e < len k ∨ n < e) : Ec len col can (k + 1) e = 0 := by
  rw [Ec, if_neg]
  rintro ⟨h1, h2⟩
  have := hcan _ _ (allC_iff.mp h2 (e - 1) (by omega) (by omega))
  omega
theorem tot_S {k : Nat} (hk : k < R) (hz : 1 ≤ len k) (hcan : ∀ c v, can c v = true → c < n) : smL (fun e => Ec len col can k e * Uk n R len col can k e) (n + 1) = smL (fun e => Ec len col can (k + 1) e * Uk n R len col can (k + 1) e) (n + 1) := by
  rw [tele hk hz hcan]
  have hF : Fk n R len col can k (n + 1) = 0 := by
    unfold Fk
    rw [show n + 1 - len k - (n + 1) = 0 by omega]
    rfl
  rw [hF, Nat.mul_zero, Nat.zero_add]
  have h1 := smL_add (fun e => Ec len col can (k + 1) e * Uk n R len col can (k + 1) e) (len k) (n + 1)
  have h2 := smL_add (fun e => Ec len col can (k + 1) e * Uk n R len col can (k + 1) e) (n + 1) (len k)
  rw [smL_zero (len k) (fun j hj => by rw [Ec_out hz hcan (Or.inl hj), Nat.zero_mul]), Nat.zero_add] at h1
  rw [smL_zero (len k) (fun j hj => by rw [Ec_out hz hcan (Or.inr (by omega)), Nat.zero_mul]), Nat.add_comm (n + 1) (len k)] at h2
  refine Eq.trans ?_ (h1.symm.trans h2)
  exact smL_congr _ (fun j _ => by rw [Nat.add_comm j (len k)])
theorem tot_k (hlen : ∀ k, k < R → 1 ≤ len k) (hcan : ∀ c v, can c v = true → c < n) : ∀ k, k ≤ R → smL (fun e => Ec len col can k e * Uk n R len col can k e) (n + 1) = (wys n R len col can R 0).length := by
  intro k
  induction k with
  | zero =>
    intro _
    have := smL_add (fun e => Ec len col can 0 e * Uk n R len col can 0 e) 1 n
    rw [Nat.add_comm 1 n] at this
    rw [this, smL_zero n (fun j _ => by rw [Ec, if_neg (by omega), Nat.zero_mul])]
    simp [smL, Ec, Uk]
  | succ k ih =>
    intro hk
    rw [← tot_S (by omega) (hlen k (by omega)) hcan]
    exact ih (by omega)
theorem Bc_sum {E : Nat → Nat} : ∀ i, Bc can E i = smL (fun e => E e * (if allC (fun c => can c 0) e i = true then 1 else 0)) (i + 1) := by
  intro i
  induction i with
  | zero =>
    simp only [smL, Bc]
    rw [allC_nil (Nat.le_refl _), if_pos rfl]
    omega
  | succ i ih =>
    rw [Bc, smL, allC_nil (Nat.le_refl _), if_pos rfl, Nat.mul_one]
    congr 1
    cases hc : can i 0
    · rw [if_neg (by decide), smL_zero]
      intro j hj
      rw [if_neg, Nat.mul_zero]
      intro q
      have := allC_iff.mp q i (by omega) (by omega)
      rw [hc] at this
      cases this
    · rw [if_pos rfl, ih]
      refine smL_congr _ (fun j hj => ?_)
      have : allC (fun c => can c 0) j i = allC (fun c => can c 0) j (i + 1) := by
        rw [Bool.eq_iff_iff, allC_iff, allC_iff]
        constructor
        · intro q c c1 c2
          by_cases e : c = i
          · rw [e]; exact hc
          · exact q c c1 (by omega)
        · intro q c c1 c2
          exact q c c1 (by omega)
      rw [this]
/-- the last entry of the last row is the number of ways -/
theorem Bc_ways (hlen : ∀ k, k < R → 1 ≤ len k) (hcan : ∀ c v, can c v = true → c < n) : Bc can (Ec len col can R) n = (wys n R len col can R 0).length := by
  rw [← tot_k hlen hcan R (Nat.le_refl _), Bc_sum]
  refine smL_congr _ (fun e _ => ?_)
  unfold Uk
  rw [Nat.sub_self, wys]
  split <;> rfl
end Cnt
