/-! what is found lies within the sets, and no two are alike -/
def inS (P : Pz) (g : Gs) (a a' : Sa) : Prop := a.2.1 ≤ a'.2.1 ∧ (∀ k, k < 2 → k < a.2.1 → a'.2.2.2 k = a.2.2.2 k) ∧ (∀ k, k < 2 → a.2.1 ≤ k → k < a'.2.1 → ∀ x y, x < P.W → y < P.H → a'.2.2.2 k x y < 4 ∧ (g x y).testBit (a'.2.2.2 k x y) = true) ∧ (a.2.1 = 0 → 2 ≤ a'.2.1 → ∃ x y, x < P.W ∧ y < P.H ∧ a'.2.2.2 0 x y ≠ a'.2.2.2 1 x y)
section Sols
variable {P : Pz} {cap bud : Nat}
theorem inS_rfl {g : Gs} {a : Sa} : inS P g a a := ⟨Nat.le_refl _, fun _ _ _ => rfl, fun k _ h1 h2 => absurd h1 (by omega), fun h1 h2 => absurd h2 (by omega)⟩
theorem inS_sub {g g' : Gs} {a a' : Sa} (h : inS P g' a a') (hs : subG P g' g) : inS P g a a' := ⟨h.1, h.2.1, fun k k1 k2 k3 x y hx hy => ⟨(h.2.2.1 k k1 k2 k3 x y hx hy).1, hs x y hx hy _ (h.2.2.1 k k1 k2 k3 x y hx hy).1 (h.2.2.1 k k1 k2 k3 x y hx hy).2⟩, h.2.2.2⟩
theorem inS_add (hP : P.ok) {g : Gs} (hg : setsOK P.W P.H P.C g) (a : Sa) : inS P g a (addS g a) := by
  have e1 : (addS g a).2.1 = a.2.1 + 1 := rfl
  refine ⟨by rw [e1]; omega, fun k k1 k2 => ?_, fun k k1 k2 k3 x y hx hy => ?_, fun h1 h2 => absurd h2 (by rw [e1]; omega)⟩
  · show (if a.2.1 < 2 then (fun k => if k = a.2.1 then (fun x y => lst (g x y)) else a.2.2.2 k) else a.2.2.2) k = _
    by_cases c : a.2.1 < 2
    · rw [if_pos c]
      show (if k = a.2.1 then _ else _) = _
      rw [if_neg (by omega)]
    · rw [if_neg c]
  · rw [e1] at k3
    obtain rfl : k = a.2.1 := by omega
    have : (addS g a).2.2.2 a.2.1 x y = lst (g x y) := by
      show (if a.2.1 < 2 then (fun k => if k = a.2.1 then (fun x y => lst (g x y)) else a.2.2.2 k) else a.2.2.2) a.2.1 x y = _
      rw [if_pos k1]
      show (if a.2.1 = a.2.1 then (fun x y => lst (g x y)) else _) x y = _
      rw [if_pos rfl]
    rw [this]
    obtain ⟨l1, l2, -, -⟩ := lst_ok (g x y) (ok16 hP hg x y hx hy) (by have := (hg x y hx hy).1; omega)
    exact ⟨l1, l2⟩
theorem pow_bit4 : ∀ v, v < 4 → ∀ u, u < 4 → (2 ^ v).testBit u = true → u = v := by decide +kernel
theorem inS_lookV (hP : P.ok) {L : Gs → Sa → Sa} {x y : Nat} (hx : x < P.W) (hy : y < P.H) (hL : ∀ g a, setsOK P.W P.H P.C g → inS P g a (L g a)) : ∀ k g a, k ≤ P.C + 1 → setsOK P.W P.H P.C g → inS P g a (lookV P cap bud L x y k g a) ∧ ∀ j, j < 2 → a.2.1 ≤ j → j < (lookV P cap bud L x y k g a).2.1 → P.C + 1 - k ≤ (lookV P cap bud L x y k g a).2.2.2 j x y := by
  have hC := hP.2.2.1.2
  intro k
  induction k with
  | zero => intro g a _ _; exact ⟨inS_rfl, fun j _ h1 h2 => absurd h1 (by have h2' : j < a.2.1 := h2; omega)⟩
  | succ k ih =>
    intro g a hk hg
    have none : inS P g a a ∧ ∀ j, j < 2 → a.2.1 ≤ j → j < a.2.1 → P.C + 1 - (k + 1) ≤ a.2.2.2 j x y := ⟨inS_rfl, fun j _ h1 h2 => absurd h1 (by omega)⟩
    rw [lookV]
    by_cases c1 : fin cap a = true
    · rw [if_pos c1]
      exact none
    · rw [if_neg c1]
      have hv : P.C + 1 - (k + 1) < P.C + 1 := by omega
      have hnx : P.C + 1 - (k + 1) + 1 = P.C + 1 - k := by omega
      revert hv hnx
      generalize P.C + 1 - (k + 1) = v at none ⊢
      intro hv hnx
      by_cases c2 : (g x y).testBit v = true
      · rw [if_pos c2]
        by_cases c3 : a.1 = bud
        · rw [if_pos c3]
          exact none
        · rw [if_neg c3]
          have po := pow_ok (P := P) hv
          have hok := setX_ok (x := x) (y := y) hg po.1 po.2
          have hsub : subG P (setX g x y (2 ^ v)) g := by
            intro i j hi hj u hu hb
            unfold setX at hb
            by_cases e : i = x ∧ j = y
            · rw [if_pos e] at hb
              rw [e.1, e.2, pow_bit4 v (by omega) u hu hb]
              exact c2
            · rw [if_neg e] at hb
              exact hb
          have hb := hL (setX g x y (2 ^ v)) (incS a) hok
          revert hb
          generalize L (setX g x y (2 ^ v)) (incS a) = b
          intro hb
          have hba := inS_sub hb hsub
          obtain ⟨b1, b2, b3, b4⟩ := id hba
          have bv : ∀ j, j < 2 → a.2.1 ≤ j → j < b.2.1 → b.2.2.2 j x y = v := fun j j1 j2 j3 => by
            have := hb.2.2.1 j j1 j2 j3 x y hx hy
            rw [setX_at] at this
            exact pow_bit4 v (by omega) _ this.1 this.2
          obtain ⟨i1, i2⟩ := ih g b (by omega) hg
          revert i1 i2
          generalize lookV P cap bud L x y k g b = c
          intro i1 i2
          obtain ⟨d1, d2, d3, d4⟩ := i1
          have b1' : a.2.1 ≤ b.2.1 := b1
          refine ⟨⟨by omega, fun j j1 j2 => ?_, fun j j1 j2 j3 i l hi hl => ?_, fun h1 h2 => ?_⟩, fun j j1 j2 j3 => ?_⟩
          · rw [d2 j j1 (by omega)]
            exact b2 j j1 j2
          · by_cases e : j < b.2.1
            · rw [d2 j j1 e]
              exact b3 j j1 j2 e i l hi hl
            · exact d3 j j1 (by omega) j3 i l hi hl
          · rcases Nat.lt_or_ge b.2.1 1 with z | z
            · exact d4 (by omega) h2
            · rcases Nat.lt_or_ge b.2.1 2 with z2 | z2
              · refine ⟨x, y, hx, hy, ?_⟩
                rw [d2 0 (by omega) (by omega), bv 0 (by omega) (by omega) (by omega)]
                have := i2 1 (by omega) (by omega) (by omega)
                omega
              · rw [d2 0 (by omega) (by omega), d2 1 (by omega) (by omega)]
                exact b4 h1 z2
          · by_cases e : j < b.2.1
            · rw [d2 j j1 e, bv j j1 j2 e]
              exact Nat.le_refl _
            · have := i2 j j1 (by omega) j3
              omega
      · rw [if_neg c2]
        obtain ⟨i1, i2⟩ := ih g a (by omega) hg
        exact ⟨i1, fun j j1 j2 j3 => by have := i2 j j1 j2 j3; omega⟩
theorem inS_look (hP : P.ok) : ∀ f g a, setsOK P.W P.H P.C g → inS P g a (look P cap bud f g a) := by
  intro f
  induction f with
  | zero => intro g a _; exact inS_rfl
  | succ f ih =>
    intro g a hg
    obtain ⟨r1, r2, -⟩ := restP_spec hP hg
    rw [look]
    by_cases c : (restP P g).1 = true
    · rw [if_pos c]
      refine inS_sub ?_ r2
      unfold nodeF
      by_cases d : bsC P (restP P g).2.2 = 0
      · rw [if_pos d]
        exact inS_add hP r1 a
      · rw [if_neg d]
        obtain ⟨bx, byy, -⟩ := bXY hP d
        exact (inS_lookV hP bx byy ih (P.C + 1) _ a (Nat.le_refl _) r1).1
    · rw [if_neg c]
      exact inS_rfl
/-- the first cell where the two kept solutions are unlike -/
def dif (P : Pz) (A : Sa) : Nat → Nat
  | 0 => P.W * P.H
  | k + 1 => if A.2.2.2 0 ((P.W * P.H - (k + 1)) % P.W) ((P.W * P.H - (k + 1)) / P.W) = A.2.2.2 1 ((P.W * P.H - (k + 1)) % P.W) ((P.W * P.H - (k + 1)) / P.W) then dif P A k else P.W * P.H - (k + 1)
theorem dif_ok {A : Sa} : ∀ k, k ≤ P.W * P.H → (∃ i, P.W * P.H - k ≤ i ∧ i < P.W * P.H ∧ A.2.2.2 0 (i % P.W) (i / P.W) ≠ A.2.2.2 1 (i % P.W) (i / P.W)) → dif P A k < P.W * P.H ∧ P.W * P.H - k ≤ dif P A k ∧ A.2.2.2 0 (dif P A k % P.W) (dif P A k / P.W) ≠ A.2.2.2 1 (dif P A k % P.W) (dif P A k / P.W) := by
  intro k
  induction k with
  | zero => intro _ ⟨i, i1, i2, _⟩; omega
  | succ k ih =>
    intro hk ⟨i, i1, i2, i3⟩
    rw [dif]
    by_cases c : A.2.2.2 0 ((P.W * P.H - (k + 1)) % P.W) ((P.W * P.H - (k + 1)) / P.W) = A.2.2.2 1 ((P.W * P.H - (k + 1)) % P.W) ((P.W * P.H - (k + 1)) / P.W)
    · rw [if_pos c]
      have hne : i ≠ P.W * P.H - (k + 1) := fun e => i3 (by rw [e]; exact c)
      obtain ⟨a1, a2, a3⟩ := ih (by omega) ⟨i, by omega, i2, i3⟩
      exact ⟨a1, by omega, a3⟩
    · rw [if_neg c]
      exact ⟨by omega, Nat.le_refl _, c⟩
end Sols
/-! mend, as a function of the givens f -/
def gvC (P : Pz) (f h : Nat → Int32) (i : Nat) : Nat → Int32 := fun c => if c = 12 * (i / P.W) + i % P.W then nI (shN (h c)) else f c
def mdA (P : Pz) (f : Nat → Int32) : Sa := look P 2 400 LOOKN (firstM f P.C) a00
def mendP (P : Pz) (h : Nat → Int32) : Nat → (Nat → Int32) → Nat → Int32 × (Nat → Int32) × Nat
  | 0, f, v => (nI v, f, v)
  | n + 1, f, v => if (mdA P f).2.2.1 = true then (-2, f, v) else if (mdA P f).2.1 = 2 then mendP P h n (gvC P f h (dif P (mdA P f) (P.W * P.H))) (v + 1) else (nI v, f, v)
section Mend
variable {P : Pz} {f h : Nat → Int32}
/-- two solutions: the first unlike cell lies in the puzzle and is no given -/
theorem md_two (hP : P.ok) (hg : ∀ c, c < 144 → gVal P.C (f c)) (h2 : (mdA P f).2.1 = 2) : dif P (mdA P f) (P.W * P.H) < P.W * P.H ∧ f (12 * (dif P (mdA P f) (P.W * P.H) / P.W) + dif P (mdA P f) (P.W * P.H) % P.W) = -1 ∧ ∀ k, k < 2 → ∀ x y, x < P.W → y < P.H → (mdA P f).2.2.2 k x y < 4 := by
  obtain ⟨⟨W1, W2⟩, ⟨H1, H2⟩, ⟨C1, C2⟩, -⟩ := id hP
  have hok := firstM_ok hP hg
  obtain ⟨a1, a2, a3, a4⟩ := inS_look (cap := 2) (bud := 400) hP LOOKN (firstM f P.C) a00 hok
  have e : look P 2 400 LOOKN (firstM f P.C) a00 = mdA P f := rfl
  rw [e] at a1 a2 a3 a4
  obtain ⟨x, y, hx, hy, hne⟩ := a4 rfl (by omega)
  have hi : P.W * y + x < P.W * P.H := by
    have : P.W * (y + 1) ≤ P.W * P.H := Nat.mul_le_mul_left _ hy
    rw [Nat.mul_add, Nat.mul_one] at this
    omega
  have em : (P.W * y + x) % P.W = x := by rw [Nat.mul_add_mod, Nat.mod_eq_of_lt hx]
  have ed : (P.W * y + x) / P.W = y := by rw [Nat.mul_add_div (by omega), Nat.div_eq_of_lt hx, Nat.add_zero]
  obtain ⟨d1, -, d3⟩ := dif_ok (P := P) (A := mdA P f) (P.W * P.H) (Nat.le_refl _) ⟨P.W * y + x, by omega, hi, by rw [em, ed]; exact hne⟩
  refine ⟨d1, ?_, fun k k1 x y hx hy => (a3 k k1 (Nat.zero_le _) (by omega) x y hx hy).1⟩
  revert d1 d3
  generalize dif P (mdA P f) (P.W * P.H) = d
  intro d1 d3
  obtain ⟨w1, w2⟩ := kWH (H := P.H) (k := d) W1 d1
  apply Classical.byContradiction
  intro hn
  have p0 := a3 0 (by omega) (Nat.zero_le _) (by omega) _ _ w1 w2
  have p1 := a3 1 (by omega) (Nat.zero_le _) (by omega) _ _ w1 w2
  rw [firstM_at] at p0 p1
  unfold fstN at p0 p1
  rw [if_neg hn] at p0 p1
  rcases hg (12 * (d / P.W) + d % P.W) (by omega) with z | ⟨n, n1, n2⟩
  · exact hn z
  · rw [n2, nI_clamp (by omega)] at p0 p1
    exact d3 ((pow_bit4 n (by omega) _ p0.1 p0.2).trans (pow_bit4 n (by omega) _ p1.1 p1.2).symm)
theorem gvC_val (hP : P.ok) (hg : ∀ c, c < 144 → gVal P.C (f c)) (hh : ∀ c, c < 144 → gVal P.C (h c)) (i : Nat) : ∀ c, c < 144 → gVal P.C (gvC P f h i c) := by
  intro c hc
  unfold gvC
  split
  · exact Or.inr ⟨_, (shN_ok (hh c hc) hP.2.2.1.2).1, rfl⟩
  · exact hg c hc
theorem gvC_cnt (hP : P.ok) {i : Nat} (hi : i < P.W * P.H) (h1 : f (12 * (i / P.W) + i % P.W) = -1) (hh : ∀ c, c < 144 → gVal P.C (h c)) : cntG (gvC P f h i) 144 = cntG f 144 + 1 := by
  obtain ⟨⟨W1, W2⟩, ⟨H1, H2⟩, ⟨C1, C2⟩, -⟩ := id hP
  obtain ⟨w1, w2⟩ := kWH (H := P.H) (k := i) W1 hi
  have hu := cntG_upd (f := f) (g := gvC P f h i) (c := 12 * (i / P.W) + i % P.W) (fun j hj => if_neg hj) 144 (by omega)
  have hv : gvC P f h i (12 * (i / P.W) + i % P.W) = nI (shN (h (12 * (i / P.W) + i % P.W))) := if_pos rfl
  have hs := (shN_ok (hh (12 * (i / P.W) + i % P.W) (by omega)) C2).1
  have hne : ¬ nI (shN (h (12 * (i / P.W) + i % P.W))) = -1 := fun e => by
    have := congrArg Int32.toInt e
    rw [nI_toInt (by omega), m1_toInt] at this
    omega
  rw [if_pos h1, hv, if_neg hne] at hu
  omega
end Mend
