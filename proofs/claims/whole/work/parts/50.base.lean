/-! PURE: no machine from here on. Reads and writes of St; numbers; the invariant between class and model -/
theorem sF_ne {s : St} {k j a : Nat} {v : Int32} (h : a ≠ k) : (sF s k j v).1 a = s.1 a := by funext b; simp [sF, u2, h]
theorem sF_at {s : St} {k j : Nat} {v : Int32} : (sF s k j v).1 k j = v := by simp [sF, u2]
theorem sF_nj {s : St} {k j b : Nat} {v : Int32} (h : b ≠ j) : (sF s k j v).1 k b = s.1 k b := by simp [sF, u2, h]
theorem sF_J {s : St} {k j : Nat} {v : Int32} : (sF s k j v).2 = s.2 := rfl
theorem sF_get {s : St} {k j a b : Nat} {v : Int32} : (sF s k j v).1 a b = if a = k ∧ b = j then v else s.1 a b := rfl
theorem sL_F {s : St} {k j : Nat} {v : Int64} : (sL s k j v).1 = s.1 := rfl
theorem sL_get {s : St} {k j a b : Nat} {v : Int64} : (sL s k j v).2.1 a b = if a = k ∧ b = j then v else s.2.1 a b := rfl
theorem sL_o {s : St} {k j : Nat} {v : Int64} : (sL s k j v).2.2 = s.2.2 := rfl
theorem sRow_get {s : St} {k a : Nat} {g : Nat → Int32} : (sRow s k g).1 a = if a = k then g else s.1 a := rfl
theorem sRow_J {s : St} {k : Nat} {g : Nat → Int32} : (sRow s k g).2 = s.2 := rfl
theorem inB_nI {n N : Nat} (h : n < N) (hN : N < 2 ^ 31) : inB (nI n) N = true := by
  simp only [inB, Bool.and_eq_true, decide_eq_true_eq]
  exact ⟨nI_pos' (by omega), by rw [nI_clamp (by omega)]; exact h⟩
theorem aI_nI {s : St} {k n : Nat} (h1 : arT k = 1) (h2 : n < arN k) (h3 : arN k < 2 ^ 31) : aI s k (nI n) = some (s.1 k n) := by
  rw [aI, if_pos ⟨h1, inB_nI h2 h3⟩, nI_clamp (by omega)]
theorem aB_nI {s : St} {k n : Nat} (h1 : arT k = 2) (h2 : n < arN k) (h3 : arN k < 2 ^ 31) : aB s k (nI n) = some (s.1 k n) := by
  rw [aB, if_pos ⟨h1, inB_nI h2 h3⟩, nI_clamp (by omega)]
theorem aJ_nI {s : St} {k n : Nat} (h1 : arT k = 3) (h2 : n < arN k) (h3 : arN k < 2 ^ 31) : aJ s k (nI n) = some (s.2.1 k n) := by
  rw [aJ, if_pos ⟨h1, inB_nI h2 h3⟩, nI_clamp (by omega)]
theorem pI_nI {s : St} {k n : Nat} {v : Int32} (h1 : arT k = 1) (h2 : n < arN k) (h3 : arN k < 2 ^ 31) : pI s k (nI n) v = some (sF s k n v) := by
  rw [pI, if_pos ⟨h1, inB_nI h2 h3⟩, nI_clamp (by omega)]
theorem pB_nI {s : St} {k n : Nat} {v : Int32} (h1 : arT k = 2) (h2 : n < arN k) (h3 : arN k < 2 ^ 31) : pB s k (nI n) v = some (sF s k n (vp_nar .byte v)) := by
  rw [pB, if_pos ⟨h1, inB_nI h2 h3⟩, nI_clamp (by omega)]
theorem pJ_nI {s : St} {k n : Nat} {v : Int64} (h1 : arT k = 3) (h2 : n < arN k) (h3 : arN k < 2 ^ 31) : pJ s k (nI n) v = some (sL s k n v) := by
  rw [pJ, if_pos ⟨h1, inB_nI h2 h3⟩, nI_clamp (by omega)]
theorem nI_lt0 {x : Int32} : x < 0 ↔ x.toInt < 0 := by rw [Int32.lt_iff_toInt_lt]; exact Iff.rfl
theorem lt_nI {x : Int32} {n : Nat} (h : n < 2 ^ 31) : x < nI n ↔ x.toInt < (n : Int) := by rw [Int32.lt_iff_toInt_lt, nI_toInt h]
theorem le_nI {x : Int32} {n : Nat} (h : n < 2 ^ 31) : x ≤ nI n ↔ x.toInt ≤ (n : Int) := by rw [Int32.le_iff_toInt_le, nI_toInt h]
theorem nI_le' {x : Int32} {n : Nat} (h : n < 2 ^ 31) : nI n ≤ x ↔ (n : Int) ≤ x.toInt := by rw [Int32.le_iff_toInt_le, nI_toInt h]
theorem nI_lt' {x : Int32} {n : Nat} (h : n < 2 ^ 31) : nI n < x ↔ (n : Int) < x.toInt := by rw [Int32.lt_iff_toInt_lt, nI_toInt h]
theorem nI_of_toInt {x : Int32} {n : Nat} (h : x.toInt = (n : Int)) (hn : n < 2 ^ 31) : x = nI n := Int32.toInt_inj.mp (by rw [nI_toInt hn]; exact h)
/-- an int argument: outside [0, n), or one of them -/
theorem arg_in (x : Int32) (n : Nat) (hn : n < 2 ^ 31) : (x.toInt < 0 ∨ (n : Int) ≤ x.toInt) ∨ ∃ j, j < n ∧ x = nI j := by
  rcases Int.lt_or_le x.toInt 0 with h | h
  · exact Or.inl (Or.inl h)
  rcases Int.lt_or_le x.toInt n with h2 | h2
  · exact Or.inr ⟨x.toInt.toNat, by omega, nI_of_toInt (by omega) (by omega)⟩
  · exact Or.inl (Or.inr h2)
theorem n12 : (12 : Int32) = nI 12 := by decide +kernel
theorem n144 : (144 : Int32) = nI 144 := by decide +kernel
theorem n1 : (1 : Int32) = nI 1 := by decide +kernel
theorem n0 : (0 : Int32) = nI 0 := by decide +kernel
theorem m1_toInt : (-1 : Int32).toInt = -1 := by decide +kernel
theorem nI_sub1 {n : Nat} (h : 1 ≤ n) : nI n - 1 = nI (n - 1) := by rw [n1, pk_sub h]
theorem nI_inj {a b : Nat} (ha : a < 2 ^ 31) (hb : b < 2 ^ 31) (h : nI a = nI b) : a = b := (nI_eq ha hb).mp h
theorem at12 (y x : Nat) : (12 : Int32) * nI y + nI x = nI (12 * y + x) := by rw [n12, pk_mul, nI_add]
/-! the parts of the invariant -/
def iSz (W H C : Nat) : Prop := (W = 0 ∧ H = 0 ∧ C = 0) ∨ (1 ≤ W ∧ W ≤ 12 ∧ 1 ≤ H ∧ H ≤ 12 ∧ 1 ≤ C ∧ C ≤ 3)
def iSize (s : St) (W H C : Nat) : Prop := s.1 3 3 = nI W ∧ s.1 3 4 = nI H ∧ s.1 3 5 = nI C ∧ s.1 43 1 = nI W ∧ s.1 43 2 = nI H ∧ s.1 43 3 = nI C ∧ iSz W H C
def iTape (s : St) : Prop := ∃ n, n ≤ 900 ∧ s.1 1 1 = nI n ∧ s.1 43 16 = nI n ∧ ∀ i, i < n → ∃ b, b < 256 ∧ s.1 51 i = nI b ∧ s.1 2 i = (nI b).toInt8.toInt32
def lnOf (W H l : Nat) : Nat := if l < H then W else H
def smL (cn : Nat → Nat) : Nat → Nat
  | 0 => 0
  | n + 1 => smL cn n + cn n
/-- least cells of the first k runs of a line -/
def need (len col : Nat → Nat) : Nat → Nat
  | 0 => 0
  | k + 1 => need len col k + len k + (if k ≠ 0 ∧ col k = col (k - 1) then 1 else 0)
def iRuns (s : St) (W H C : Nat) : Prop := ∃ (cn : Nat → Nat) (len col : Nat → Nat → Nat), (∀ l, l < W + H → cn l ≤ 12 ∧ s.1 4 l = nI (cn l) ∧ s.1 44 l = nI (cn l) ∧ need (len l) (col l) (cn l) ≤ lnOf W H l ∧ ∀ k, k < cn l → (1 ≤ len l k ∧ len l k ≤ 12) ∧ (1 ≤ col l k ∧ col l k ≤ C) ∧ s.1 5 (12 * l + k) = nI (len l k) ∧ s.1 45 (12 * l + k) = nI (len l k) ∧ s.1 6 (12 * l + k) = nI (col l k) ∧ s.1 46 (12 * l + k) = nI (col l k)) ∧ s.1 3 6 = nI (smL cn (W + H))
/-- a grid of values: g in the class's row k, with its counter at (o, 1), m in the model's row -/
def gVal (C : Nat) (v : Int32) : Prop := v = -1 ∨ ∃ n, n ≤ C ∧ v = nI n
def cntG (f : Nat → Int32) : Nat → Nat
  | 0 => 0
  | n + 1 => cntG f n + (if f n = -1 then 0 else 1)
def iGrid (s : St) (W H C o k m : Nat) : Prop := (∀ c, c < 144 → s.1 k c = s.1 m c ∧ gVal C (s.1 k c)) ∧ (∀ x y, y < 12 → x < 12 → (W ≤ x ∨ H ≤ y) → s.1 k (12 * y + x) = -1) ∧ s.1 o 1 = nI (cntG (s.1 k) 144)
/-- bit i = 12 v + p of a line's word: cell p may have VALUE v; m: the sets of the cells, n cells -/
def wbit (m : Nat → Nat) (n i : Nat) : Bool := decide (i % 12 < n) && decide (i / 12 < 4) && (m (i % 12)).testBit (i / 12)
def rowM (g : Nat → Nat → Nat) (H l : Nat) : Nat → Nat := fun p => if l < H then g p l else g (l - H) p
/-- the sets g (of cell x, y: a number below 16) in the class's row k of longs -/
def hasW (s : St) (k W H : Nat) (g : Nat → Nat → Nat) : Prop := ∀ l, l < W + H → ∀ i, i < 64 → jb (s.2.1 k l) i = wbit (rowM g H l) (lnOf W H l) i
def setsOK (W H C : Nat) (g : Nat → Nat → Nat) : Prop := ∀ x y, x < W → y < H → 1 ≤ g x y ∧ g x y < 2 ^ (C + 1)
def hasM (s : St) (q base W H : Nat) (g : Nat → Nat → Nat) : Prop := ∀ x y, x < W → y < H → s.1 q (base + (12 * y + x)) = nI (g x y)
def iSets (s : St) (W H C : Nat) : Prop := s.1 0 12 = s.1 43 10 ∧ (s.1 0 12 = 0 ∨ (s.1 0 12 = 1 ∧ 1 ≤ W ∧ ∃ g, setsOK W H C g ∧ hasW s 30 W H g ∧ hasM s 49 0 W H g))
def iFound (s : St) (W H C : Nat) : Prop := s.1 33 3 = s.1 43 12 ∧ ∃ n, n ≤ 50 ∧ s.1 33 2 = nI n ∧ ((s.1 43 11 = 0 ∧ n = 0) ∨ (s.1 43 11 = 1 ∧ s.1 43 13 = nI n)) ∧ (∀ x y, x < W → y < H → (1 ≤ n → s.1 35 (12 * y + x) = s.1 50 (12 * y + x)) ∧ (2 ≤ n → s.1 37 (12 * y + x) = s.1 50 (144 + (12 * y + x))))
def Inv (s : St) : Prop := iTape s ∧ s.1 0 13 = s.1 43 19 ∧ ∃ W H C, iSize s W H C ∧ iSets s W H C ∧ iFound s W H C ∧ (1 ≤ W → iRuns s W H C ∧ iGrid s W H C 12 13 47 ∧ iGrid s W H C 14 15 48)
/-- two functions answer alike, and the invariant holds behind them -/
def Step {α : Type} (fx fm : St → Option (α × St)) (s : St) : Prop := ∃ r s1 s2, fx s = some (r, s1) ∧ fm s1 = some (r, s2) ∧ Inv s2
theorem Inv_st0 : Inv st0 := by
  refine ⟨⟨0, by omega, rfl, rfl, fun i h => absurd h (by omega)⟩, rfl, 0, 0, 0, ⟨rfl, rfl, rfl, rfl, rfl, rfl, Or.inl ⟨rfl, rfl, rfl⟩⟩, ⟨rfl, Or.inl rfl⟩, ⟨rfl, 0, by omega, rfl, Or.inl ⟨rfl, rfl⟩, fun x y h => absurd h (by omega)⟩, fun h => absurd h (by omega)⟩
