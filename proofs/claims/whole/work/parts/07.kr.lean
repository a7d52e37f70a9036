theorem clO_lt {g ci : Nat} (h : clO g = ci) (hc : ci ≠ 99) : g < 66 := by
  rcases Nat.lt_or_ge g 66 with q | q
  · exact q
  · exfalso
    have h1 : shp[g]? = none := List.getElem?_eq_none (by show 66 ≤ g; exact q)
    simp [clO, h1] at h
    exact hc h.symm
theorem kr_0_0 : ∀ g, clO g = 0 → kdO g 0 = some (rf g 0 + 3) := by
  have h : ∀ g, g < 66 → clO g = 0 → kdO g 0 = some (rf g 0 + 3) := by decide +kernel
  exact fun g hg => h g (clO_lt hg (by decide)) hg
theorem kr_0_1 : ∀ g, clO g = 0 → kdO g 1 = some (rf g 1 + 3) := by
  have h : ∀ g, g < 66 → clO g = 0 → kdO g 1 = some (rf g 1 + 3) := by decide +kernel
  exact fun g hg => h g (clO_lt hg (by decide)) hg
theorem kr_0_2 : ∀ g, clO g = 0 → kdO g 2 = some (rf g 2 + 3) := by
  have h : ∀ g, g < 66 → clO g = 0 → kdO g 2 = some (rf g 2 + 3) := by decide +kernel
  exact fun g hg => h g (clO_lt hg (by decide)) hg
theorem kr_0_3 : ∀ g, clO g = 0 → kdO g 3 = some 0 := by
  have h : ∀ g, g < 66 → clO g = 0 → kdO g 3 = some 0 := by decide +kernel
  exact fun g hg => h g (clO_lt hg (by decide)) hg
theorem kr_0_4 : ∀ g, clO g = 0 → kdO g 4 = some 0 := by
  have h : ∀ g, g < 66 → clO g = 0 → kdO g 4 = some 0 := by decide +kernel
  exact fun g hg => h g (clO_lt hg (by decide)) hg
theorem kr_0_5 : ∀ g, clO g = 0 → kdO g 5 = some 0 := by
  have h : ∀ g, g < 66 → clO g = 0 → kdO g 5 = some 0 := by decide +kernel
  exact fun g hg => h g (clO_lt hg (by decide)) hg
theorem kr_0_6 : ∀ g, clO g = 0 → kdO g 6 = some 0 := by
  have h : ∀ g, g < 66 → clO g = 0 → kdO g 6 = some 0 := by decide +kernel
  exact fun g hg => h g (clO_lt hg (by decide)) hg
theorem kr_1_0 : ∀ g, clO g = 1 → kdO g 0 = some (rf g 0 + 3) := by
  have h : ∀ g, g < 66 → clO g = 1 → kdO g 0 = some (rf g 0 + 3) := by decide +kernel
  exact fun g hg => h g (clO_lt hg (by decide)) hg
theorem kr_1_1 : ∀ g, clO g = 1 → kdO g 1 = some (rf g 1 + 3) := by
  have h : ∀ g, g < 66 → clO g = 1 → kdO g 1 = some (rf g 1 + 3) := by decide +kernel
  exact fun g hg => h g (clO_lt hg (by decide)) hg
theorem kr_1_2 : ∀ g, clO g = 1 → kdO g 2 = some 0 := by
  have h : ∀ g, g < 66 → clO g = 1 → kdO g 2 = some 0 := by decide +kernel
  exact fun g hg => h g (clO_lt hg (by decide)) hg
theorem kr_1_3 : ∀ g, clO g = 1 → kdO g 3 = some 0 := by
  have h : ∀ g, g < 66 → clO g = 1 → kdO g 3 = some 0 := by decide +kernel
  exact fun g hg => h g (clO_lt hg (by decide)) hg
theorem kr_1_4 : ∀ g, clO g = 1 → kdO g 4 = some 0 := by
  have h : ∀ g, g < 66 → clO g = 1 → kdO g 4 = some 0 := by decide +kernel
  exact fun g hg => h g (clO_lt hg (by decide)) hg
theorem kr_2_0 : ∀ g, clO g = 2 → kdO g 0 = some (rf g 0 + 3) := by
  have h : ∀ g, g < 66 → clO g = 2 → kdO g 0 = some (rf g 0 + 3) := by decide +kernel
  exact fun g hg => h g (clO_lt hg (by decide)) hg
theorem kr_2_1 : ∀ g, clO g = 2 → kdO g 1 = some 0 := by
  have h : ∀ g, g < 66 → clO g = 2 → kdO g 1 = some 0 := by decide +kernel
  exact fun g hg => h g (clO_lt hg (by decide)) hg
theorem kr_4_0 : ∀ g, clO g = 4 → kdO g 0 = some (3 + 3) := by
  have h : ∀ g, g < 66 → clO g = 4 → kdO g 0 = some (3 + 3) := by decide +kernel
  exact fun g hg => h g (clO_lt hg (by decide)) hg
theorem kr_4_1 : ∀ g, clO g = 4 → kdO g 1 = some (rf g 1 + 3) := by
  have h : ∀ g, g < 66 → clO g = 4 → kdO g 1 = some (rf g 1 + 3) := by decide +kernel
  exact fun g hg => h g (clO_lt hg (by decide)) hg
theorem ob {α β : Type} {a : Option α} {f : α → Option β} {r : β} (h : Option.bind a f = some r) : ∃ x, a = some x ∧ f x = some r := by
  cases a with
  | none => cases h
  | some x => exact ⟨x, rfl, h⟩
theorem ifn {c : Prop} [Decidable c] {α : Type} {a : Option α} {r : α} (h : (if c then a else none) = some r) : c ∧ a = some r := by
  by_cases hc : c
  · rw [if_pos hc] at h
    exact ⟨hc, h⟩
  · rw [if_neg hc] at h
    cases h
theorem ifz {c : Prop} [Decidable c] {α : Type} {a : Option α} {r : α} (h : (if c then none else a) = some r) : ¬ c ∧ a = some r := by
  by_cases hc : c
  · rw [if_pos hc] at h
    cases h
  · rw [if_neg hc] at h
    exact ⟨hc, h⟩
theorem ifc {c : Prop} [Decidable c] {α : Type} {a : Option α} {r : α} (h : (if ¬ c then none else a) = some r) : c ∧ a = some r := by
  by_cases hc : c
  · rw [if_neg (fun q => q hc)] at h
    exact ⟨hc, h⟩
  · rw [if_pos hc] at h
    cases h
def FU : Nat := 4096
def LAYN : Nat := 14
def LOOKN : Nat := 147
section RowsX
variable {M : MD} {d : Nat} {P : Am → Prop} {pc : Nat} {ls : List (Option Value)} {st : List Value} {σ : St}
theorem wp_topi {x y : Int32} (h : x = y) (k : Wp M d P pc ls (.int y :: st) σ) : Wp M d P pc ls (.int x :: st) σ := h ▸ k
theorem wp_topl {x y : Int64} (h : x = y) (k : Wp M d P pc ls (.long y :: st) σ) : Wp M d P pc ls (.long x :: st) σ := h ▸ k
def SubL : List (Option Value) → List (Option Value) → Prop
  | [], _ => True
  | none :: a, b => SubL a b.tail
  | some v :: a, b => b.head? = some (some v) ∧ SubL a b.tail
theorem SubL.at {ls' : List (Option Value)} : ∀ {ls : List (Option Value)}, SubL ls' ls → ∀ (i : Nat) (v : Value), ls'[i]? = some (some v) → ls[i]? = some (some v) := by
  induction ls' with
  | nil => intro ls _ i v h; simp at h
  | cons w a ih =>
    intro ls hs i v h
    have tl : SubL a ls.tail := by
      cases w with
      | none => exact hs
      | some w => exact hs.2
    cases i with
    | zero =>
      simp at h
      subst h
      have h1 := hs.1
      cases ls with
      | nil => cases h1
      | cons b ls => simpa using h1
    | succ i =>
      have h2 := ih tl i v (by simpa using h)
      cases ls with
      | nil => simp at h2
      | cons b ls => simpa using h2
theorem wp_sub {ls' : List (Option Value)} (h : SubL ls' ls) (k : Wp M d P pc ls' st σ) : Wp M d P pc ls st σ :=
  fun a X hP H locs lsA hW hS hl => k a X hP H locs lsA hW hS ⟨hl.1, hl.2.1, fun i v hv => hl.2.2 i v (h.at i v hv)⟩
theorem wp_inc {i : Nat} {n : Int} {x c : Int32} {ls' : List (Option Value)} (hd : decode M.2.1 pc = .ok (.iinc i n, 3)) (h : ls[i]? = some (some (.int x))) (hv : Int32.ofInt n = c) (hn : i < M.2.2.1) (hz : noL ls i = true) (hs : ls.set i (some (.int (x + c))) = ls') (k : Wp M d P (pc + 3) ls' st σ) : Wp M d P pc ls st σ := wp_iinc hd h (by rw [hv]) hn hz hs k
theorem wp_putI2 {idx g j ci : Nat} {v : Int32} {σ1 : St} (hd : decode M.2.1 pc = .ok (.putfield idx, 3)) (hl : FL M.1.cls idx ci j) (hc : clO g = ci) (hk : kdO g j = some 0) (hfin : ((cT ci).2.1 j).2.2.2 = false) (hty : tT ci j = .int) (he : some (sF σ g j v) = some σ1) (k : Wp M d P (pc + 3) ls st σ1) : Wp M d P pc ls (.int v :: .ref g :: st) σ := wp_putI hd hl hc hk hfin hty (by rw [Option.some.inj he]; exact k)
theorem wp_putZ2 {idx g j ci : Nat} {v : Int32} {σ1 : St} (hd : decode M.2.1 pc = .ok (.putfield idx, 3)) (hl : FL M.1.cls idx ci j) (hc : clO g = ci) (hk : kdO g j = some 0) (hfin : ((cT ci).2.1 j).2.2.2 = false) (hty : tT ci j = .boolean) (hz : v = 0 ∨ v = 1) (he : some (sF σ g j v) = some σ1) (k : Wp M d P (pc + 3) ls st σ1) : Wp M d P pc ls (.int v :: .ref g :: st) σ := wp_putZ hd hl hc hk hfin hty hz (by rw [Option.some.inj he]; exact k)
theorem wp_putJ2 {idx g j ci : Nat} {v : Int64} {σ1 : St} (hd : decode M.2.1 pc = .ok (.putfield idx, 3)) (hl : FL M.1.cls idx ci j) (hc : clO g = ci) (hk : kdO g j = some 1) (hfin : ((cT ci).2.1 j).2.2.2 = false) (hty : tT ci j = .long) (he : some (sL σ g j v) = some σ1) (k : Wp M d P (pc + 3) ls st σ1) : Wp M d P pc ls (.long v :: .ref g :: st) σ := wp_putJ hd hl hc hk hfin hty (by rw [Option.some.inj he]; exact k)
theorem wp_putD2 {idx g j ci q : Nat} {σ1 : St} (hd : decode M.2.1 pc = .ok (.putfield idx, 3)) (hl : FL M.1.cls idx ci j) (hc : clO g = ci) (hk : kdO g j = some 2) (hfin : ((cT ci).2.1 j).2.2.2 = false) (hty : tT ci j = .array .int) (he : some (sD σ q) = some σ1) (k : Wp M d P (pc + 3) ls st σ1) : Wp M d P pc ls (.ref q :: .ref g :: st) σ := wp_putD hd hl hc hk hfin hty (by rw [Option.some.inj he]; exact k)
theorem wp_cVi {idx g d' ci : Nat} {N : MD} {As rest : List Value} {x : Int32} {σ1 : St} (hd : decode M.2.1 pc = .ok (.invokevirtual idx, 3)) (hl : ML M.1.cls idx N.1) (hm : MOk N As.length) (hv : VOk N.1 ci) (hg : clO g = ci) (hst : st = As.reverse ++ .ref g :: rest) (hct : Ct d' N (.ref g :: As) σ (some (.int x)) σ1) (hdd : d' + 1 ≤ d) (hrs : (rest.map fun v => v.category).sum ≤ 8) (k : Wp M d P (pc + 3) ls (.int x :: rest) σ1) : Wp M d P pc ls st σ := wp_cV hd hl hm hv hg hst hct hdd hrs k
theorem wp_cVl {idx g d' ci : Nat} {N : MD} {As rest : List Value} {x : Int64} {σ1 : St} (hd : decode M.2.1 pc = .ok (.invokevirtual idx, 3)) (hl : ML M.1.cls idx N.1) (hm : MOk N As.length) (hv : VOk N.1 ci) (hg : clO g = ci) (hst : st = As.reverse ++ .ref g :: rest) (hct : Ct d' N (.ref g :: As) σ (some (.long x)) σ1) (hdd : d' + 1 ≤ d) (hrs : (rest.map fun v => v.category).sum ≤ 8) (k : Wp M d P (pc + 3) ls (.long x :: rest) σ1) : Wp M d P pc ls st σ := wp_cV hd hl hm hv hg hst hct hdd hrs k
theorem wp_cVr {idx g d' ci : Nat} {N : MD} {As rest : List Value} {x : Nat} {σ1 : St} (hd : decode M.2.1 pc = .ok (.invokevirtual idx, 3)) (hl : ML M.1.cls idx N.1) (hm : MOk N As.length) (hv : VOk N.1 ci) (hg : clO g = ci) (hst : st = As.reverse ++ .ref g :: rest) (hct : Ct d' N (.ref g :: As) σ (some (.ref x)) σ1) (hdd : d' + 1 ≤ d) (hrs : (rest.map fun v => v.category).sum ≤ 8) (k : Wp M d P (pc + 3) ls (.ref x :: rest) σ1) : Wp M d P pc ls st σ := wp_cV hd hl hm hv hg hst hct hdd hrs k
theorem wp_cVv {idx g d' ci : Nat} {N : MD} {As rest : List Value} {σ1 : St} (hd : decode M.2.1 pc = .ok (.invokevirtual idx, 3)) (hl : ML M.1.cls idx N.1) (hm : MOk N As.length) (hv : VOk N.1 ci) (hg : clO g = ci) (hst : st = As.reverse ++ .ref g :: rest) (hct : Ct d' N (.ref g :: As) σ none σ1) (hdd : d' + 1 ≤ d) (hrs : (rest.map fun v => v.category).sum ≤ 8) (k : Wp M d P (pc + 3) ls rest σ1) : Wp M d P pc ls st σ := wp_cV hd hl hm hv hg hst hct hdd hrs k
theorem wp_cSi {idx d' : Nat} {N : MD} {As rest : List Value} {x : Int32} {σ1 : St} (hd : decode M.2.1 pc = .ok (.invokestatic idx, 3)) (hl : ML M.1.cls idx N.1) (hm : MOk N As.length) (hv : Cond.static N.1 ∈ gtb) (hst : st = As.reverse ++ rest) (hct : Ct d' N As σ (some (.int x)) σ1) (hdd : d' + 1 ≤ d) (hrs : (rest.map fun v => v.category).sum ≤ 8) (k : Wp M d P (pc + 3) ls (.int x :: rest) σ1) : Wp M d P pc ls st σ := wp_cS hd hl hm hv hst hct hdd hrs k
theorem wp_cSv {idx d' : Nat} {N : MD} {As rest : List Value} {σ1 : St} (hd : decode M.2.1 pc = .ok (.invokestatic idx, 3)) (hl : ML M.1.cls idx N.1) (hm : MOk N As.length) (hv : Cond.static N.1 ∈ gtb) (hst : st = As.reverse ++ rest) (hct : Ct d' N As σ none σ1) (hdd : d' + 1 ≤ d) (hrs : (rest.map fun v => v.category).sum ≤ 8) (k : Wp M d P (pc + 3) ls rest σ1) : Wp M d P pc ls st σ := wp_cS hd hl hm hv hst hct hdd hrs k
end RowsX
theorem tsw_out {x : Int32} {hi : Int} (n : Nat) (hn : n < 2 ^ 31) (he : hi = (n : Int) - 1) (h : ∀ i : Nat, i < n → ¬ x = nI i) : x.toInt < 0 ∨ hi < x.toInt := by
  rcases Int.lt_or_le x.toInt 0 with q | q
  · exact Or.inl q
  right
  rcases Int.lt_or_le hi x.toInt with z | z
  · exact z
  exfalso
  refine h x.toInt.toNat (by omega) (Int32.toInt_inj.mp ?_)
  rw [nI_toInt (by omega)]
  omega

def mxI (x y : Int32) : Int32 := if x < y then y else x
def mxW (own : String) (idx : Nat) : Prop := Cond.methodLink own idx Lib.Math.max.name ∈ gtb
theorem mx_nat : Cond.static Lib.Math.max.name ∈ gtb ∧ Cond.initialized "java/lang/Math" ∈ gtb ∧ Cond.code Lib.Math.max.name Lib.Math.max.code 2 (some .int) ∈ gtb := ⟨mem_tb 714 (by decide +kernel) rfl, mem_tb 14 (by decide +kernel) rfl, mem_tb 715 (by decide +kernel) rfl⟩
theorem wp_mmax {M : MD} {d : Nat} {P : Am → Prop} {pc : Nat} {ls : List (Option Value)} {st : List Value} {σ : St} {idx : Nat} {x y : Int32} (hd : decode M.2.1 pc = .ok (.invokestatic idx, 3)) (hl : mxW M.1.cls idx) (h1d : 1 ≤ d) (hr : (st.map fun v => v.category).sum ≤ 8) (k : Wp M d P (pc + 3) ls (.int (mxI x y) :: st) σ) : Wp M d P pc ls (.int y :: .int x :: st) σ := by
  intro a X hP H locs lsA hW hS hlo
  have X2 := X
  obtain ⟨hx, hb, hml, hown, hts, hN, hK, hT, -, -, -, hf1, hf2, hf3, hf4, -⟩ := X2
  exact va_mmax hx hb (hml.trans hlo.1.symm) hown (hts _ hl) (hts _ mx_nat.1) (hts _ mx_nat.2.1) (hts _ mx_nat.2.2) (by omega) (by rw [cat_map]; omega) hf3 hf4 hd (k a X hP H locs lsA hW hS hlo)
