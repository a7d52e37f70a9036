/-! rows that are filled; blank, give, mark, end -/
theorem sRow_sF {s : St} {q i : Nat} {v : Int32} {g : Nat → Int32} : sRow (sF s q i v) q g = sRow s q g := by
  simp only [sRow, sF]
  congr 1
  funext a
  by_cases h : a = q
  · simp [rw1, h]
  · funext b
    simp [rw1, u2, h]
theorem fill5 {q N : Nat} {v : Int32} (ht : arT q = 1) (hn : arN q = N) (hN : N < 2 ^ 31) : ∀ (m i n : Nat) (s : St), N - i = m → i ≤ N → m < n → f_J7_fill_53178_5 q n v (nI i) (nI N) s = some (sRow s q (fun j => if i ≤ j ∧ j < N then v else s.1 q j)) := by
  intro m
  induction m with
  | zero =>
    intro i n s hm hi hmn
    obtain ⟨n, rfl⟩ : ∃ z, n = z + 1 := ⟨n - 1, by omega⟩
    unfold f_J7_fill_53178_5
    rw [if_pos (nI_le (by omega) (by omega))]
    congr 1
    have e : (fun j => if i ≤ j ∧ j < N then v else s.1 q j) = s.1 q := by
      funext j
      rw [if_neg (by omega)]
    rw [e]
    obtain ⟨f, g⟩ := s
    simp only [sRow]
    congr 1
    funext a
    by_cases h : a = q
    · simp [rw1, h]
    · simp [rw1, h]
  | succ m ih =>
    intro i n s hm hi hmn
    obtain ⟨n, rfl⟩ : ∃ z, n = z + 1 := ⟨n - 1, by omega⟩
    unfold f_J7_fill_53178_5
    rw [if_neg (nI_ge (by omega) hN), pI_nI ht (by omega) (by omega), obs, nI_1, ih (i + 1) n _ (by omega) (by omega) (by omega), sRow_sF]
    congr 2
    funext j
    by_cases h1 : j = i
    · subst h1
      rw [if_neg (by omega), if_pos (by omega), sF_at]
    · rw [sF_nj h1]
      by_cases h2 : i + 1 ≤ j ∧ j < N
      · rw [if_pos h2, if_pos (by omega)]
      · rw [if_neg h2, if_neg (by omega)]
theorem fill_ok {q N : Nat} {v : Int32} {s : St} (ht : arT q = 1) (hn : arN q = N) (hN : N < 4000) : f_J7_fill_53178 q v s = some (sRow s q (fun j => if j < N then v else s.1 q j)) := by
  unfold f_J7_fill_53178 aLen
  rw [if_pos ht, obs, hn]
  rw [show Int32.ofNat N = nI N from rfl, n0, fill5 ht hn (by omega) N 0 FU s (by omega) (by omega) (by unfold FU; omega)]
  congr 2
  funext j
  simp
theorem fillM {k N : Nat} {v : Int32} (ht : arT k = 1) (hn : N ≤ arN k) (hN : arN k < 2 ^ 31) {f : Nat → Int32 → St → Option St} (hf : ∀ n x s, f (n + 1) x s = if nI N ≤ x then some s else Option.bind (pI s k x v) fun s2 => f n (x + 1) s2) : ∀ (m i n : Nat) (s : St), N - i = m → i ≤ N → m < n → f n (nI i) s = some (sRow s k (fun j => if i ≤ j ∧ j < N then v else s.1 k j)) := by
  intro m
  induction m with
  | zero =>
    intro i n s hm hi hmn
    obtain ⟨n, rfl⟩ : ∃ z, n = z + 1 := ⟨n - 1, by omega⟩
    rw [hf, if_pos (nI_le (by omega) (by omega))]
    congr 1
    have e : (fun j => if i ≤ j ∧ j < N then v else s.1 k j) = s.1 k := by
      funext j
      rw [if_neg (by omega)]
    rw [e]
    obtain ⟨f, g⟩ := s
    simp only [sRow]
    congr 1
    funext a
    by_cases h : a = k
    · simp [rw1, h]
    · simp [rw1, h]
  | succ m ih =>
    intro i n s hm hi hmn
    obtain ⟨n, rfl⟩ : ∃ z, n = z + 1 := ⟨n - 1, by omega⟩
    rw [hf, if_neg (nI_ge (by omega) (by omega)), pI_nI ht (by omega) (by omega), obs, nI_1, ih (i + 1) n _ (by omega) (by omega) (by omega), sRow_sF]
    congr 2
    funext j
    by_cases h1 : j = i
    · subst h1
      rw [if_neg (by omega), if_pos (by omega), sF_at]
    · rw [sF_nj h1]
      by_cases h2 : i + 1 ≤ j ∧ j < N
      · rw [if_pos h2, if_pos (by omega)]
      · rw [if_neg h2, if_neg (by omega)]
def fillR (s : St) (k N : Nat) (v : Int32) : St := sRow s k (fun j => if j < N then v else s.1 k j)
theorem fillR_get {s : St} {k N a b : Nat} {v : Int32} : (fillR s k N v).1 a b = if a = k ∧ b < N then v else s.1 a b := by
  simp only [fillR, sRow_get]
  by_cases h : a = k
  · subst h
    simp
  · simp [h]
theorem fillR_J {s : St} {k N : Nat} {v : Int32} : (fillR s k N v).2 = s.2 := rfl
theorem isNew9 {s : St} : f_X9_isNew s = some (fillR (sF (sF (sF s 43 10 0) 43 11 0) 43 12 (-1)) 47 144 (-1)) := by
  unfold f_X9_isNew
  rw [obs, obs, obs, n0, fillM (k := 47) (N := 144) (v := -1) rfl (by decide) (by decide) (f := f_X9_isNew_17) (fun n x s => rfl) 144 0 FU _ (by omega) (by omega) (by decide)]
  simp only [fillR, Nat.zero_le, true_and]
theorem noMarks9 {s : St} : f_X9_noMarks s = some (fillR s 48 144 (-1)) := by
  unfold f_X9_noMarks
  rw [n0, fillM (k := 48) (N := 144) (v := -1) rfl (by decide) (by decide) (f := f_X9_noMarks_2) (fun n x s => rfl) 144 0 FU _ (by omega) (by omega) (by decide)]
  simp only [fillR, Nat.zero_le, true_and]
theorem blank54 : ∀ (m i n : Nat) (s : St), 24 - i = m → i ≤ 24 → m < n → f_X9_blank_54 n (nI i) s = Option.bind (f_X9_isNew (sRow s 44 (fun j => if i ≤ j ∧ j < 24 then 0 else s.1 44 j))) fun s2 => Option.bind (f_X9_noMarks s2) fun s3 => some ((1 : Int32), s3) := by
  intro m
  induction m with
  | zero =>
    intro i n s hm hi hmn
    obtain ⟨n, rfl⟩ : ∃ z, n = z + 1 := ⟨n - 1, by omega⟩
    unfold f_X9_blank_54
    rw [if_pos (show (24 : Int32) ≤ nI i from nI_le (a := 24) (by omega) (by omega))]
    have e : (fun j => if i ≤ j ∧ j < 24 then (0 : Int32) else s.1 44 j) = s.1 44 := by
      funext j
      rw [if_neg (by omega)]
    rw [e]
    have e2 : sRow s 44 (s.1 44) = s := by
      obtain ⟨f, g⟩ := s
      simp only [sRow]
      congr 1
      funext a
      by_cases h : a = 44
      · simp [rw1, h]
      · simp [rw1, h]
    rw [e2]
  | succ m ih =>
    intro i n s hm hi hmn
    obtain ⟨n, rfl⟩ : ∃ z, n = z + 1 := ⟨n - 1, by omega⟩
    unfold f_X9_blank_54
    rw [if_neg (show ¬ (24 : Int32) ≤ nI i from nI_ge (b := 24) (by omega) (by omega)), pI_nI rfl (by show i < 24; omega) (by decide), obs, nI_1, ih (i + 1) n _ (by omega) (by omega) (by omega), sRow_sF]
    congr 3
    funext j
    by_cases h1 : j = i
    · subst h1
      rw [if_neg (by omega), if_pos (by omega), sF_at]
    · rw [sF_nj h1]
      by_cases h2 : i + 1 ≤ j ∧ j < 24
      · rw [if_pos h2, if_pos (by omega)]
      · rw [if_neg h2, if_neg (by omega)]
theorem clear2 {g : Nat} {s : St} (hc : clO g = 2) (ht : arT (rf g 0) = 1) (hn : arN (rf g 0) = 144) : f_X2_clear g s = some (sF (fillR s (rf g 0) 144 (-1)) g 1 0) := by
  unfold f_X2_clear
  rw [if_neg (fun q => q hc), fill_ok ht hn (by omega), obs, obs]
  rfl
theorem beginP {s : St} : f_X8_beginPuzzle s = some (sF (sF (sF (sF (fillR s 13 144 (-1)) 12 1 0) 0 12 0) 33 2 0) 33 3 (-1)) := by
  unfold f_X8_beginPuzzle f_X1_forgetAll
  rw [clear2 rfl rfl rfl, obs, obs, if_neg (fun q => q rfl), obs, obs, obs]
  rfl
theorem isSize8 {s : St} {a b : Int32} : f_X8_isSize a b s = some (if a.toInt < 1 ∨ b.toInt < a.toInt then 0 else 1, s) := by
  unfold f_X8_isSize
  simp only [Int32.lt_iff_toInt_lt, t1]
  by_cases h1 : a.toInt < 1
  · rw [if_pos h1, if_pos (Or.inl h1)]
  rw [if_neg h1]
  by_cases h2 : b.toInt < a.toInt
  · rw [if_pos h2, if_pos (Or.inr h2)]
  · rw [if_neg h2, if_neg (by omega)]
theorem isSize8n {s : St} {a b : Int32} (h : a.toInt < 1 ∨ b.toInt < a.toInt) : f_X8_isSize a b s = some (0, s) := by rw [isSize8, if_pos h]
theorem isSize8y {s : St} {a b : Int32} (h1 : 1 ≤ a.toInt) (h2 : a.toInt ≤ b.toInt) : f_X8_isSize a b s = some (1, s) := by rw [isSize8, if_neg (by omega)]
theorem size_or (x : Int32) (m : Nat) (hm : m < 2 ^ 30) : (x.toInt < 1 ∨ (m : Int) < x.toInt) ∨ ∃ j, 1 ≤ j ∧ j ≤ m ∧ x = nI j := by
  rcases arg_in x (m + 1) (by omega) with h | ⟨j, hj, e⟩
  · exact Or.inl (by omega)
  · by_cases h0 : j = 0
    · subst h0
      subst e
      exact Or.inl (Or.inl (by rw [nI_toInt (by omega)]; omega))
    · exact Or.inr ⟨j, by omega, by omega, e⟩
theorem t12 : (12 : Int32).toInt = 12 := by decide +kernel
theorem t3 : (3 : Int32).toInt = 3 := by decide +kernel
theorem cntG_none {f : Nat → Int32} : ∀ n, (∀ c, c < n → f c = -1) → cntG f n = 0 := by
  intro n
  induction n with
  | zero => intro _; rfl
  | succ n ih =>
    intro h
    rw [cntG, ih (fun c hc => h c (by omega)), if_pos (h n (by omega))]
theorem smL_0 : ∀ n, smL (fun _ => 0) n = 0 := by
  intro n
  induction n with
  | zero => rfl
  | succ n ih => rw [smL, ih]
def bl1 (s : St) (w h c : Int32) : St := sF (sF (sF (sF (fillR (sF (fillR (fillR (sF (sF (sF (sF s 3 3 w) 3 4 h) 3 5 c) 3 6 0) 4 24 0) 15 144 (-1)) 14 1 0) 13 144 (-1)) 12 1 0) 0 12 0) 33 2 0) 33 3 (-1)
def bl2 (s : St) (w h c : Int32) : St := fillR (fillR (sF (sF (sF (fillR (sF (sF (sF (sF s 43 0 0) 43 1 w) 43 2 h) 43 3 c) 44 24 0) 43 10 0) 43 11 0) 43 12 (-1)) 47 144 (-1)) 48 144 (-1)
theorem blank_inv {s : St} (hI : Inv s) {W H C : Nat} (hW1 : 1 ≤ W) (hW2 : W ≤ 12) (hH1 : 1 ≤ H) (hH2 : H ≤ 12) (hC1 : 1 ≤ C) (hC2 : C ≤ 3) : Inv (bl2 (bl1 s (nI W) (nI H) (nI C)) (nI W) (nI H) (nI C)) := by
  obtain ⟨h1, h2, -⟩ := hI
  refine ⟨?_, ?_, W, H, C, ?_, ?_, ?_, fun _ => ⟨⟨fun _ => 0, fun _ _ => 0, fun _ _ => 0, fun l hl => ⟨Nat.zero_le _, ?_, ?_, Nat.zero_le _, fun k hk => absurd hk (Nat.not_lt_zero k)⟩, ?_⟩, ⟨fun c hc => ?_, fun x y hy hx _ => ?_, ?_⟩, ⟨fun c hc => ?_, fun x y hy hx _ => ?_, ?_⟩⟩⟩
  · simpa [iTape, bl1, bl2, sF_get, fillR_get] using h1
  · simpa [bl1, bl2, sF_get, fillR_get] using h2
  · simp [iSize, bl1, bl2, sF_get, fillR_get, iSz]; omega
  · simp [iSets, bl1, bl2, sF_get, fillR_get]
  · refine ⟨by simp [bl1, bl2, sF_get, fillR_get], 0, by omega, by simp [bl1, bl2, sF_get, fillR_get]; rfl, Or.inl ⟨by simp [bl1, bl2, sF_get, fillR_get], rfl⟩, fun x y _ _ => ⟨fun h => absurd h (by omega), fun h => absurd h (by omega)⟩⟩
  · have : l < 24 := by omega
    simp [bl1, bl2, sF_get, fillR_get, this]; rfl
  · have : l < 24 := by omega
    simp [bl1, bl2, sF_get, fillR_get, this]; rfl
  · rw [smL_0]; simp [bl1, bl2, sF_get, fillR_get]; rfl
  · simp [bl1, bl2, sF_get, fillR_get, hc, gVal]
  · have : 12 * y + x < 144 := by omega
    simp [bl1, bl2, sF_get, fillR_get, this]
  · rw [cntG_none 144 (fun c hc => by simp [bl1, bl2, sF_get, fillR_get, hc])]
    simp [bl1, bl2, sF_get, fillR_get]; rfl
  · simp [bl1, bl2, sF_get, fillR_get, hc, gVal]
  · have : 12 * y + x < 144 := by omega
    simp [bl1, bl2, sF_get, fillR_get, this]
  · rw [cntG_none 144 (fun c hc => by simp [bl1, bl2, sF_get, fillR_get, hc])]
    simp [bl1, bl2, sF_get, fillR_get]; rfl
/-- a new puzzle without runs: what both sides hold -/
theorem st_blank {s : St} (hI : Inv s) (x y z : Int32) : Step (f_X8_blank x y z) (f_X9_blank x y z) s := by
  have no : (x.toInt < 1 ∨ (12 : Int) < x.toInt) ∨ (y.toInt < 1 ∨ (12 : Int) < y.toInt) ∨ (z.toInt < 1 ∨ (3 : Int) < z.toInt) → Step (f_X8_blank x y z) (f_X9_blank x y z) s := by
    intro h
    refine ⟨0, s, sF s 43 0 0, ?_, ?_, hI.thrown⟩
    · unfold f_X8_blank
      by_cases c1 : x.toInt < 1 ∨ (12 : Int) < x.toInt
      · rw [isSize8n (by rw [t12]; exact c1), obs, if_pos rfl]
      rw [isSize8y (by omega) (by rw [t12]; omega), obs, if_neg nz]
      by_cases c2 : y.toInt < 1 ∨ (12 : Int) < y.toInt
      · rw [isSize8n (by rw [t12]; exact c2), obs, if_pos rfl]
      rw [isSize8y (by omega) (by rw [t12]; omega), obs, if_neg nz, isSize8n (by rw [t3]; omega), obs, if_pos rfl]
    · unfold f_X9_blank
      rw [obs]
      by_cases c1 : x.toInt < 1 ∨ (12 : Int) < x.toInt
      · rw [in9n (by rw [t1, t12]; exact c1), obs, if_pos rfl]
      rw [in9y (by rw [t1]; omega) (by rw [t12]; omega), obs, if_neg nz]
      by_cases c2 : y.toInt < 1 ∨ (12 : Int) < y.toInt
      · rw [in9n (by rw [t1, t12]; exact c2), obs, if_pos rfl]
      rw [in9y (by rw [t1]; omega) (by rw [t12]; omega), obs, if_neg nz, in9n (by rw [t1, t3]; omega), obs, if_pos rfl]
  rcases size_or x 12 (by omega) with h | ⟨W, hW1, hW2, rfl⟩
  · exact no (Or.inl h)
  rcases size_or y 12 (by omega) with h | ⟨H, hH1, hH2, rfl⟩
  · exact no (Or.inr (Or.inl h))
  rcases size_or z 3 (by omega) with h | ⟨C, hC1, hC2, rfl⟩
  · exact no (Or.inr (Or.inr h))
  clear no
  refine ⟨1, bl1 s (nI W) (nI H) (nI C), bl2 (bl1 s (nI W) (nI H) (nI C)) (nI W) (nI H) (nI C), ?_, ?_, ?_⟩
  · unfold f_X8_blank f_X0_begin
    rw [isSize8y (by rw [nI_toInt (by omega)]; omega) (by rw [t12, nI_toInt (by omega)]; omega), obs, if_neg nz, isSize8y (by rw [nI_toInt (by omega)]; omega) (by rw [t12, nI_toInt (by omega)]; omega), obs, if_neg nz, isSize8y (by rw [nI_toInt (by omega)]; omega) (by rw [t3, nI_toInt (by omega)]; omega), obs, if_neg nz, if_neg (fun q => q rfl), obs, obs, obs, obs, fill_ok (N := 24) rfl rfl (by omega), obs, obs, clear2 rfl rfl rfl, obs, beginP, obs]
    rfl
  · unfold f_X9_blank
    rw [obs, in9y (by rw [t1, nI_toInt (by omega)]; omega) (by rw [t12, nI_toInt (by omega)]; omega), obs, if_neg nz, in9y (by rw [t1, nI_toInt (by omega)]; omega) (by rw [t12, nI_toInt (by omega)]; omega), obs, if_neg nz, in9y (by rw [t1, nI_toInt (by omega)]; omega) (by rw [t3, nI_toInt (by omega)]; omega), obs, if_neg nz, obs, obs, obs, n0, blank54 24 0 FU _ (by omega) (by omega) (by decide), isNew9, obs, noMarks9, obs]
    simp only [Nat.zero_le, true_and]
    rfl
  · exact blank_inv hI hW1 hW2 hH1 hH2 hC1 hC2

theorem sF_self {s : St} {k j : Nat} : sF s k j (s.1 k j) = s := by
  obtain ⟨f, g⟩ := s
  simp only [sF]
  congr 1
  funext a b
  by_cases h : a = k ∧ b = j
  · simp [u2, h]
  · simp only [u2, if_neg h]
theorem sF_sF {s : St} {k j : Nat} {v w : Int32} : sF (sF s k j v) k j w = sF s k j w := by
  simp only [sF]
  congr 1
  funext a b
  by_cases h : a = k ∧ b = j
  · simp [u2, h]
  · simp only [u2, if_neg h]
def dG (v : Int32) : Int32 := if v = -1 then 0 else 1
theorem put2 {g x y : Nat} {v : Int32} {s : St} (hc : clO g = 2) (ht : arT (rf g 0) = 1) (hn : arN (rf g 0) = 144) (hx : x < 12) (hy : y < 12) : f_X2_put g (nI x) (nI y) v s = some (sF (sF s g 1 (s.1 g 1 - dG (s.1 (rf g 0) (12 * y + x)) + dG v)) (rf g 0) (12 * y + x) v) := by
  have h35 : ∀ t : St, f_X2_put_35 g (nI x) (nI y) v t = some (sF t (rf g 0) (12 * y + x) v) := by
    intro t
    unfold f_X2_put_35
    rw [at12, pI_nI ht (by omega) (by omega), obs]
  have h20 : ∀ t : St, f_X2_put_20 g (nI x) (nI y) v t = some (sF (sF t g 1 (t.1 g 1 + dG v)) (rf g 0) (12 * y + x) v) := by
    intro t
    unfold f_X2_put_20 dG
    by_cases h : v = -1
    · rw [if_pos h, if_pos h, h35, Int32.add_zero, sF_self]
    · rw [if_neg h, if_neg h, obs, h35]
  unfold f_X2_put
  rw [if_neg (fun q => q hc), at2 hc ht hn hx hy, obs]
  by_cases h : s.1 (rf g 0) (12 * y + x) = -1
  · rw [if_pos (show ((s.1 (rf g 0) (12 * y + x), s) : Int32 × St).1 = -1 from h), h20]
    rw [show dG (s.1 (rf g 0) (12 * y + x)) = 0 from if_pos h, Int32.sub_zero]
  · rw [if_neg (show ¬ ((s.1 (rf g 0) (12 * y + x), s) : Int32 × St).1 = -1 from h), obs, h20, sF_sF, sF_at]
    rw [show dG (s.1 (rf g 0) (12 * y + x)) = 1 from if_neg h]
theorem cntG_congr {f g : Nat → Int32} : ∀ n, (∀ j, j < n → f j = g j) → cntG f n = cntG g n := by
  intro n
  induction n with
  | zero => intro _; rfl
  | succ n ih =>
    intro h
    rw [cntG, cntG, ih (fun j hj => h j (by omega)), h n (by omega)]
theorem cntG_le (f : Nat → Int32) : ∀ n, cntG f n ≤ n := by
  intro n
  induction n with
  | zero => exact Nat.le_refl _
  | succ n ih =>
    rw [cntG]
    split <;> omega
theorem cntG_upd {f g : Nat → Int32} {c : Nat} (hg : ∀ j, j ≠ c → g j = f j) : ∀ n, c < n → cntG g n + (if f c = -1 then 0 else 1) = cntG f n + (if g c = -1 then 0 else 1) := by
  intro n
  induction n with
  | zero => intro h; omega
  | succ n ih =>
    intro h
    rw [cntG, cntG]
    by_cases e : c = n
    · subst e
      rw [cntG_congr (f := g) (g := f) c (fun j hj => hg j (by omega))]
      omega
    · have := ih (by omega)
      rw [hg n (fun q => e q.symm)]
      omega
theorem cntG_pos {f : Nat → Int32} {c : Nat} (hc : ¬ f c = -1) : ∀ n, c < n → 1 ≤ cntG f n := by
  intro n h
  have e := cntG_upd (f := f) (g := fun j => if j = c then -1 else f j) (c := c) (fun j hj => if_neg hj) n h
  rw [if_neg hc] at e
  simp at e
  omega
theorem told_upd {f g : Nat → Int32} {c : Nat} {v : Int32} (hg : ∀ j, j ≠ c → g j = f j) (hc : g c = v) (h : c < 144) : nI (cntG f 144) - dG (f c) + dG v = nI (cntG g 144) := by
  have e := cntG_upd hg 144 h
  rw [hc] at e
  have l1 := cntG_le f 144
  have l2 := cntG_le g 144
  unfold dG
  by_cases h1 : f c = -1 <;> by_cases h2 : v = -1
  · rw [if_pos h1, if_pos h2] at e ⊢
    rw [Int32.sub_zero, Int32.add_zero]
    exact congrArg nI (by omega)
  · rw [if_pos h1, if_neg h2] at e ⊢
    rw [Int32.sub_zero, nI_1]
    exact congrArg nI (by omega)
  · rw [if_neg h1, if_pos h2] at e ⊢
    have hp := cntG_pos h1 144 h
    rw [nI_sub1 hp, Int32.add_zero]
    exact congrArg nI (by omega)
  · rw [if_neg h1, if_neg h2] at e ⊢
    have hp := cntG_pos h1 144 h
    rw [nI_sub1 hp, nI_1]
    exact congrArg nI (by omega)
theorem isVal8 {s : St} {W H C : Nat} (hz : iSize s W H C) {v : Int32} : f_X8_isValueOrNone v s = some (if v.toInt < -1 ∨ (C : Int) < v.toInt then 0 else 1, s) := by
  have hle := hz.2.2.2.2.2.2.le
  unfold f_X8_isValueOrNone
  simp only [hz.2.2.1, Int32.lt_iff_toInt_lt, m1_toInt, nI_toInt (show C < 2 ^ 31 by omega)]
  by_cases h1 : v.toInt < -1
  · rw [if_pos h1, if_pos (Or.inl h1)]
  rw [if_neg h1]
  by_cases h2 : (C : Int) < v.toInt
  · rw [if_pos h2, if_pos (Or.inr h2)]
  · rw [if_neg h2, if_neg (by omega)]
theorem val_or (v : Int32) (C : Nat) (hC : C ≤ 3) : (v.toInt < -1 ∨ (C : Int) < v.toInt) ∨ (¬ (v.toInt < -1 ∨ (C : Int) < v.toInt) ∧ gVal C v) := by
  by_cases h : v.toInt < -1 ∨ (C : Int) < v.toInt
  · exact Or.inl h
  · refine Or.inr ⟨h, ?_⟩
    by_cases h1 : v.toInt = -1
    · exact Or.inl (Int32.toInt_inj.mp (h1.trans m1_toInt.symm))
    · exact Or.inr ⟨v.toInt.toNat, by omega, nI_of_toInt (by omega) (by omega)⟩
/-- a grid's cell is put: on both sides -/
theorem iGrid.put {s s' : St} {W H C o k m i j : Nat} {v : Int32} (h : iGrid s W H C o k m) (hv : gVal C v) (hi : i < W) (hj : j < H) (hW : W ≤ 12) (hH : H ≤ 12) (ek : ∀ c, s'.1 k c = if c = 12 * j + i then v else s.1 k c) (em : ∀ c, s'.1 m c = if c = 12 * j + i then v else s.1 m c) (eo : s'.1 o 1 = s.1 o 1 - dG (s.1 k (12 * j + i)) + dG v) : iGrid s' W H C o k m := by
  obtain ⟨h1, h2, h3⟩ := h
  refine ⟨fun c hc => ?_, fun x y hy hx hxy => ?_, ?_⟩
  · rw [ek, em]
    by_cases e : c = 12 * j + i
    · rw [if_pos e, if_pos e]
      exact ⟨rfl, hv⟩
    · rw [if_neg e, if_neg e]
      exact h1 c hc
  · rw [ek, if_neg (by omega)]
    exact h2 x y hy hx hxy
  · rw [eo, h3]
    exact told_upd (fun c hc => by rw [ek, if_neg hc]) (by rw [ek, if_pos rfl]) (by omega)
theorem st_give {s : St} (hI : Inv s) (x y v : Int32) : Step (f_X8_give x y v) (f_X9_give x y v) s := by
  obtain ⟨h1, h2, W, H, C, hz, hs, hf, hr⟩ := id hI
  have hle := hz.2.2.2.2.2.2.le
  rcases cell_or W H x y hle.1 hle.2.1 with h | ⟨i, j, hi, hj, rfl, rfl⟩
  · refine ⟨0, s, sF s 43 0 0, ?_, ?_, hI.thrown⟩
    · unfold f_X8_give; rw [isCell8_no hz h, obs, if_pos rfl]
    · unfold f_X9_give; rw [obs, isCell9_no hz.thrown h, obs, if_pos rfl]
  rcases val_or v C hle.2.2 with h | ⟨h, hv⟩
  · refine ⟨0, s, sF s 43 0 0, ?_, ?_, hI.thrown⟩
    · unfold f_X8_give; rw [isCell8_yes hz hi hj, obs, if_neg nz, isVal8 hz, if_pos h, obs, if_pos rfl]
    · unfold f_X9_give
      rw [obs, isCell9_yes hz.thrown hi hj, obs, if_neg nz, hz.thrown.2.2.2.2.2.1, in9n (by rw [m1_toInt, nI_toInt (by omega)]; exact h), obs, if_pos rfl]
  · refine ⟨1, sF (sF (sF s 12 1 (s.1 12 1 - dG (s.1 13 (12 * j + i)) + dG v)) 13 (12 * j + i) v) 33 2 0, sF (sF (sF (sF (sF (sF s 12 1 (s.1 12 1 - dG (s.1 13 (12 * j + i)) + dG v)) 13 (12 * j + i) v) 33 2 0) 43 0 0) 47 (12 * j + i) v) 43 11 0, ?_, ?_, ?_⟩
    · unfold f_X8_give f_X1_forgetSolutions
      rw [isCell8_yes hz hi hj, obs, if_neg nz, isVal8 hz, if_neg h, obs, if_neg nz, put2 rfl rfl rfl (by omega) (by omega), obs, if_neg (fun q => q rfl), obs, obs]
      rfl
    · have hz1 : iSize (sF (sF (sF (sF s 12 1 (s.1 12 1 - dG (s.1 13 (12 * j + i)) + dG v)) 13 (12 * j + i) v) 33 2 0) 43 0 0) W H C := hz
      unfold f_X9_give
      rw [obs, isCell9_yes hz1 hi hj, obs, if_neg nz, hz1.2.2.2.2.2.1, in9y (by rw [m1_toInt]; omega) (by rw [nI_toInt (by omega)]; omega), obs, if_neg nz, at12, pI_nI rfl (by show _ < 144; omega) (by decide), obs, obs]
    · obtain ⟨hrn, hg, hm⟩ := hr (by omega)
      refine ⟨by simpa [iTape, sF_get] using h1, by simpa [sF_get] using h2, W, H, C, by simpa [iSize, sF_get] using hz, by simpa [iSets, hasW, hasM, sF_get, sF_J] using hs, ⟨by simpa [sF_get] using hf.1, 0, by omega, by simp [sF_get]; rfl, Or.inl ⟨by simp [sF_get], rfl⟩, fun x y _ _ => ⟨fun q => absurd q (by omega), fun q => absurd q (by omega)⟩⟩, fun _ => ⟨by simpa [iRuns, sF_get] using hrn, hg.put hv hi hj (by omega) (by omega) (fun c => by simp [sF_get]) (fun c => by simp [sF_get]) (by simp [sF_get]), by simpa [iGrid, sF_get, sF_ne] using hm⟩⟩
theorem st_mark {s : St} (hI : Inv s) (x y v : Int32) : Step (f_X8_mark x y v) (f_X9_mark x y v) s := by
  obtain ⟨h1, h2, W, H, C, hz, hs, hf, hr⟩ := id hI
  have hle := hz.2.2.2.2.2.2.le
  rcases cell_or W H x y hle.1 hle.2.1 with h | ⟨i, j, hi, hj, rfl, rfl⟩
  · refine ⟨0, s, sF s 43 0 0, ?_, ?_, hI.thrown⟩
    · unfold f_X8_mark; rw [isCell8_no hz h, obs, if_pos rfl]
    · unfold f_X9_mark; rw [obs, isCell9_no hz.thrown h, obs, if_pos rfl]
  rcases val_or v C hle.2.2 with h | ⟨h, hv⟩
  · refine ⟨0, s, sF s 43 0 0, ?_, ?_, hI.thrown⟩
    · unfold f_X8_mark; rw [isCell8_yes hz hi hj, obs, if_neg nz, isVal8 hz, if_pos h, obs, if_pos rfl]
    · unfold f_X9_mark
      rw [obs, isCell9_yes hz.thrown hi hj, obs, if_neg nz, hz.thrown.2.2.2.2.2.1, in9n (by rw [m1_toInt, nI_toInt (by omega)]; exact h), obs, if_pos rfl]
  · refine ⟨1, sF (sF s 14 1 (s.1 14 1 - dG (s.1 15 (12 * j + i)) + dG v)) 15 (12 * j + i) v, sF (sF (sF (sF s 14 1 (s.1 14 1 - dG (s.1 15 (12 * j + i)) + dG v)) 15 (12 * j + i) v) 43 0 0) 48 (12 * j + i) v, ?_, ?_, ?_⟩
    · unfold f_X8_mark
      rw [isCell8_yes hz hi hj, obs, if_neg nz, isVal8 hz, if_neg h, obs, if_neg nz, put2 rfl rfl rfl (by omega) (by omega), obs]
      rfl
    · have hz1 : iSize (sF (sF (sF s 14 1 (s.1 14 1 - dG (s.1 15 (12 * j + i)) + dG v)) 15 (12 * j + i) v) 43 0 0) W H C := hz
      unfold f_X9_mark
      rw [obs, isCell9_yes hz1 hi hj, obs, if_neg nz, hz1.2.2.2.2.2.1, in9y (by rw [m1_toInt]; omega) (by rw [nI_toInt (by omega)]; omega), obs, if_neg nz, at12, pI_nI rfl (by show _ < 144; omega) (by decide), obs]
    · obtain ⟨hrn, hg, hm⟩ := hr (by omega)
      refine ⟨by simpa [iTape, sF_get] using h1, by simpa [sF_get] using h2, W, H, C, by simpa [iSize, sF_get] using hz, by simpa [iSets, hasW, hasM, sF_get, sF_J] using hs, by simpa [iFound, sF_get] using hf, fun _ => ⟨by simpa [iRuns, sF_get] using hrn, by simpa [iGrid, sF_get, sF_ne] using hg, hm.put hv hi hj (by omega) (by omega) (fun c => by simp [sF_get]) (fun c => by simp [sF_get]) (by simp [sF_get])⟩⟩
