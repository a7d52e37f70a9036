/-! solution, wrong -/
theorem st_solution {s : St} (hI : Inv s) (k x y : Int32) : Step (f_X8_solution k x y) (f_X9_solution k x y) s := by
  obtain ⟨h1, h2, W, H, C, hz, hs, hf, hr⟩ := id hI
  have hle := hz.2.2.2.2.2.2.le
  rcases cell_or W H x y hle.1 hle.2.1 with h | ⟨i, j, hi, hj, rfl, rfl⟩
  · refine ⟨-1, s, sF s 43 0 0, ?_, ?_, hI.thrown⟩
    · unfold f_X8_solution; rw [isCell8_no hz h, obs, if_pos rfl]
    · unfold f_X9_solution; rw [obs, isCell9_no hz.thrown h, obs, if_pos rfl]
  obtain ⟨f1, n, hn, f2, f3, f4⟩ := hf
  have e8 : f_X8_solution k (nI i) (nI j) s = if 0 ≤ k.toInt ∧ k.toInt < 2 ∧ k.toInt < (n : Int) then Option.bind (f_X1_kept 33 k s) fun r5 => Option.bind (f_X2_at r5.1 (nI i) (nI j) r5.2) fun r6 => some (r6.1, r6.2) else some (-1, s) := by
    unfold f_X8_solution
    rw [isCell8_yes hz hi hj, obs, if_neg nz, kept1 rfl f2 (by omega), obs]
    by_cases c : 0 ≤ k.toInt ∧ k.toInt < 2 ∧ k.toInt < (n : Int)
    · rw [if_pos c, if_pos c, if_neg nz]
    · rw [if_neg c, if_neg c, if_pos rfl]
  have e9 : f_X9_solution k (nI i) (nI j) s = if s.1 43 11 = 0 then some (-1, sF s 43 0 0) else if k.toInt < 0 ∨ 1 < k.toInt then some (-1, sF s 43 0 0) else if s.1 43 13 ≤ k then some (-1, sF s 43 0 0) else Option.bind (aI (sF s 43 0 0) 50 ((((144 : Int32) * k) + ((12 : Int32) * nI j)) + nI i)) fun x8 => some (x8, sF s 43 0 0) := by
    unfold f_X9_solution
    rw [obs, isCell9_yes hz.thrown hi hj, obs, if_neg nz, sF_nj (by decide)]
    by_cases c : s.1 43 11 = 0
    · rw [if_pos c, if_pos c]
    rw [if_neg c, if_neg c]
    by_cases c2 : k.toInt < 0 ∨ 1 < k.toInt
    · rw [in9n (by rw [t0, t1]; exact c2), obs, if_pos rfl, if_pos c2]
    · rw [in9y (by rw [t0]; omega) (by rw [t1]; omega), obs, if_neg nz, if_neg c2, sF_nj (by decide)]
  by_cases c : 0 ≤ k.toInt ∧ k.toInt < 2 ∧ k.toInt < (n : Int)
  · obtain ⟨g1, g2⟩ : s.1 43 11 = 1 ∧ s.1 43 13 = nI n := by
      rcases f3 with ⟨-, q⟩ | q
      · omega
      · exact q
    have d11 : ¬ s.1 43 11 = 0 := by rw [g1]; decide
    have d13 : ¬ s.1 43 13 ≤ k := by rw [g2, nI_le' (by omega)]; omega
    rw [if_pos c] at e8
    rw [if_neg d11, if_neg (by omega), if_neg d13] at e9
    obtain ⟨p1, p2⟩ := f4 i j hi hj
    have hk : k.toInt = 0 ∨ k.toInt = 1 := by omega
    rcases hk with hk | hk
    · obtain rfl : k = 0 := Int32.toInt_inj.mp (hk.trans t0.symm)
      refine ⟨s.1 35 (12 * j + i), s, sF s 43 0 0, ?_, ?_, hI.thrown⟩
      · rw [e8, f_X1_kept, if_neg (fun q => q rfl), if_pos rfl, obs]
        show Option.bind (f_X2_at 34 (nI i) (nI j) s) _ = _
        rw [at2 (g := 34) (x := i) (y := j) rfl rfl rfl (by omega) (by omega), obs]
        rfl
      · rw [e9, n144, n0, pk_mul, n12, pk_mul, nI_add, nI_add, show 144 * 0 + 12 * j + i = 12 * j + i by omega, aI_nI rfl (by show _ < 288; omega) (by decide), obs, sF_ne (by decide), p1 (by omega)]
    · obtain rfl : k = 1 := Int32.toInt_inj.mp (hk.trans t1.symm)
      refine ⟨s.1 37 (12 * j + i), s, sF s 43 0 0, ?_, ?_, hI.thrown⟩
      · rw [e8, f_X1_kept, if_neg (fun q => q rfl), if_neg (by decide), obs]
        show Option.bind (f_X2_at 36 (nI i) (nI j) s) _ = _
        rw [at2 (g := 36) (x := i) (y := j) rfl rfl rfl (by omega) (by omega), obs]
        rfl
      · rw [e9, n144, n1, pk_mul, n12, pk_mul, nI_add, nI_add, show 144 * 1 + 12 * j + i = 144 + (12 * j + i) by omega, aI_nI rfl (by show _ < 288; omega) (by decide), obs, sF_ne (by decide), p2 (by omega)]
  · rw [if_neg c] at e8
    refine ⟨-1, s, sF s 43 0 0, e8, ?_, hI.thrown⟩
    rw [e9]
    rcases f3 with ⟨q, -⟩ | ⟨q1, q2⟩
    · rw [if_pos q]
    · rw [if_neg (by rw [q1]; decide)]
      by_cases c2 : k.toInt < 0 ∨ 1 < k.toInt
      · rw [if_pos c2]
      · rw [if_neg c2, if_pos (by rw [q2, nI_le' (by omega)]; omega)]
theorem smWH (f : Nat → Nat → Nat) {W : Nat} (hW : 1 ≤ W) : ∀ y, smL (fun k => f (k % W) (k / W)) (W * y) = smC f W y := by
  intro y
  induction y with
  | zero => rfl
  | succ y ih =>
    rw [Nat.mul_succ, smL_add, ih, smC]
    congr 1
    refine smL_congr W (fun j hj => ?_)
    have e1 : (W * y + j) % W = j := by rw [Nat.mul_add_mod, Nat.mod_eq_of_lt hj]
    have e2 : (W * y + j) / W = y := by rw [Nat.mul_add_div (by omega), Nat.div_eq_of_lt hj, Nat.add_zero]
    show f ((W * y + j) % W) ((W * y + j) / W) = f j y
    rw [e1, e2]
theorem inOrd9 {s : St} {W H C k : Nat} (hz : iSize s W H C) (hW : 1 ≤ W) (hk : k < W * H) : f_X9_inOrder (nI k) s = some (nI (12 * (k / W) + k % W), s) := by
  have hle := hz.2.2.2.2.2.2.le
  have hb : k < 144 := Nat.lt_of_lt_of_le hk (Nat.le_trans (Nat.mul_le_mul hle.1 hle.2.1) (by decide))
  have d0 : ¬ nI W = 0 := nI_ne0 (by omega) (by omega)
  unfold f_X9_inOrder
  rw [hz.2.2.2.1, if_neg d0, if_neg d0, pk_rem (by omega) (by omega) (by omega), pk_div (by omega) (by omega) (by omega), n12, pk_mul, nI_add]
theorem kWH {W H k : Nat} (hW : 1 ≤ W) (hk : k < W * H) : k % W < W ∧ k / W < H := ⟨Nat.mod_lt _ (by omega), Nat.div_lt_of_lt_mul hk⟩
/-- a MARK unlike the first solution -/
def unl (f h : Nat → Int32) (x y : Nat) : Nat := if f (12 * y + x) = -1 then 0 else if f (12 * y + x) = h (12 * y + x) then 0 else 1
theorem wrong8 {s : St} {W H C : Nat} (hz : iSize s W H C) : f_X8_wrong_24 FU 0 0 s = some (nI (smC (unl (s.1 15) (s.1 35)) W H), s) := by
  have hle := hz.2.2.2.2.2.2.le
  have z1 := hz.1
  have z2 := hz.2.1
  have inner : ∀ (k x fu : Nat) (K : Int32 → Int32 → St → Option (Int32 × St)) (y v : Nat), y < H → W - x = k → x ≤ W → k < fu → f_X8_wrong_37 K fu (nI v) (nI y) (nI x) s = K (nI (v + smL (fun j => unl (s.1 15) (s.1 35) (x + j) y) (W - x))) (nI y + 1) s := by
    intro k
    induction k with
    | zero =>
      intro x fu K y v hy h1 h2 h3
      obtain ⟨fu, rfl⟩ : ∃ z, fu = z + 1 := ⟨fu - 1, by omega⟩
      obtain rfl : x = W := by omega
      rw [f_X8_wrong_37, z1, if_pos (nI_le (Nat.le_refl _) (by omega)), Nat.sub_self]
      rfl
    | succ k ih =>
      intro x fu K y v hy h1 h2 h3
      obtain ⟨fu, rfl⟩ : ∃ z, fu = z + 1 := ⟨fu - 1, by omega⟩
      rw [f_X8_wrong_37, z1, if_neg (nI_ge (by omega) (by omega)), at2 (g := 14) rfl rfl rfl (by omega) (by omega), obs]
      have e := smL_add (fun j => unl (s.1 15) (s.1 35) (x + j) y) 1 (W - (x + 1))
      rw [show 1 + (W - (x + 1)) = W - x by omega] at e
      rw [e]
      have e1 : smL (fun j => unl (s.1 15) (s.1 35) (x + j) y) 1 = unl (s.1 15) (s.1 35) x y := by simp [smL]
      have e2 : (fun j => unl (s.1 15) (s.1 35) (x + (1 + j)) y) = (fun j => unl (s.1 15) (s.1 35) (x + 1 + j) y) := by
        funext j
        rw [show x + (1 + j) = x + 1 + j by omega]
      rw [e1, e2]
      unfold unl
      by_cases c : s.1 15 (12 * y + x) = -1
      · rw [if_pos c]
        show (if s.1 15 (12 * y + x) = -1 then f_X8_wrong_85 K (f_X8_wrong_37 K fu) (nI v) (nI y) (nI x) s else _) = _
        rw [if_pos c, f_X8_wrong_85, nI_1, ih (x + 1) fu K y v hy (by omega) (by omega) (by omega), Nat.zero_add]
        rfl
      · rw [if_neg c]
        show (if s.1 15 (12 * y + x) = -1 then _ else Option.bind (f_X2_at 34 (nI x) (nI y) s) fun r4 => if s.1 15 (12 * y + x) = r4.1 then f_X8_wrong_85 K (f_X8_wrong_37 K fu) (nI v) (nI y) (nI x) r4.2 else f_X8_wrong_85 K (f_X8_wrong_37 K fu) (nI v + 1) (nI y) (nI x) r4.2) = _
        rw [if_neg c, at2 (g := 34) rfl rfl rfl (by omega) (by omega), obs]
        by_cases c2 : s.1 15 (12 * y + x) = s.1 35 (12 * y + x)
        · rw [if_pos c2]
          show (if s.1 15 (12 * y + x) = s.1 35 (12 * y + x) then f_X8_wrong_85 K (f_X8_wrong_37 K fu) (nI v) (nI y) (nI x) s else _) = _
          rw [if_pos c2, f_X8_wrong_85, nI_1, ih (x + 1) fu K y v hy (by omega) (by omega) (by omega), Nat.zero_add]
          rfl
        · rw [if_neg c2]
          show (if s.1 15 (12 * y + x) = s.1 35 (12 * y + x) then _ else f_X8_wrong_85 K (f_X8_wrong_37 K fu) (nI v + 1) (nI y) (nI x) s) = _
          rw [if_neg c2, f_X8_wrong_85, nI_1, nI_1, ih (x + 1) fu K y (v + 1) hy (by omega) (by omega) (by omega), Nat.add_assoc]
          rfl
  have outer : ∀ (k y fu : Nat), H - y = k → y ≤ H → k < fu → f_X8_wrong_24 fu (nI (smC (unl (s.1 15) (s.1 35)) W y)) (nI y) s = some (nI (smC (unl (s.1 15) (s.1 35)) W H), s) := by
    intro k
    induction k with
    | zero =>
      intro y fu h1 h2 h3
      obtain ⟨fu, rfl⟩ : ∃ z, fu = z + 1 := ⟨fu - 1, by omega⟩
      obtain rfl : y = H := by omega
      rw [f_X8_wrong_24, z2, if_pos (nI_le (Nat.le_refl _) (by omega))]
    | succ k ih =>
      intro y fu h1 h2 h3
      obtain ⟨fu, rfl⟩ : ∃ z, fu = z + 1 := ⟨fu - 1, by omega⟩
      rw [f_X8_wrong_24, z2, if_neg (nI_ge (by omega) (by omega)), n0, inner W 0 FU _ y _ (by omega) (by omega) (by omega) (by unfold FU; omega), nI_1]
      have := ih (y + 1) fu (by omega) (by omega) (by omega)
      rw [smC] at this
      simp only [Nat.zero_add, Nat.sub_zero]
      exact this
  exact outer H 0 FU (by omega) (by omega) (by unfold FU; omega)
theorem wrong9 {s : St} {W H C : Nat} (hz : iSize s W H C) (hW : 1 ≤ W) : f_X9_wrong_32 FU 0 0 s = some (nI (smC (unl (s.1 48) (s.1 50)) W H), s) := by
  have hle := hz.2.2.2.2.2.2.le
  have hb : W * H ≤ 144 := Nat.le_trans (Nat.mul_le_mul hle.1 hle.2.1) (by decide)
  have loop : ∀ (m k fu : Nat), W * H - k = m → k ≤ W * H → m < fu → f_X9_wrong_32 fu (nI (smL (fun k => unl (s.1 48) (s.1 50) (k % W) (k / W)) k)) (nI k) s = some (nI (smL (fun k => unl (s.1 48) (s.1 50) (k % W) (k / W)) (W * H)), s) := by
    intro m
    induction m with
    | zero =>
      intro k fu h1 h2 h3
      obtain ⟨fu, rfl⟩ : ∃ z, fu = z + 1 := ⟨fu - 1, by omega⟩
      obtain rfl : k = W * H := by omega
      rw [f_X9_wrong_32, hz.2.2.2.1, hz.2.2.2.2.1, pk_mul, if_pos (nI_le (Nat.le_refl _) (by omega))]
    | succ m ih =>
      intro k fu h1 h2 h3
      obtain ⟨fu, rfl⟩ : ∃ z, fu = z + 1 := ⟨fu - 1, by omega⟩
      obtain ⟨q1, q2⟩ := kWH hW (show k < W * H by omega)
      have := ih (k + 1) fu (by omega) (by omega) (by omega)
      rw [smL] at this
      rw [f_X9_wrong_32, hz.2.2.2.1, hz.2.2.2.2.1, pk_mul, if_neg (nI_ge (by omega) (by omega)), inOrd9 hz hW (by omega), obs, aI_nI rfl (by show _ < 144; omega) (by decide), obs, obs, aI_nI rfl (by show _ < 288; omega) (by decide), obs]
      unfold unl at this ⊢
      by_cases c : s.1 48 (12 * (k / W) + k % W) = -1
      · rw [if_pos c] at this ⊢
        rw [f_X9_wrong_81, f_X9_wrong_82, Int32.add_zero, nI_1]
        exact this
      · rw [if_neg c] at this ⊢
        by_cases c2 : s.1 48 (12 * (k / W) + k % W) = s.1 50 (12 * (k / W) + k % W)
        · rw [if_pos c2] at this ⊢
          rw [f_X9_wrong_81, f_X9_wrong_82, Int32.add_zero, nI_1]
          exact this
        · rw [if_neg c2] at this ⊢
          rw [f_X9_wrong_82, nI_1, nI_1]
          exact this
  rw [← smWH _ hW]
  exact loop (W * H) 0 FU (by omega) (by omega) (by unfold FU; omega)
theorem smC_congr {f g : Nat → Nat → Nat} {W : Nat} : ∀ H, (∀ x y, x < W → y < H → f x y = g x y) → smC f W H = smC g W H := by
  intro H
  induction H with
  | zero => intro _; rfl
  | succ H ih =>
    intro h
    rw [smC, smC, ih (fun x y hx hy => h x y hx (by omega)), smL_congr W (fun j hj => h j H hj (by omega))]
theorem st_wrong {s : St} (hI : Inv s) : Step f_X8_wrong f_X9_wrong s := by
  obtain ⟨h1, h2, W, H, C, hz, hs, hf, hr⟩ := id hI
  have hle := hz.2.2.2.2.2.2.le
  by_cases hW : W = 0
  · refine ⟨-1, s, sF s 43 0 0, ?_, ?_, hI.thrown⟩
    · unfold f_X8_wrong; rw [hasP8 hz, if_pos hW, obs, if_pos rfl]
    · unfold f_X9_wrong; rw [obs, is9 hz.thrown, if_pos hW, obs, if_pos rfl]
  obtain ⟨f1, n, hn, f2, f3, f4⟩ := hf
  obtain ⟨-, -, hm⟩ := hr (by omega)
  have e8 : f_X8_wrong s = if 1 ≤ n then some (nI (smC (unl (s.1 15) (s.1 35)) W H), s) else some (-1, s) := by
    unfold f_X8_wrong
    rw [hasP8 hz, if_neg hW, obs, if_neg nz, kept1 rfl f2 (by omega), obs]
    by_cases c : 1 ≤ n
    · have c' : 0 ≤ Int32.toInt 0 ∧ Int32.toInt 0 < 2 ∧ Int32.toInt 0 < (n : Int) := by rw [t0]; omega
      rw [if_pos c', if_neg nz, if_pos c, wrong8 hz]
    · have c' : ¬ (0 ≤ Int32.toInt 0 ∧ Int32.toInt 0 < 2 ∧ Int32.toInt 0 < (n : Int)) := by rw [t0]; omega
      rw [if_neg c', if_pos rfl, if_neg c]
  have e9 : f_X9_wrong s = if 1 ≤ n then some (nI (smC (unl (s.1 48) (s.1 50)) W H), sF s 43 0 0) else some (-1, sF s 43 0 0) := by
    unfold f_X9_wrong
    rw [obs, is9 hz.thrown, if_neg hW, obs, if_neg nz, sF_nj (by decide)]
    rcases f3 with ⟨q1, q2⟩ | ⟨q1, q2⟩
    · rw [if_pos q1, if_neg (by omega)]
    · rw [if_neg (by rw [q1]; decide), sF_nj (by decide), q2]
      by_cases c : 1 ≤ n
      · rw [if_neg (nI_ne0 (by omega) (by omega)), if_pos c, wrong9 hz.thrown (by omega), sF_ne (by decide), sF_ne (by decide)]
      · rw [if_pos (by rw [show n = 0 by omega]; rfl), if_neg c]
  by_cases c : 1 ≤ n
  · rw [if_pos c] at e8 e9
    refine ⟨_, s, sF s 43 0 0, e8, ?_, hI.thrown⟩
    rw [e9]
    congr 3
    refine smC_congr H (fun x y hx hy => ?_)
    unfold unl
    rw [← (hm.1 (12 * y + x) (by omega)).1, (f4 x y hx hy).1 c]
  · rw [if_neg c] at e8 e9
    exact ⟨_, s, sF s 43 0 0, e8, e9, hI.thrown⟩
