/-! end and feed -/
theorem st_end {s : St} (hI : Inv s) (x : Int32) : Step (f_X8_end x) (f_X9_end x) s := by
  obtain ⟨⟨n, hn, a1, a2, a3⟩, h2, W, H, C, hz, hs, hf, hr⟩ := id hI
  rcases arg_in x (n + 1) (by omega) with h | ⟨j, hj, rfl⟩
  · refine ⟨-1, s, sF s 43 0 0, ?_, ?_, hI.thrown⟩
    · unfold f_X8_end
      rw [a1]
      by_cases c : x < 0
      · rw [if_pos c]
      · have c2 : ¬ x ≤ nI n := by
          rw [le_nI (by omega)]
          rw [nI_lt0] at c
          omega
        rw [if_neg c, if_neg c2]
    · unfold f_X9_end
      rw [obs, sF_nj (by decide), a2, in9n (by rw [t0, nI_toInt (by omega)]; omega), obs, if_pos rfl]
  · refine ⟨nI j, sF s 1 1 (nI j), sF (sF (sF s 1 1 (nI j)) 43 0 0) 43 16 (nI j), ?_, ?_, ?_⟩
    · unfold f_X8_end
      rw [a1, if_neg (nI_pos (by omega)), if_pos (nI_le (by omega) (by omega)), obs]
    · unfold f_X9_end
      rw [obs, sF_nj (by decide), sF_ne (by decide), a2, in9y (by rw [t0, nI_toInt (by omega)]; omega) (by rw [nI_toInt (by omega), nI_toInt (by omega)]; omega), obs, if_neg nz, obs]
    · exact ⟨⟨j, by omega, by simp [sF_get], by simp [sF_get], fun i hi => by simpa [sF_get] using a3 i (by omega)⟩, by simpa [sF_get] using h2, W, H, C, by simpa [iSize, sF_get] using hz, by simpa [iSets, hasW, hasM, sF_get, sF_J] using hs, by simpa [iFound, sF_get] using hf, fun q => by simpa [iRuns, iGrid, sF_get, sF_ne] using hr q⟩
def apB (q r j : Nat) (s : St) : Nat → List Int32 → St
  | _, [] => s
  | n, b :: bs => apB q r j (sF (sF s q n b) r j (nI (n + 1))) (n + 1) bs
theorem apB_app {q r j : Nat} (bs cs : List Int32) : ∀ (s : St) (n : Nat), apB q r j s n (bs ++ cs) = apB q r j (apB q r j s n bs) (n + bs.length) cs := by
  induction bs with
  | nil => intro s n; rfl
  | cons b bs ih =>
    intro s n
    show apB q r j (sF (sF s q n b) r j (nI (n + 1))) (n + 1) (bs ++ cs) = _
    rw [ih]
    show apB q r j _ (n + 1 + bs.length) cs = apB q r j _ (n + (bs.length + 1)) cs
    rw [show n + 1 + bs.length = n + (bs.length + 1) by omega]
    rfl
theorem apB_row {q r j : Nat} (hqr : q ≠ r) (bs : List Int32) : ∀ (s : St) (n i : Nat), (apB q r j s n bs).1 q i = if n ≤ i ∧ i < n + bs.length then bs.getD (i - n) 0 else s.1 q i := by
  induction bs with
  | nil => intro s n i; rw [if_neg (by simp)]; rfl
  | cons b bs ih =>
    intro s n i
    show (apB q r j (sF (sF s q n b) r j (nI (n + 1))) (n + 1) bs).1 q i = _
    rw [ih, sF_ne hqr]
    by_cases h1 : i = n
    · subst h1
      rw [if_neg (by omega), if_pos (by simp), sF_at]
      simp
    · rw [sF_nj h1]
      by_cases h2 : n + 1 ≤ i ∧ i < n + 1 + bs.length
      · rw [if_pos h2, if_pos (by simp; omega), show i - n = (i - (n + 1)) + 1 by omega]
        rfl
      · rw [if_neg h2, if_neg (by simp; omega)]
theorem apB_size {q r j : Nat} (bs : List Int32) : ∀ (s : St) (n : Nat), s.1 r j = nI n → (apB q r j s n bs).1 r j = nI (n + bs.length) := by
  induction bs with
  | nil => intro s n h; exact h
  | cons b bs ih =>
    intro s n h
    show (apB q r j (sF (sF s q n b) r j (nI (n + 1))) (n + 1) bs).1 r j = _
    rw [ih _ _ sF_at]
    congr 1
    simp
    omega
theorem apB_other {q r j : Nat} (bs : List Int32) : ∀ (s : St) (n a b : Nat), a ≠ q → ¬ (a = r ∧ b = j) → (apB q r j s n bs).1 a b = s.1 a b := by
  induction bs with
  | nil => intro s n a b _ _; rfl
  | cons c bs ih =>
    intro s n a b h1 h2
    show (apB q r j (sF (sF s q n c) r j (nI (n + 1))) (n + 1) bs).1 a b = _
    rw [ih _ _ a b h1 h2, sF_get, if_neg h2, sF_ne h1]
theorem apB_J {q r j : Nat} (bs : List Int32) : ∀ (s : St) (n : Nat), (apB q r j s n bs).2 = s.2 := by
  induction bs with
  | nil => intro s n; rfl
  | cons c bs ih => intro s n; exact ih _ _
def ub (v : Int32) (k : Nat) : Int32 := ((v.toUInt32 >>> ((nI k).toUInt32 &&& Int32.toUInt32 31)).toInt32).toInt8.toInt32
def mb (v : Int32) (k : Nat) : Int32 := (v >>> (nI k &&& 31)) &&& 255
def by4 (f : Int32 → Nat → Int32) (v : Int32) : List Int32 := [f v 24, f v 16, f v 8, f v 0]
theorem mb_lt (v : Int32) (k : Nat) : ∃ b, b < 256 ∧ mb v k = nI b := pk_andE (v >>> (nI k &&& 31)) 8 (by decide +kernel)
theorem i8_of {x y : Int32} (h : ∀ i, i < 8 → bt x i = bt y i) : x.toInt8 = y.toInt8 := by
  apply Int8.toBitVec_inj.mp
  apply BitVec.eq_of_getLsbD_eq
  intro i hi
  have h1 : ∀ z : Int32, z.toInt8.toBitVec.getLsbD i = bt z i := by
    intro z
    rw [Int32.toBitVec_toInt8, BitVec.getLsbD_signExtend]
    simp [bt, hi, show i < 32 by omega]
  rw [h1, h1, h i hi]
theorem ub_mb (v : Int32) (k : Nat) (hk : k ≤ 24) : ub v k = (mb v k).toInt8.toInt32 := by
  unfold ub mb
  congr 1
  apply i8_of
  intro i hi
  rw [b_ushr k (by omega), b_and, b_sshr k (by omega) v (by omega), if_pos (by omega), b_255]
  simp [hi]
theorem append1 {n m : Nat} {v : Int32} {k : Nat} {s : St} (h : s.1 1 1 = nI m) (hm : m < 900) (hk : k ≤ 24) : f_X6_append_3 (n + 1) v (nI k) s = f_X6_append_3 n v (nI k + (-8)) (sF (sF s 2 m (ub v k)) 1 1 (nI (m + 1))) := by
  unfold f_X6_append_3
  have c2 : ¬ (900 : Int32) ≤ nI m := nI_ge (b := 900) hm (by omega)
  rw [if_neg (nI_pos (by omega)), h, if_neg c2, pB_nI rfl hm (by decide), obs, obs, sF_ne (by decide), h, nI_1, pk_vb]
  cases n <;> rfl
theorem append_ok {m : Nat} {v : Int32} {s : St} (h : s.1 1 1 = nI m) (hm : m + 4 ≤ 900) : f_X6_append v s = some (apB 2 1 1 s m (by4 ub v)) := by
  unfold f_X6_append
  rw [show FU = (4091 + 1 + 1 + 1 + 1 + 1) from rfl, show (24 : Int32) = nI 24 by decide +kernel, append1 h (by omega) (by omega), show nI 24 + -8 = nI 16 by decide +kernel, append1 sF_at (by omega) (by omega), show nI 16 + -8 = nI 8 by decide +kernel, append1 sF_at (by omega) (by omega), show nI 8 + -8 = nI 0 by decide +kernel, append1 sF_at (by omega) (by omega), show nI 0 + -8 = -8 by decide +kernel]
  unfold f_X6_append_3
  rw [if_pos (by decide)]
  rfl
theorem four1 {n m : Nat} {v : Int32} {k : Nat} {s : St} (h : s.1 43 16 = nI m) (hm : m < 900) (hk : k ≤ 3) : f_X9_four_2 (n + 1) v (nI k) s = f_X9_four_2 n v (nI k + (-1)) (sF (sF s 51 m (mb v (8 * k))) 43 16 (nI (m + 1))) := by
  unfold f_X9_four_2
  rw [if_neg (nI_pos (by omega)), h, pI_nI rfl hm (by decide), obs, obs, sF_ne (by decide), h, nI_1, show (8 : Int32) * nI k = nI (8 * k) from pk_mul 8 k]
  cases n <;> rfl
theorem four_ok {m : Nat} {v : Int32} {s : St} (h : s.1 43 16 = nI m) (hm : m + 4 ≤ 900) : f_X9_four v s = some (apB 51 43 16 s m (by4 mb v)) := by
  unfold f_X9_four
  rw [show FU = (4091 + 1 + 1 + 1 + 1 + 1) from rfl, show (3 : Int32) = nI 3 by decide +kernel, four1 h (by omega) (by omega), show nI 3 + -1 = nI 2 by decide +kernel, four1 sF_at (by omega) (by omega), show nI 2 + -1 = nI 1 by decide +kernel, four1 sF_at (by omega) (by omega), show nI 1 + -1 = nI 0 by decide +kernel, four1 sF_at (by omega) (by omega), show nI 0 + -1 = -1 by decide +kernel]
  unfold f_X9_four_2
  rw [if_pos (by decide)]
  rfl
def by20 (f : Int32 → Nat → Int32) (a b c d e : Int32) : List Int32 := by4 f a ++ (by4 f b ++ (by4 f c ++ (by4 f d ++ by4 f e)))
theorem feed8 {m : Nat} {a b c d e : Int32} {s : St} (h : s.1 1 1 = nI m) (hm : m + 20 ≤ 900) : f_X8_feed a b c d e s = some (nI (m + 20), apB 2 1 1 s m (by20 ub a b c d e)) := by
  have h1 := append_ok (v := a) h (by omega)
  have s1 := apB_size (q := 2) (r := 1) (j := 1) (by4 ub a) s m h
  have h2 := append_ok (v := b) s1 (show m + 4 + 4 ≤ 900 by omega)
  have s2 := apB_size (q := 2) (r := 1) (j := 1) (by4 ub b) _ _ s1
  have h3 := append_ok (v := c) s2 (show m + 4 + 4 + 4 ≤ 900 by omega)
  have s3 := apB_size (q := 2) (r := 1) (j := 1) (by4 ub c) _ _ s2
  have h4 := append_ok (v := d) s3 (show m + 4 + 4 + 4 + 4 ≤ 900 by omega)
  have s4 := apB_size (q := 2) (r := 1) (j := 1) (by4 ub d) _ _ s3
  have h5 := append_ok (v := e) s4 (show m + 4 + 4 + 4 + 4 + 4 ≤ 900 by omega)
  have s5 := apB_size (q := 2) (r := 1) (j := 1) (by4 ub e) _ _ s4
  have c0 : s.1 1 1 + 20 ≤ 900 := by rw [h, show (20 : Int32) = nI 20 by decide +kernel, nI_add]; exact nI_le (b := 900) (by omega) (by omega)
  unfold f_X8_feed
  rw [if_pos c0, h1, obs, h2, obs, h3, obs, h4, obs, h5, obs]
  unfold by20
  rw [apB_app, apB_app, apB_app, apB_app]
  exact congrArg some (Prod.ext s5 rfl)
theorem feed9 {m : Nat} {a b c d e : Int32} {s : St} (h : s.1 43 16 = nI m) (hm : m + 20 ≤ 900) : f_X9_feed a b c d e s = some (nI (m + 20), apB 51 43 16 (sF s 43 0 0) m (by20 mb a b c d e)) := by
  have h0 : (sF s 43 0 0).1 43 16 = nI m := by rw [sF_nj (by decide)]; exact h
  have h1 := four_ok (v := a) h0 (by omega)
  have s1 := apB_size (q := 51) (r := 43) (j := 16) (by4 mb a) _ m h0
  have h2 := four_ok (v := b) s1 (show m + 4 + 4 ≤ 900 by omega)
  have s2 := apB_size (q := 51) (r := 43) (j := 16) (by4 mb b) _ _ s1
  have h3 := four_ok (v := c) s2 (show m + 4 + 4 + 4 ≤ 900 by omega)
  have s3 := apB_size (q := 51) (r := 43) (j := 16) (by4 mb c) _ _ s2
  have h4 := four_ok (v := d) s3 (show m + 4 + 4 + 4 + 4 ≤ 900 by omega)
  have s4 := apB_size (q := 51) (r := 43) (j := 16) (by4 mb d) _ _ s3
  have h5 := four_ok (v := e) s4 (show m + 4 + 4 + 4 + 4 + 4 ≤ 900 by omega)
  have s5 := apB_size (q := 51) (r := 43) (j := 16) (by4 mb e) _ _ s4
  have c0 : (sF s 43 0 0).1 43 16 + 20 ≤ 900 := by rw [h0, show (20 : Int32) = nI 20 by decide +kernel, nI_add]; exact nI_le (b := 900) (by omega) (by omega)
  unfold f_X9_feed
  rw [obs, if_pos c0, h1, obs, h2, obs, h3, obs, h4, obs, h5, obs]
  unfold by20
  rw [apB_app, apB_app, apB_app, apB_app]
  exact congrArg some (Prod.ext s5 rfl)
theorem by4_rel (v : Int32) : ∀ i, i < 4 → ∃ b, b < 256 ∧ (by4 mb v).getD i 0 = nI b ∧ (by4 ub v).getD i 0 = (nI b).toInt8.toInt32 := by
  intro i hi
  have one : ∀ k, k ≤ 24 → ∃ b, b < 256 ∧ mb v k = nI b ∧ ub v k = (nI b).toInt8.toInt32 := by
    intro k hk
    obtain ⟨b, h1, h2⟩ := mb_lt v k
    exact ⟨b, h1, h2, by rw [ub_mb v k hk, h2]⟩
  match i, hi with
  | 0, _ => exact one 24 (by omega)
  | 1, _ => exact one 16 (by omega)
  | 2, _ => exact one 8 (by omega)
  | 3, _ => exact one 0 (by omega)
theorem getD_app {l m : List Int32} {i : Nat} : (l ++ m).getD i 0 = if i < l.length then l.getD i 0 else m.getD (i - l.length) 0 := by
  rw [List.getD_eq_getElem?_getD, List.getD_eq_getElem?_getD, List.getD_eq_getElem?_getD]
  split
  · rename_i h
    rw [List.getElem?_append_left h]
  · rename_i h
    rw [List.getElem?_append_right (by omega)]
theorem by20_rel (a b c d e : Int32) : ∀ i, i < 20 → ∃ z, z < 256 ∧ (by20 mb a b c d e).getD i 0 = nI z ∧ (by20 ub a b c d e).getD i 0 = (nI z).toInt8.toInt32 := by
  intro i hi
  have l4 : ∀ f v, (by4 f v).length = 4 := fun f v => rfl
  unfold by20
  simp only [getD_app, l4]
  by_cases h1 : i < 4
  · simp only [h1, if_true]; exact by4_rel a i h1
  by_cases h2 : i - 4 < 4
  · simp only [h1, h2, if_true, if_false]; exact by4_rel b _ h2
  by_cases h3 : i - 4 - 4 < 4
  · simp only [h1, h2, h3, if_true, if_false]; exact by4_rel c _ h3
  by_cases h4 : i - 4 - 4 - 4 < 4
  · simp only [h1, h2, h3, h4, if_true, if_false]; exact by4_rel d _ h4
  · simp only [h1, h2, h3, h4, if_false]; exact by4_rel e _ (by omega)
theorem st_feed {s : St} (hI : Inv s) (a b c d e : Int32) : Step (f_X8_feed a b c d e) (f_X9_feed a b c d e) s := by
  obtain ⟨⟨n, hn, a1, a2, a3⟩, h2, W, H, C, hz, hs, hf, hr⟩ := id hI
  by_cases hb : n + 20 ≤ 900
  · have o8 : ∀ x y, x ≠ 2 → ¬ (x = 1 ∧ y = 1) → (apB 2 1 1 s n (by20 ub a b c d e)).1 x y = s.1 x y := fun x y h1 h2 => apB_other _ _ _ x y h1 h2
    have m1 : (apB 2 1 1 s n (by20 ub a b c d e)).1 43 16 = nI n := by rw [o8 43 16 (by decide) (by decide)]; exact a2
    have o9 : ∀ x y, x ≠ 51 → x ≠ 43 → (apB 51 43 16 (sF (apB 2 1 1 s n (by20 ub a b c d e)) 43 0 0) n (by20 mb a b c d e)).1 x y = (apB 2 1 1 s n (by20 ub a b c d e)).1 x y := fun x y h1 h2 => by rw [apB_other _ _ _ x y h1 (fun q => h2 q.1), sF_ne h2]
    have o10 : ∀ y, y ≠ 16 → y ≠ 0 → (apB 51 43 16 (sF (apB 2 1 1 s n (by20 ub a b c d e)) 43 0 0) n (by20 mb a b c d e)).1 43 y = s.1 43 y := fun y h1 h2 => by rw [apB_other _ _ _ 43 y (by decide) (fun q => h1 q.2), sF_nj h2, o8 43 y (by decide) (fun q => absurd q.1 (by decide))]
    refine ⟨nI (n + 20), _, _, feed8 a1 hb, feed9 m1 hb, ?_⟩
    have key : ∀ x y, x ≠ 51 → x ≠ 43 → x ≠ 2 → x ≠ 1 → (apB 51 43 16 (sF (apB 2 1 1 s n (by20 ub a b c d e)) 43 0 0) n (by20 mb a b c d e)).1 x y = s.1 x y := fun x y h1 h2 h3 h4 => by rw [o9 x y h1 h2, o8 x y h3 (fun q => h4 q.1)]
    have keyf : ∀ x, x ≠ 51 → x ≠ 43 → x ≠ 2 → x ≠ 1 → (apB 51 43 16 (sF (apB 2 1 1 s n (by20 ub a b c d e)) 43 0 0) n (by20 mb a b c d e)).1 x = s.1 x := fun x h1 h2 h3 h4 => funext (fun y => key x y h1 h2 h3 h4)
    have keyJ : (apB 51 43 16 (sF (apB 2 1 1 s n (by20 ub a b c d e)) 43 0 0) n (by20 mb a b c d e)).2 = s.2 := by rw [apB_J, sF_J, apB_J]
    refine ⟨⟨n + 20, by omega, ?_, ?_, fun i hi => ?_⟩, ?_, W, H, C, ?_, ?_, ?_, fun q => ?_⟩
    · rw [o9 1 1 (by decide) (by decide)]
      exact apB_size _ _ _ a1
    · exact apB_size _ _ _ (by rw [sF_nj (by decide)]; exact m1)
    · rw [o9 2 i (by decide) (by decide), apB_row (by decide), apB_row (by decide), sF_ne (by decide), o8 51 i (by decide) (fun q => absurd q.1 (by decide))]
      have e1 : (by20 ub a b c d e).length = 20 := rfl
      have e2 : (by20 mb a b c d e).length = 20 := rfl
      rw [e1, e2]
      by_cases h : n ≤ i ∧ i < n + 20
      · rw [if_pos h, if_pos h]
        exact by20_rel a b c d e (i - n) (by omega)
      · rw [if_neg h, if_neg h]
        exact a3 i (by omega)
    · rw [key 0 13 (by decide) (by decide) (by decide) (by decide), o10 19 (by decide) (by decide)]
      exact h2
    · unfold iSize
      rw [keyf 3 (by decide) (by decide) (by decide) (by decide), o10 1 (by decide) (by decide), o10 2 (by decide) (by decide), o10 3 (by decide) (by decide)]
      exact hz
    · unfold iSets hasW hasM
      rw [keyf 0 (by decide) (by decide) (by decide) (by decide), keyf 49 (by decide) (by decide) (by decide) (by decide), o10 10 (by decide) (by decide), keyJ]
      exact hs
    · unfold iFound
      rw [keyf 33 (by decide) (by decide) (by decide) (by decide), keyf 35 (by decide) (by decide) (by decide) (by decide), keyf 37 (by decide) (by decide) (by decide) (by decide), keyf 50 (by decide) (by decide) (by decide) (by decide), o10 11 (by decide) (by decide), o10 12 (by decide) (by decide), o10 13 (by decide) (by decide)]
      exact hf
    · unfold iRuns iGrid
      rw [keyf 3 (by decide) (by decide) (by decide) (by decide), keyf 4 (by decide) (by decide) (by decide) (by decide), keyf 5 (by decide) (by decide) (by decide) (by decide), keyf 6 (by decide) (by decide) (by decide) (by decide), keyf 44 (by decide) (by decide) (by decide) (by decide), keyf 45 (by decide) (by decide) (by decide) (by decide), keyf 46 (by decide) (by decide) (by decide) (by decide), keyf 12 (by decide) (by decide) (by decide) (by decide), keyf 13 (by decide) (by decide) (by decide) (by decide), keyf 14 (by decide) (by decide) (by decide) (by decide), keyf 15 (by decide) (by decide) (by decide) (by decide), keyf 47 (by decide) (by decide) (by decide) (by decide), keyf 48 (by decide) (by decide) (by decide) (by decide)]
      exact hr q
  · have c0 : ¬ nI n + 20 ≤ 900 := by rw [show (20 : Int32) = nI 20 by decide +kernel, nI_add]; exact nI_ge (a := 900) (by omega) (by omega)
    refine ⟨-1, s, sF s 43 0 0, ?_, ?_, hI.thrown⟩
    · unfold f_X8_feed
      rw [a1, if_neg c0]
    · unfold f_X9_feed
      rw [obs, sF_nj (by decide), a2, if_neg c0]
