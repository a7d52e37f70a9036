/-! the model cuts the text -/
def Tm (s : St) (b : Nat → Nat) (N : Nat) : Prop := N ≤ 900 ∧ s.1 43 16 = nI N ∧ ∀ i, i < N → b i < 256 ∧ s.1 51 i = nI (b i)
/-- k tokens are written -/
def wTk (s : St) (b : Nat → Nat) (N k : Nat) : Prop := ∀ j, j < k → s.1 52 j = nI (tK b N j) ∧ s.1 53 j = nI (tS b N j) ∧ s.1 54 j = nI (tV b N j)
def CFr (s s' : St) : Prop := (∀ a, a ≠ 43 → a ≠ 52 → a ≠ 53 → a ≠ 54 → s'.1 a = s.1 a) ∧ (∀ j, j ≠ 17 → j ≠ 18 → j ≠ 23 → s'.1 43 j = s.1 43 j) ∧ s'.2 = s.2
theorem CFr.rfl' {s : St} : CFr s s := ⟨fun _ _ _ _ _ => rfl, fun _ _ _ _ => rfl, rfl⟩
theorem CFr.trans {s t u : St} (a : CFr s t) (c : CFr t u) : CFr s u := ⟨fun i i1 i2 i3 i4 => (c.1 i i1 i2 i3 i4).trans (a.1 i i1 i2 i3 i4), fun j j1 j2 j3 => (c.2.1 j j1 j2 j3).trans (a.2.1 j j1 j2 j3), c.2.2.trans a.2.2⟩
theorem Tm.c {s s' : St} {b : Nat → Nat} {N : Nat} (h : Tm s b N) (f : CFr s s') : Tm s' b N := by
  unfold Tm
  rw [f.2.1 16 (by decide) (by decide) (by decide), f.1 51 (by decide) (by decide) (by decide) (by decide)]
  exact h
theorem good9 {s : St} (h : s.1 43 17 = 0) : f_X9_good s = some (1, s) := by
  unfold f_X9_good
  rw [if_pos h]
theorem bad9 {s : St} (h : ¬ s.1 43 17 = 0) : f_X9_good s = some (0, s) := by
  unfold f_X9_good
  rw [if_neg h]
theorem fails9 {s : St} {x y : Int32} (h : s.1 43 17 = 0) : f_X9_fails x y s = some (sF (sF s 43 17 x) 43 18 y) := by
  unfold f_X9_fails
  rw [h, if_pos (by decide), obs, obs]
theorem token9 {s : St} {k : Nat} {x y z : Int32} (h : s.1 43 23 = nI k) (hk : k ≤ 900) : ∃ s', f_X9_token x y z s = some s' ∧ CFr s s' ∧ s'.1 43 17 = s.1 43 17 ∧ s'.1 43 18 = s.1 43 18 ∧ s'.1 43 23 = nI (k + 1) ∧ (∀ j, j ≠ k → s'.1 52 j = s.1 52 j ∧ s'.1 53 j = s.1 53 j ∧ s'.1 54 j = s.1 54 j) ∧ s'.1 52 k = x ∧ s'.1 53 k = y ∧ s'.1 54 k = z := by
  unfold f_X9_token
  rw [h, pI_nI rfl (by show k < 901; omega) (by decide), obs, sF_ne (by decide), h, pI_nI rfl (by show k < 901; omega) (by decide), obs, sF_ne (by decide), sF_ne (by decide), h, pI_nI rfl (by show k < 901; omega) (by decide), obs, obs, sF_ne (by decide), sF_ne (by decide), sF_ne (by decide), h, nI_1]
  exact ⟨_, rfl, ⟨fun a a1 a2 a3 a4 => by rw [sF_ne a1, sF_ne a4, sF_ne a3, sF_ne a2], fun j _ _ j3 => by rw [sF_nj j3, sF_ne (by decide), sF_ne (by decide), sF_ne (by decide)], rfl⟩, by rw [sF_nj (by decide), sF_ne (by decide), sF_ne (by decide), sF_ne (by decide)], by rw [sF_nj (by decide), sF_ne (by decide), sF_ne (by decide), sF_ne (by decide)], by rw [sF_at], fun j hj => ⟨by rw [sF_ne (by decide), sF_ne (by decide), sF_ne (by decide), sF_nj hj], by rw [sF_ne (by decide), sF_ne (by decide), sF_nj hj, sF_ne (by decide)], by rw [sF_ne (by decide), sF_nj hj, sF_ne (by decide), sF_ne (by decide)]⟩, by rw [sF_ne (by decide), sF_ne (by decide), sF_ne (by decide), sF_at], by rw [sF_ne (by decide), sF_ne (by decide), sF_at], by rw [sF_ne (by decide), sF_at]⟩
theorem cut66d {b : Nat → Nat} {N : Nat} {K7 : Int32 → St → Option St} {s : St} {p v : Nat} (hT : Tm s b N) : ∀ (m j fu : Nat), j + m = N → m < fu → p + 2 ≤ j → ∃ q, j ≤ q ∧ q ≤ N ∧ (j < N → dg (b j) = true → j < q) ∧ f_X9_cut_66 K7 fu (nI j) (nI p) (nI v) s = f_X9_cut_120 K7 (nI q) (nI p) (nI v) s := by
  have hN := hT.1
  intro m
  induction m with
  | zero =>
    intro j fu h1 h2 hp
    obtain ⟨fu, rfl⟩ : ∃ z, fu = z + 1 := ⟨fu - 1, by omega⟩
    refine ⟨j, Nat.le_refl _, by omega, fun h => absurd h (by omega), ?_⟩
    rw [f_X9_cut_66, hT.2.1, if_pos (nI_le (by omega) (by omega))]
  | succ m ih =>
    intro j fu h1 h2 hp
    obtain ⟨fu, rfl⟩ : ∃ z, fu = z + 1 := ⟨fu - 1, by omega⟩
    have hj : j < N := by omega
    have hb := (hT.2.2 j hj).1
    have hd := nI_dg (b j) hb
    by_cases c : dg (b j) = true
    · obtain ⟨q, q1, q2, q3, q4⟩ := ih (j + 1) fu (by omega) (by omega) (by omega)
      refine ⟨q, by omega, q2, fun _ _ => by omega, ?_⟩
      rw [f_X9_cut_66, hT.2.1, if_neg (nI_ge hj (by omega)), aI_nI rfl (by show j < 900; omega) (by decide), obs, (hT.2.2 j hj).2, in9, if_neg (fun z => by rw [hd.mp z] at c; cases c), obs, if_neg nz, pk_sub (by omega), if_pos (show (2 : Int32) ≤ nI (j - p) from nI_le (a := 2) (by omega) (by omega)), f_X9_cut_114, nI_1]
      exact q4
    · refine ⟨j, Nat.le_refl _, by omega, fun _ z => absurd z c, ?_⟩
      have c' : dg (b j) = false := by simpa using c
      rw [f_X9_cut_66, hT.2.1, if_neg (nI_ge hj (by omega)), aI_nI rfl (by show j < 900; omega) (by decide), obs, (hT.2.2 j hj).2, in9, if_pos (hd.mpr c'), obs, if_pos rfl]
/-- after a fault: one more token, and the end -/
theorem cutBad {b : Nat → Nat} {N i k fu : Nat} {s : St} (hT : Tm s b N) (hi : i ≤ 900) (h17 : s.1 43 17 = 1) (h23 : s.1 43 23 = nI k) (hk : k ≤ 900) : ∃ s', f_X9_cut_7 (fu + 1) (nI i) s = some s' ∧ CFr s s' ∧ s'.1 43 17 = 1 ∧ s'.1 43 18 = s.1 43 18 := by
  have hN := hT.1
  obtain ⟨s', e1, e2, e3, e4, -⟩ := token9 (x := 3) (y := nI N) (z := 0) h23 hk
  refine ⟨s', ?_, e2, by rw [e3]; exact h17, e4⟩
  have h195 : f_X9_cut_195 s = some s' := by
    unfold f_X9_cut_195
    rw [hT.2.1, e1, obs]
  rw [f_X9_cut_7, hT.2.1]
  by_cases c : N ≤ i
  · rw [if_pos (nI_le c (by omega)), h195]
  · rw [if_neg (nI_ge (by omega) (by omega)), bad9 (by rw [h17]; decide), obs, if_pos rfl, h195]
theorem lxF_r {b : Nat → Nat} {m i r : Nat} (h : ¬ dg (b i) = true) : lxF b (m + 1) i r = lxF b (m + 1) i 0 := by rw [lxF, lxF, if_neg h, if_neg h]
/-- what stands behind the cutting -/
def cutEnd (b : Nat → Nat) (N : Nat) (LX : Option Nat) (s' : St) : Prop := (∃ p, LX = some p ∧ s'.1 43 17 = 1 ∧ s'.1 43 18 = nI p) ∨ (LX = none ∧ s'.1 43 17 = 0 ∧ ∃ T, T ≤ N ∧ tK b N T = 3 ∧ wTk s' b N (T + 1))
theorem cut7 {b : Nat → Nat} {N : Nat} : ∀ (m i k fu r : Nat) (s : St), N ≤ i + m → i ≤ N → m < fu → Tm s b N → s.1 43 17 = 0 → s.1 43 23 = nI k → k ≤ i → tk b N i = tk b N (tp b N k) → wTk s b N k → r ≤ 2 → (r ≠ 0 → i < N → ¬ dg (b i) = true) → ∃ s', f_X9_cut_7 fu (nI i) s = some s' ∧ CFr s s' ∧ cutEnd b N (lxF b (N - i) i r) s' := by
  intro m
  induction m with
  | zero =>
    intro i k fu r s h1 h2 h3 hT h17 h23 hk htk hw hr hrd
    obtain ⟨fu, rfl⟩ : ∃ z, fu = z + 1 := ⟨fu - 1, by omega⟩
    have hN := hT.1
    obtain rfl : i = N := by omega
    obtain ⟨s', e1, e2, e3, e4, e5, e6, e7, e8, e9⟩ := token9 (x := 3) (y := nI i) (z := 0) h23 (by omega)
    rw [tk_end] at htk
    have a1 : tK b i k = 3 := by unfold tK; rw [← htk]
    have a2 : tS b i k = i := by unfold tS; rw [← htk]
    have a3 : tV b i k = 0 := by unfold tV; rw [← htk]
    refine ⟨s', ?_, e2, Or.inr ⟨by rw [Nat.sub_self]; rfl, by rw [e3]; exact h17, k, hk, a1, fun j hj => ?_⟩⟩
    · rw [f_X9_cut_7, hT.2.1, if_pos (nI_le (Nat.le_refl _) (by omega))]
      unfold f_X9_cut_195
      rw [hT.2.1, e1, obs]
    · by_cases e : j = k
      · rw [e, e7, e8, e9, a1, a2, a3]
        exact ⟨rfl, rfl, rfl⟩
      · rw [(e6 j e).1, (e6 j e).2.1, (e6 j e).2.2]
        exact hw j (by omega)
  | succ m ih =>
    intro i k fu r s h1 h2 h3 hT h17 h23 hk htk hw hr hrd
    by_cases hiN : i = N
    · exact ih i k fu r s (by omega) h2 (by omega) hT h17 h23 hk htk hw hr hrd
    obtain ⟨fu, rfl⟩ : ∃ z, fu = z + 1 := ⟨fu - 1, by omega⟩
    have hN := hT.1
    have hi : i < N := by omega
    have hb := (hT.2.2 i hi).1
    have hdg := nI_dg (b i) hb
    have hlt := nI_lt2 (b i) hb
    obtain ⟨M, hM⟩ : ∃ M, N - i = M + 1 := ⟨N - i - 1, by omega⟩
    have hM1 : N - (i + 1) = M := by omega
    have hexp : f_X9_cut_7 (fu + 1) (nI i) s = if nI (b i) = (32 : Int32) then f_X9_cut_7 fu (nI (i + 1)) s else if nI (b i) = (10 : Int32) then f_X9_cut_7 fu (nI (i + 1)) s else if dg (b i) = true then f_X9_cut_66 (f_X9_cut_7 fu) FU (nI (i + 1)) (nI i) (nI (b i) - 48) s else if lt (b i) = true then Option.bind (f_X9_token 1 (nI i) (nI (b i) - 97 + 1) s) fun s14 => f_X9_cut_7 fu (nI (i + 1)) s14 else if nI (b i) = (59 : Int32) then Option.bind (f_X9_token 2 (nI i) 0 s) fun s13 => f_X9_cut_7 fu (nI (i + 1)) s13 else Option.bind (f_X9_fails 1 (nI i) s) fun s12 => f_X9_cut_7 fu (nI (i + 1)) s12 := by
      rw [f_X9_cut_7, hT.2.1, if_neg (nI_ge hi (by omega)), good9 h17, obs, if_neg nz]
      show Option.bind (aI s 51 (nI i)) _ = _
      rw [aI_nI rfl (by show i < 900; omega) (by decide), obs, (hT.2.2 i hi).2, nI_1]
      by_cases d1 : nI (b i) = (32 : Int32)
      · rw [if_pos d1, if_pos d1]
      rw [if_neg d1, if_neg d1]
      by_cases d2 : nI (b i) = (10 : Int32)
      · rw [if_pos d2, if_pos d2]
      rw [if_neg d2, if_neg d2]
      show Option.bind (f_X9_in (nI (b i)) 48 57 s) _ = _
      by_cases d3 : dg (b i) = true
      · rw [in9, if_neg (fun z => by rw [hdg.mp z] at d3; cases d3), obs, if_neg nz, if_pos d3]
      · have d3' : dg (b i) = false := by simpa using d3
        rw [in9, if_pos (hdg.mpr d3'), obs, if_pos rfl, if_neg d3]
        show Option.bind (f_X9_in (nI (b i)) 97 99 s) _ = _
        by_cases d4 : lt (b i) = true
        · rw [in9, if_neg (fun z => by rw [hlt.mp z] at d4; cases d4), obs, if_neg nz, if_pos d4]
          rfl
        · have d4' : lt (b i) = false := by simpa using d4
          rw [in9, if_pos (hlt.mpr d4'), obs, if_pos rfl, if_neg d4]
          rfl
    have e32 : nI (b i) = (32 : Int32) ↔ b i = 32 := ⟨fun e => nI_inj (b := 32) (by omega) (by omega) e, fun e => by rw [e]; rfl⟩
    have e10 : nI (b i) = (10 : Int32) ↔ b i = 10 := ⟨fun e => nI_inj (b := 10) (by omega) (by omega) e, fun e => by rw [e]; rfl⟩
    have e59 : nI (b i) = (59 : Int32) ↔ b i = 59 := ⟨fun e => nI_inj (b := 59) (by omega) (by omega) e, fun e => by rw [e]; rfl⟩
    -- a token of one byte or two, then on
    have goOn : ∀ (x z : Nat) (w : Nat) (r' : Nat), 1 ≤ w → i + w ≤ N → tkAt b N i = (x, i, z, i + w) → ¬ sp (b i) = true → r' ≤ 2 → (r' ≠ 0 → i + w < N → ¬ dg (b (i + w)) = true) → lxF b (N - i) i r = lxF b (N - (i + w)) (i + w) r' → ∃ s', (Option.bind (f_X9_token (nI x) (nI i) (nI z) s) fun s14 => f_X9_cut_7 fu (nI (i + w)) s14) = some s' ∧ CFr s s' ∧ cutEnd b N (lxF b (N - i) i r) s' := by
      intro x z w r' w1 w2 ht hsp hr' hrd' hlx
      obtain ⟨t, e1, e2, e3, e4, e5, e6, e7, e8, e9⟩ := token9 (x := nI x) (y := nI i) (z := nI z) h23 (by omega)
      rw [tk_at hi hsp, ht] at htk
      have a1 : tK b N k = x := by unfold tK; rw [← htk]
      have a2 : tS b N k = i := by unfold tS; rw [← htk]
      have a3 : tV b N k = z := by unfold tV; rw [← htk]
      have a4 : tp b N (k + 1) = i + w := by rw [tp, ← htk]
      obtain ⟨s', i1, i2, i3⟩ := ih (i + w) (k + 1) fu r' t (by omega) w2 (by omega) (hT.c e2) (by rw [e3]; exact h17) e5 (by omega) (by rw [a4]) (fun j hj => by
        by_cases e : j = k
        · rw [e, e7, e8, e9, a1, a2, a3]
          exact ⟨rfl, rfl, rfl⟩
        · rw [(e6 j e).1, (e6 j e).2.1, (e6 j e).2.2]
          exact hw j (by omega)) hr' hrd'
      rw [e1, obs, hlx]
      exact ⟨s', i1, e2.trans i2, i3⟩
    rw [hexp]
    have hspace : sp (b i) = true → ∃ s', f_X9_cut_7 fu (nI (i + 1)) s = some s' ∧ CFr s s' ∧ cutEnd b N (lxF b (N - i) i r) s' := by
      intro hs
      have nd : ¬ dg (b i) = true := by
        have := of_decide_eq_true hs
        intro z
        have := dg_b z
        omega
      have : lxF b (N - i) i r = lxF b (N - (i + 1)) (i + 1) 0 := by rw [hM, lxF, if_neg nd, if_pos (Or.inr (Or.inl hs)), hM1]
      rw [this]
      exact ih (i + 1) k fu 0 s (by omega) (by omega) (by omega) hT h17 h23 (by omega) (by rw [← tk_sp hi hs]; exact htk) hw (by omega) (fun z => absurd rfl z)
    by_cases d1 : b i = 32
    · rw [if_pos (e32.mpr d1)]
      exact hspace (decide_eq_true (Or.inl d1))
    rw [if_neg (fun e => d1 (e32.mp e))]
    by_cases d2 : b i = 10
    · rw [if_pos (e10.mpr d2)]
      exact hspace (decide_eq_true (Or.inr d2))
    rw [if_neg (fun e => d2 (e10.mp e))]
    have hsp : ¬ sp (b i) = true := fun z => (of_decide_eq_true z).elim d1 d2
    by_cases d3 : dg (b i) = true
    · rw [if_pos d3]
      have b1 := dg_b d3
      have r0 : r = 0 := by
        rcases Nat.eq_zero_or_pos r with z | z
        · exact z
        · exact absurd d3 (hrd (by omega) hi)
      have hlx1 : lxF b (N - i) i r = lxF b (N - (i + 1)) (i + 1) 1 := by rw [hM, lxF, if_pos d3, r0, if_pos (by omega), hM1]
      rw [nI_48 (by omega)]
      by_cases c2 : i + 1 < N ∧ dg (b (i + 1)) = true
      · have b2 := dg_b c2.2
        obtain ⟨M2, hM2⟩ : ∃ M2, N - (i + 1) = M2 + 1 := ⟨N - (i + 1) - 1, by omega⟩
        have hlx2 : lxF b (N - i) i r = lxF b (N - (i + 2)) (i + 2) 2 := by rw [hlx1, hM2, lxF, if_pos c2.2, if_pos (by omega), show N - (i + 2) = M2 by omega]
        have hb1 := (hT.2.2 (i + 1) c2.1).1
        have hdg1 := nI_dg (b (i + 1)) hb1
        have h66 : f_X9_cut_66 (f_X9_cut_7 fu) FU (nI (i + 1)) (nI i) (nI (b i - 48)) s = f_X9_cut_66 (f_X9_cut_7 fu) 4095 (nI (i + 2)) (nI i) (nI (10 * (b i - 48) + (b (i + 1) - 48))) s := by
          rw [show FU = 4095 + 1 from rfl, f_X9_cut_66, hT.2.1, if_neg (nI_ge c2.1 (by omega)), aI_nI rfl (by show i + 1 < 900; omega) (by decide), obs, (hT.2.2 (i + 1) c2.1).2, in9, if_neg (fun z => by rw [hdg1.mp z] at c2; exact absurd c2.2 (by decide)), obs, if_neg nz, pk_sub (by omega), if_neg (show ¬ (2 : Int32) ≤ nI (i + 1 - i) from nI_ge (b := 2) (by omega) (by omega))]
          show Option.bind (aI s 51 (nI (i + 1))) _ = _
          rw [aI_nI rfl (by show i + 1 < 900; omega) (by decide), obs, (hT.2.2 (i + 1) c2.1).2, f_X9_cut_114, nI_1, show (10 : Int32) = nI 10 from rfl, pk_mul, nI_add, nI_48 (by omega), show 10 * (b i - 48) + b (i + 1) - 48 = 10 * (b i - 48) + (b (i + 1) - 48) by omega]
        rw [h66]
        by_cases c3 : i + 2 < N ∧ dg (b (i + 2)) = true
        · -- too long
          obtain ⟨M3, hM3⟩ : ∃ M3, N - (i + 2) = M3 + 1 := ⟨N - (i + 2) - 1, by omega⟩
          have hlx3 : lxF b (N - i) i r = some i := by rw [hlx2, hM3, lxF, if_pos c3.2, if_neg (by omega)]; rfl
          obtain ⟨q, q1, q2, q3, q4⟩ := cut66d (K7 := f_X9_cut_7 fu) (p := i) (v := 10 * (b i - 48) + (b (i + 1) - 48)) hT (N - (i + 2)) (i + 2) 4095 (by omega) (by omega) (by omega)
          have q5 := q3 c3.1 c3.2
          rw [q4, f_X9_cut_120, pk_sub (by omega), if_neg (show ¬ nI (q - i) ≤ (2 : Int32) from nI_ge (a := 2) (by omega) (by omega)), fails9 h17, obs, f_X9_cut_133]
          obtain ⟨t, e1, e2, e3, e4, e5, -⟩ := token9 (s := sF (sF s 43 17 1) 43 18 (nI i)) (x := 0) (y := nI i) (z := nI (10 * (b i - 48) + (b (i + 1) - 48))) (k := k) (by rw [sF_nj (by decide), sF_nj (by decide)]; exact h23) (by omega)
          have fc : CFr s (sF (sF s 43 17 1) 43 18 (nI i)) := ⟨fun a a1 _ _ _ => by rw [sF_ne a1, sF_ne a1], fun j j1 j2 _ => by rw [sF_nj j2, sF_nj j1], rfl⟩
          rw [e1, obs, f_X9_cut_192]
          obtain ⟨fu, rfl⟩ : ∃ z, fu = z + 1 := ⟨fu - 1, by omega⟩
          obtain ⟨s', g1, g2, g3, g4⟩ := cutBad (i := q) (fu := fu) (hT.c (fc.trans e2)) (by omega) (by rw [e3, sF_nj (by decide), sF_at]) e5 (by omega)
          refine ⟨s', g1, fc.trans (e2.trans g2), Or.inl ⟨i, hlx3, g3, ?_⟩⟩
          rw [g4, e4, sF_at]
        · have h662 : f_X9_cut_66 (f_X9_cut_7 fu) 4095 (nI (i + 2)) (nI i) (nI (10 * (b i - 48) + (b (i + 1) - 48))) s = f_X9_cut_120 (f_X9_cut_7 fu) (nI (i + 2)) (nI i) (nI (10 * (b i - 48) + (b (i + 1) - 48))) s := by
            rw [f_X9_cut_66, hT.2.1]
            by_cases c4 : i + 2 < N
            · have hb2 := (hT.2.2 (i + 2) c4).1
              have c5 : dg (b (i + 2)) = false := by
                cases e : dg (b (i + 2))
                · rfl
                · exact absurd ⟨c4, e⟩ c3
              rw [if_neg (nI_ge c4 (by omega)), aI_nI rfl (by show i + 2 < 900; omega) (by decide), obs, (hT.2.2 (i + 2) c4).2, in9, if_pos ((nI_dg _ hb2).mpr c5), obs, if_pos rfl]
            · rw [if_pos (nI_le (by omega) (by omega))]
          rw [h662, f_X9_cut_120, pk_sub (by omega), if_pos (show nI (i + 2 - i) ≤ (2 : Int32) from nI_le (b := 2) (by omega) (by omega)), f_X9_cut_133]
          refine goOn 0 (10 * (b i - 48) + (b (i + 1) - 48)) 2 2 (by omega) (by omega) ?_ hsp (by omega) (fun _ z => fun w => c3 ⟨z, w⟩) hlx2
          unfold tkAt
          rw [if_neg (by omega), if_pos d3, if_pos c2]
      · have h66 : f_X9_cut_66 (f_X9_cut_7 fu) FU (nI (i + 1)) (nI i) (nI (b i - 48)) s = f_X9_cut_120 (f_X9_cut_7 fu) (nI (i + 1)) (nI i) (nI (b i - 48)) s := by
          rw [show FU = 4095 + 1 from rfl, f_X9_cut_66, hT.2.1]
          by_cases c4 : i + 1 < N
          · have hb2 := (hT.2.2 (i + 1) c4).1
            have c5 : dg (b (i + 1)) = false := by
              cases e : dg (b (i + 1))
              · rfl
              · exact absurd ⟨c4, e⟩ c2
            rw [if_neg (nI_ge c4 (by omega)), aI_nI rfl (by show i + 1 < 900; omega) (by decide), obs, (hT.2.2 (i + 1) c4).2, in9, if_pos ((nI_dg _ hb2).mpr c5), obs, if_pos rfl]
          · rw [if_pos (nI_le (by omega) (by omega))]
        rw [h66, f_X9_cut_120, pk_sub (by omega), if_pos (show nI (i + 1 - i) ≤ (2 : Int32) from nI_le (b := 2) (by omega) (by omega)), f_X9_cut_133]
        refine goOn 0 (b i - 48) 1 1 (by omega) (by omega) ?_ hsp (by omega) (fun _ z => fun w => c2 ⟨z, w⟩) hlx1
        unfold tkAt
        rw [if_neg (by omega), if_pos d3, if_neg c2]
    · rw [if_neg d3]
      by_cases d4 : lt (b i) = true
      · rw [if_pos d4]
        have b1 := lt_b d4
        have hv : nI (b i) - (97 : Int32) + 1 = nI (b i - 96) := by
          rw [show nI (b i) - (97 : Int32) = nI (b i - 97) from pk_sub (b := 97) (by omega), nI_1]
          congr 1
          omega
        rw [hv]
        refine goOn 1 (b i - 96) 1 0 (by omega) (by omega) ?_ hsp (by omega) (fun z => absurd rfl z) ?_
        · unfold tkAt
          rw [if_neg (by omega), if_neg d3, if_pos d4]
        · rw [hM, lxF, if_neg d3, if_pos (Or.inl d4), hM1]
      · rw [if_neg d4]
        by_cases d5 : b i = 59
        · rw [if_pos (e59.mpr d5)]
          refine goOn 2 0 1 0 (by omega) (by omega) ?_ hsp (by omega) (fun z => absurd rfl z) ?_
          · unfold tkAt
            rw [if_neg (by omega), if_neg d3, if_neg d4]
          · rw [hM, lxF, if_neg d3, if_pos (Or.inr (Or.inr d5)), hM1]
        · rw [if_neg (fun e => d5 (e59.mp e)), fails9 h17, obs]
          have hlx : lxF b (N - i) i r = some i := by rw [hM, lxF, if_neg d3, if_neg (fun z => z.elim d4 (fun z => z.elim hsp d5))]
          have fc : CFr s (sF (sF s 43 17 1) 43 18 (nI i)) := ⟨fun a a1 _ _ _ => by rw [sF_ne a1, sF_ne a1], fun j j1 j2 _ => by rw [sF_nj j2, sF_nj j1], rfl⟩
          obtain ⟨fu, rfl⟩ : ∃ z, fu = z + 1 := ⟨fu - 1, by omega⟩
          obtain ⟨s', g1, g2, g3, g4⟩ := cutBad (i := i + 1) (k := k) (fu := fu) (hT.c fc) (by omega) (by rw [sF_nj (by decide), sF_at]) (by rw [sF_nj (by decide), sF_nj (by decide)]; exact h23) (by omega)
          refine ⟨s', g1, fc.trans g2, Or.inl ⟨i, hlx, g3, ?_⟩⟩
          rw [g4, sF_at]
theorem cut9 {b : Nat → Nat} {N : Nat} {s : St} (hT : Tm s b N) (h17 : s.1 43 17 = 0) : ∃ s', f_X9_cut s = some s' ∧ CFr s s' ∧ cutEnd b N (lxF b N 0 0) s' := by
  have f0 : CFr s (sF s 43 23 0) := ⟨fun a a1 _ _ _ => sF_ne a1, fun j _ _ j3 => sF_nj j3, rfl⟩
  have hN := hT.1
  obtain ⟨s', e1, e2, e3⟩ := cut7 (b := b) N 0 0 FU 0 (sF s 43 23 0) (by omega) (Nat.zero_le _) (by unfold FU; omega) (hT.c f0) (by rw [sF_nj (by decide)]; exact h17) sF_at (Nat.le_refl _) rfl (fun j hj => absurd hj (Nat.not_lt_zero _)) (by omega) (fun z => absurd rfl z)
  refine ⟨s', ?_, f0.trans e2, e3⟩
  unfold f_X9_cut
  rw [obs]
  exact e1
