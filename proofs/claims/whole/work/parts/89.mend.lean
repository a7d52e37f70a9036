/-! mend -/
theorem give8 {s : St} {W H C i j v : Nat} (hz : iSize s W H C) (hi : i < W) (hj : j < H) (hv : v ≤ C) : f_X8_give (nI i) (nI j) (nI v) s = some (1, sF (sF (sF s 12 1 (s.1 12 1 - dG (s.1 13 (12 * j + i)) + dG (nI v))) 13 (12 * j + i) (nI v)) 33 2 0) := by
  have hle := hz.2.2.2.2.2.2.le
  unfold f_X8_give f_X1_forgetSolutions
  rw [isCell8_yes hz hi hj, obs, if_neg nz, isVal8 hz, if_neg (by rw [nI_toInt (by omega)]; omega), obs, if_neg nz, put2 rfl rfl rfl (by omega) (by omega), obs, if_neg (fun q => q rfl), obs, obs]
  rfl
section MendC
variable {P : Pz} {A : Sa}
theorem gfu {s : St} (hc : Cz s P) (hf : ∀ k, k < 2 → ∀ x y, x < P.W → y < P.H → s.1 (40 + 2 * k) (12 * y + x) = nI (A.2.2.2 k x y)) (h4 : ∀ k, k < 2 → ∀ x y, x < P.W → y < P.H → A.2.2.2 k x y < 4) : ∀ (k x y fu n6 : Nat), P.W * y + x + (k + 1) = P.W * P.H → x < P.W → y < P.H → P.W - x < fu → P.H - y ≤ n6 → dif P A (k + 1) < P.W * P.H → f_X8_giveFirstUnlike_15 (f_X8_giveFirstUnlike_2 n6) fu (nI y) (nI x) s = Option.bind (f_X2_valueAt 14 (nI (dif P A (k + 1) % P.W)) (nI (dif P A (k + 1) / P.W)) s) fun r5 => Option.bind (f_X8_give (nI (dif P A (k + 1) % P.W)) (nI (dif P A (k + 1) / P.W)) r5.1 r5.2) fun r6 => some r6.2 := by
  have hP := hc.1
  obtain ⟨⟨W1, W2⟩, ⟨H1, H2⟩, -⟩ := id hP
  have one : ∀ (x y fu n6 : Nat), x < P.W → y < P.H → f_X8_giveFirstUnlike_15 (f_X8_giveFirstUnlike_2 n6) (fu + 1) (nI y) (nI x) s = if A.2.2.2 0 x y = A.2.2.2 1 x y then f_X8_giveFirstUnlike_15 (f_X8_giveFirstUnlike_2 n6) fu (nI y) (nI (x + 1)) s else Option.bind (f_X2_valueAt 14 (nI x) (nI y) s) fun r5 => Option.bind (f_X8_give (nI x) (nI y) r5.1 r5.2) fun r6 => some r6.2 := by
    intro x y fu n6 hx hy
    rw [f_X8_giveFirstUnlike_15, hc.2.1, if_neg (nI_ge hx (by omega)), at2 (g := 39) rfl rfl rfl (by omega) (by omega), obs]
    show Option.bind (f_X2_at 41 (nI x) (nI y) s) _ = _
    rw [at2 (g := 41) rfl rfl rfl (by omega) (by omega), obs]
    show (if s.1 (40 + 2 * 0) (12 * y + x) = s.1 (40 + 2 * 1) (12 * y + x) then _ else _) = _
    have a0 := h4 0 (by omega) x y hx hy
    have a1 := h4 1 (by omega) x y hx hy
    rw [hf 0 (by omega) x y hx hy, hf 1 (by omega) x y hx hy, nI_1]
    by_cases c : A.2.2.2 0 x y = A.2.2.2 1 x y
    · rw [if_pos (by rw [c]), if_pos c]
    · rw [if_neg (fun e => c (nI_inj (by omega) (by omega) e)), if_neg c]
  intro k
  induction k with
  | zero =>
    intro x y fu n6 hi hx hy hfu hn6 hd
    obtain ⟨fu, rfl⟩ : ∃ z, fu = z + 1 := ⟨fu - 1, by omega⟩
    have ei : P.W * P.H - (0 + 1) = P.W * y + x := by omega
    have em : (P.W * y + x) % P.W = x := by rw [Nat.mul_add_mod, Nat.mod_eq_of_lt hx]
    have ed : (P.W * y + x) / P.W = y := by rw [Nat.mul_add_div (by omega), Nat.div_eq_of_lt hx, Nat.add_zero]
    rw [dif, ei, em, ed] at hd ⊢
    rw [one x y fu n6 hx hy]
    by_cases c : A.2.2.2 0 x y = A.2.2.2 1 x y
    · rw [if_pos c] at hd
      exact absurd hd (Nat.lt_irrefl _)
    · rw [if_neg c, if_neg c, em, ed]
  | succ k ih =>
    intro x y fu n6 hi hx hy hfu hn6 hd
    obtain ⟨fu, rfl⟩ : ∃ z, fu = z + 1 := ⟨fu - 1, by omega⟩
    obtain ⟨n6, rfl⟩ : ∃ z, n6 = z + 1 := ⟨n6 - 1, by omega⟩
    have ei : P.W * P.H - (k + 1 + 1) = P.W * y + x := by omega
    have em : (P.W * y + x) % P.W = x := by rw [Nat.mul_add_mod, Nat.mod_eq_of_lt hx]
    have ed : (P.W * y + x) / P.W = y := by rw [Nat.mul_add_div (by omega), Nat.div_eq_of_lt hx, Nat.add_zero]
    have hdif : dif P A (k + 1 + 1) = if A.2.2.2 0 x y = A.2.2.2 1 x y then dif P A (k + 1) else P.W * y + x := by
      rw [dif, ei, em, ed]
    rw [hdif] at hd ⊢
    rw [one x y fu (n6 + 1) hx hy]
    by_cases c : A.2.2.2 0 x y = A.2.2.2 1 x y
    · rw [if_pos c] at hd ⊢
      rw [if_pos c]
      by_cases cx : x + 1 < P.W
      · exact ih (x + 1) y fu (n6 + 1) (by omega) cx hy (by omega) hn6 hd
      · have hxW : x + 1 = P.W := by omega
        have hy2 : y + 1 < P.H := by
          rcases Nat.lt_or_ge (y + 1) P.H with h | h
          · exact h
          · have : P.W * P.H ≤ P.W * (y + 1) := Nat.mul_le_mul_left _ h
            rw [Nat.mul_add, Nat.mul_one] at this
            omega
        obtain ⟨fu, rfl⟩ : ∃ z, fu = z + 1 := ⟨fu - 1, by omega⟩
        rw [hxW, f_X8_giveFirstUnlike_15, hc.2.1, if_pos (nI_le (Nat.le_refl _) (by omega)), nI_1, f_X8_giveFirstUnlike_2, hc.2.2.1, if_neg (nI_ge hy2 (by omega))]
        have e : P.W * y + x + 1 = P.W * (y + 1) + 0 := by rw [Nat.mul_add, Nat.mul_one]; omega
        exact ih 0 (y + 1) FU n6 (by rw [← e]; omega) (by omega) hy2 (by unfold FU; omega) (by omega) hd
    · rw [if_neg c] at hd ⊢
      rw [if_neg c, em, ed]
/-- what mending may change in the class -/
def EFr (s s' : St) : Prop := (∀ a, a ≠ 12 → a ≠ 13 → a ≠ 17 → a ≠ 18 → a ≠ 21 → a ≠ 23 → a ≠ 24 → a ≠ 33 → (a < 38 ∨ 42 < a) → s'.1 a = s.1 a) ∧ (∀ b, b ≠ 2 → s'.1 33 b = s.1 33 b) ∧ ∀ b, s'.2.1 30 b = s.2.1 30 b
theorem EFr.trans {s t u : St} (a : EFr s t) (b : EFr t u) : EFr s u := ⟨fun i i1 i2 i3 i4 i5 i6 i7 i8 i9 => (b.1 i i1 i2 i3 i4 i5 i6 i7 i8 i9).trans (a.1 i i1 i2 i3 i4 i5 i6 i7 i8 i9), fun i hi => (b.2.1 i hi).trans (a.2.1 i hi), fun i => (b.2.2 i).trans (a.2.2 i)⟩
theorem QFr.e {s s' : St} (h : QFr 38 s s') : EFr s s' := ⟨fun a _ _ a3 a4 a5 a6 a7 _ a9 => h.1 a a3 a4 a5 a6 a7 (by omega), fun b _ => by rw [h.1 33 (by decide) (by decide) (by decide) (by decide) (by decide) (by decide)], fun b => by rw [h.2.1 30 (by decide) (by decide)]⟩
theorem Cz.e {s s' : St} (hc : Cz s P) (h : EFr s s') : Cz s' P := hc.fr (h.1 3 (by decide) (by decide) (by decide) (by decide) (by decide) (by decide) (by decide) (by decide) (by decide)) (h.1 4 (by decide) (by decide) (by decide) (by decide) (by decide) (by decide) (by decide) (by decide) (by decide)) (h.1 5 (by decide) (by decide) (by decide) (by decide) (by decide) (by decide) (by decide) (by decide) (by decide)) (h.1 6 (by decide) (by decide) (by decide) (by decide) (by decide) (by decide) (by decide) (by decide) (by decide))
theorem mendC : ∀ (n fu v : Nat) (s : St), 145 ≤ n + v → n ≤ fu → Cz s P → iSize s P.W P.H P.C → (∀ c, c < 144 → gVal P.C (s.1 13 c)) → (∀ c, c < 144 → gVal P.C (s.1 15 c)) → s.1 12 1 = nI (cntG (s.1 13) 144) → v ≤ cntG (s.1 13) 144 → ∃ s', f_X8_mend_14 fu (nI v) (nI v) s = some ((mendP P (s.1 15) n (s.1 13) v).1, s') ∧ EFr s s' ∧ s'.1 13 = (mendP P (s.1 15) n (s.1 13) v).2.1 ∧ s'.1 12 1 = nI (cntG (s'.1 13) 144) ∧ ((mendP P (s.1 15) n (s.1 13) v).2.2 = v → s'.1 33 2 = s.1 33 2) ∧ ((mendP P (s.1 15) n (s.1 13) v).2.2 ≠ v → s'.1 33 2 = 0) ∧ v ≤ (mendP P (s.1 15) n (s.1 13) v).2.2 := by
  intro n
  induction n with
  | zero =>
    intro fu v s h1 _ _ _ _ _ _ hv
    have := cntG_le (s.1 13) 144
    omega
  | succ n ih =>
    intro fu v s h1 hfu hc hz hg hh h12 hv
    obtain ⟨fu, rfl⟩ : ∃ z, fu = z + 1 := ⟨fu - 1, by omega⟩
    have hP := hc.1
    obtain ⟨⟨W1, W2⟩, ⟨H1, H2⟩, ⟨C1, C2⟩, -⟩ := id hP
    have hcl := cntG_le (s.1 13) 144
    obtain ⟨t, e1, e2, e3⟩ := seekC (cap := 2) (bud := 400) (s := s) f38 hc hg (by omega) (by omega) (by omega)
    have eA : look P 2 400 LOOKN (firstM (s.1 13) P.C) a00 = mdA P (s.1 13) := rfl
    have hcp : (mdA P (s.1 13)).2.1 ≤ 2 := look_c (P := P) (cap := 2) (bud := 400) LOOKN (firstM (s.1 13) P.C) a00 (fin_00 (by decide))
    rw [eA] at e2
    obtain ⟨u1, u2, u3, u4⟩ := e2
    have q13 : t.1 13 = s.1 13 := e3.1 13 (by decide) (by decide) (by decide) (by decide) (by decide) (by decide)
    have q15 : t.1 15 = s.1 15 := e3.1 15 (by decide) (by decide) (by decide) (by decide) (by decide) (by decide)
    have q12 : t.1 12 = s.1 12 := e3.1 12 (by decide) (by decide) (by decide) (by decide) (by decide) (by decide)
    have q33 : t.1 33 = s.1 33 := e3.1 33 (by decide) (by decide) (by decide) (by decide) (by decide) (by decide)
    have hexp : f_X8_mend_14 (fu + 1) (nI v) (nI v) s = if (mdA P (s.1 13)).2.2.1 = true then some (-2, t) else if (mdA P (s.1 13)).2.1 = 2 then Option.bind (f_X8_giveFirstUnlike t) fun s5 => f_X8_mend_14 fu (nI (v + 1)) (nI (v + 1)) s5 else some (nI v, t) := by
      rw [f_X8_mend_14, if_neg (show ¬ (144 : Int32) < nI v from nI_nlt (a := 144) (by omega) (by omega))]
      show Option.bind (f_X5_seek 12 (nI 2) (nI 400) 38 s) _ = _
      rw [e1, obs, u3, u1, nI_1]
      by_cases c : (mdA P (s.1 13)).2.2.1 = true
      · rw [if_pos c, if_pos c, if_neg (show ¬ (1 : Int32) = 0 by decide)]
      · rw [if_neg c, if_neg c, if_pos rfl]
        by_cases c2 : (mdA P (s.1 13)).2.1 = 2
        · rw [if_pos c2, if_pos (show (2 : Int32) ≤ nI (mdA P (s.1 13)).2.1 from nI_le (a := 2) (by omega) (by omega))]
        · rw [if_neg c2, if_neg (show ¬ (2 : Int32) ≤ nI (mdA P (s.1 13)).2.1 from nI_ge (b := 2) (by omega) (by omega))]
    rw [hexp, mendP]
    by_cases c : (mdA P (s.1 13)).2.2.1 = true
    · rw [if_pos c, if_pos c]
      exact ⟨t, rfl, e3.e, q13, by rw [q12, q13]; exact h12, fun _ => by rw [q33], fun z => absurd rfl z, Nat.le_refl _⟩
    · rw [if_neg c, if_neg c]
      by_cases c2 : (mdA P (s.1 13)).2.1 = 2
      · rw [if_pos c2, if_pos c2]
        obtain ⟨m1, m2, m3⟩ := md_two hP hg c2
        have hct : Cz t P := hc.qf f38 e3
        have hzt : iSize t P.W P.H P.C := by
          unfold iSize
          rw [e3.1 3 (by decide) (by decide) (by decide) (by decide) (by decide) (by decide), e3.1 43 (by decide) (by decide) (by decide) (by decide) (by decide) (by decide)]
          exact hz
        have hWH : 1 ≤ P.W * P.H := Nat.mul_le_mul W1 H1
        have hgf := gfu (A := mdA P (s.1 13)) hct (fun k k1 x y hx hy => u4 k k1 (by omega) x y hx hy) m3 (P.W * P.H - 1) 0 0 FU 4095 (by omega) (by omega) (by omega) (by unfold FU; omega) (by omega) (by rw [show P.W * P.H - 1 + 1 = P.W * P.H by omega]; exact m1)
        rw [show P.W * P.H - 1 + 1 = P.W * P.H by omega] at hgf
        have hgive : f_X8_giveFirstUnlike t = f_X8_giveFirstUnlike_15 (f_X8_giveFirstUnlike_2 4095) FU (nI 0) (nI 0) t := by
          unfold f_X8_giveFirstUnlike
          rw [show FU = 4095 + 1 from rfl, f_X8_giveFirstUnlike_2, hct.2.2.1, if_neg (show ¬ nI P.H ≤ 0 from nI_nle (by omega) (by omega))]
          rfl
        rw [hgive, hgf]
        have hcntc := gvC_cnt (f := s.1 13) (h := s.1 15) hP m1 m2 hh
        have hgvv := gvC_val (f := s.1 13) (h := s.1 15) hP hg hh (dif P (mdA P (s.1 13)) (P.W * P.H))
        have hgdef : ∀ c, gvC P (s.1 13) (s.1 15) (dif P (mdA P (s.1 13)) (P.W * P.H)) c = if c = 12 * (dif P (mdA P (s.1 13)) (P.W * P.H) / P.W) + dif P (mdA P (s.1 13)) (P.W * P.H) % P.W then nI (shN (s.1 15 c)) else s.1 13 c := fun c => rfl
        revert m1 m2 hcntc hgvv hgdef
        generalize gvC P (s.1 13) (s.1 15) (dif P (mdA P (s.1 13)) (P.W * P.H)) = f2
        generalize dif P (mdA P (s.1 13)) (P.W * P.H) = d
        intro m1 m2 hcntc hgvv hgdef
        obtain ⟨w1, w2⟩ := kWH (H := P.H) (k := d) W1 m1
        have hsh := shN_ok (hh (12 * (d / P.W) + d % P.W) (by omega)) C2
        rw [valueAt14 (by omega) (by omega), obs, q15, hsh.2.1]
        show ∃ s', Option.bind (Option.bind (f_X8_give (nI (d % P.W)) (nI (d / P.W)) (nI (shN (s.1 15 (12 * (d / P.W) + d % P.W)))) t) fun r6 => some r6.2) _ = _ ∧ _
        rw [give8 hzt w1 w2 hsh.1, obs, obs]
        generalize hU : sF (sF (sF t 12 1 (t.1 12 1 - dG (t.1 13 (12 * (d / P.W) + d % P.W)) + dG (nI (shN (s.1 15 (12 * (d / P.W) + d % P.W)))))) 13 (12 * (d / P.W) + d % P.W) (nI (shN (s.1 15 (12 * (d / P.W) + d % P.W))))) 33 2 0 = U
        have hU13 : U.1 13 = f2 := by
          funext c
          rw [← hU, sF_ne (by decide), sF_get, hgdef c]
          by_cases e : c = 12 * (d / P.W) + d % P.W
          · rw [if_pos ⟨rfl, e⟩, if_pos e, e]
          · rw [if_neg (fun z => e z.2), if_neg e, sF_ne (by decide), q13]
        have hU15 : U.1 15 = s.1 15 := by rw [← hU, sF_ne (by decide), sF_ne (by decide), sF_ne (by decide), q15]
        have hU12 : U.1 12 1 = nI (cntG (U.1 13) 144) := by
          rw [hU13, ← hU, sF_ne (by decide), sF_ne (by decide), sF_at, q12, q13, h12]
          exact told_upd (fun j hj => by rw [hgdef j, if_neg hj]) (by rw [hgdef _, if_pos rfl]) (by omega)
        have hE : EFr s U := by
          refine e3.e.trans ⟨fun a a1 a2 _ _ _ _ _ a8 _ => by rw [← hU, sF_ne a8, sF_ne a2, sF_ne a1], fun b hb => by rw [← hU, sF_nj hb, sF_ne (by decide), sF_ne (by decide)], fun b => by rw [← hU]; rfl⟩
        have hzU : iSize U P.W P.H P.C := by
          unfold iSize
          rw [hE.1 3 (by decide) (by decide) (by decide) (by decide) (by decide) (by decide) (by decide) (by decide) (by decide), hE.1 43 (by decide) (by decide) (by decide) (by decide) (by decide) (by decide) (by decide) (by decide) (by decide)]
          exact hz
        obtain ⟨s', i1, i2, i3, i4, i5, i6, i7⟩ := ih fu (v + 1) U (by omega) (by omega) (hc.e hE) hzU (by rw [hU13]; exact hgvv) (by rw [hU15]; exact hh) hU12 (by rw [hU13]; omega)
        rw [hU13, hU15] at i1 i3 i5 i6 i7
        refine ⟨s', i1, hE.trans i2, i3, i4, fun z => absurd z (by omega), fun _ => ?_, by omega⟩
        by_cases z : (mendP P (s.1 15) n f2 (v + 1)).2.2 = v + 1
        · rw [i5 z, ← hU, sF_at]
        · exact i6 z
      · rw [if_neg c2, if_neg c2]
        exact ⟨t, rfl, e3.e, q13, by rw [q12, q13]; exact h12, fun _ => by rw [q33], fun z => absurd rfl z, Nat.le_refl _⟩
/-! the model mends -/
def OFr (s s' : St) : Prop := (∀ a, a ≠ 47 → a ≠ 58 → a ≠ 59 → a ≠ 61 → a ≠ 62 → a ≠ 43 → s'.1 a = s.1 a) ∧ (∀ b, b ≠ 11 → b ≠ 32 → b ≠ 33 → b ≠ 37 → b ≠ 41 → b ≠ 42 → b ≠ 43 → b ≠ 44 → b ≠ 45 → s'.1 43 b = s.1 43 b) ∧ ∀ b, s'.2.1 30 b = s.2.1 30 b
theorem OFr.trans {s t u : St} (a : OFr s t) (b : OFr t u) : OFr s u := ⟨fun i i1 i2 i3 i4 i5 i6 => (b.1 i i1 i2 i3 i4 i5 i6).trans (a.1 i i1 i2 i3 i4 i5 i6), fun i i1 i2 i3 i4 i5 i6 i7 i8 i9 => (b.2.1 i i1 i2 i3 i4 i5 i6 i7 i8 i9).trans (a.2.1 i i1 i2 i3 i4 i5 i6 i7 i8 i9), fun i => (b.2.2 i).trans (a.2.2 i)⟩
theorem HFr.o {s s' : St} (h : HFr s s') : OFr s s' := ⟨fun a _ a2 a3 a4 a5 a6 => h.1 a a2 a3 a4 a5 a6, fun b _ b1 b2 b3 b4 b5 b6 b7 b8 => h.2.1 b b1 b2 b3 b4 b5 b6 b7 b8, fun b => h.2.2 30 b (fun z => absurd z.1 (by decide))⟩
theorem Mz.o {s s' : St} (h : Mz s P) (f : OFr s s') : Mz s' P := by
  unfold Mz
  rw [f.1 44 (by decide) (by decide) (by decide) (by decide) (by decide) (by decide), f.1 45 (by decide) (by decide) (by decide) (by decide) (by decide) (by decide), f.1 46 (by decide) (by decide) (by decide) (by decide) (by decide) (by decide), f.2.1 1 (by decide) (by decide) (by decide) (by decide) (by decide) (by decide) (by decide) (by decide) (by decide), f.2.1 2 (by decide) (by decide) (by decide) (by decide) (by decide) (by decide) (by decide) (by decide) (by decide), f.2.1 3 (by decide) (by decide) (by decide) (by decide) (by decide) (by decide) (by decide) (by decide) (by decide)]
  exact h
theorem mend48 {K31 : Int32 → St → Option (Int32 × St)} {v1 : Int32} {s : St} (hm : Mz s P) (hf : ∀ k, k < 2 → ∀ x y, x < P.W → y < P.H → s.1 62 (144 * k + (12 * y + x)) = nI (A.2.2.2 k x y)) (h4 : ∀ k, k < 2 → ∀ x y, x < P.W → y < P.H → A.2.2.2 k x y < 4) : ∀ (k fu : Nat), k ≤ P.W * P.H → k < fu → dif P A k < P.W * P.H → f_X9_mend_48 K31 fu v1 (nI (P.W * P.H - k)) s = Option.bind (f_X9_shown (nI (12 * (dif P A k / P.W) + dif P A k % P.W)) s) fun r8 => Option.bind (pI r8.2 47 (nI (12 * (dif P A k / P.W) + dif P A k % P.W)) r8.1) fun s9 => Option.bind (f_X9_searches (nI 2) (nI 400) (sF s9 43 11 0)) fun s11 => K31 (v1 + 1) s11 := by
  obtain ⟨⟨W1, W2⟩, ⟨H1, H2⟩, -⟩ := id hm.1
  intro k
  induction k with
  | zero => intro fu _ _ hd; exact absurd hd (Nat.lt_irrefl _)
  | succ k ih =>
    intro fu hk hfu hd
    obtain ⟨fu, rfl⟩ : ∃ z, fu = z + 1 := ⟨fu - 1, by omega⟩
    have hi : P.W * P.H - (k + 1) < P.W * P.H := by omega
    have hnx : P.W * P.H - (k + 1) + 1 = P.W * P.H - k := by omega
    rw [dif] at hd ⊢
    revert hi hnx hd
    generalize P.W * P.H - (k + 1) = i
    intro hd hi hnx
    obtain ⟨w1, w2⟩ := kWH (H := P.H) (k := i) W1 hi
    have a0 := h4 0 (by omega) _ _ w1 w2
    have a1 := h4 1 (by omega) _ _ w1 w2
    have f0 := hf 0 (by omega) _ _ w1 w2
    have f1 := hf 1 (by omega) _ _ w1 w2
    rw [show 144 * 0 + (12 * (i / P.W) + i % P.W) = 12 * (i / P.W) + i % P.W by omega] at f0
    rw [show 144 * 1 + (12 * (i / P.W) + i % P.W) = 144 + (12 * (i / P.W) + i % P.W) by omega] at f1
    have hexp : f_X9_mend_48 K31 (fu + 1) v1 (nI i) s = if nI (A.2.2.2 0 (i % P.W) (i / P.W)) = nI (A.2.2.2 1 (i % P.W) (i / P.W)) then f_X9_mend_48 K31 fu v1 (nI (i + 1)) s else Option.bind (f_X9_shown (nI (12 * (i / P.W) + i % P.W)) s) fun r8 => Option.bind (pI r8.2 47 (nI (12 * (i / P.W) + i % P.W)) r8.1) fun s9 => Option.bind (f_X9_searches (nI 2) (nI 400) (sF s9 43 11 0)) fun s11 => K31 (v1 + 1) s11 := by
      rw [f_X9_mend_48, hm.inOrd hi, obs]
      show Option.bind (aI s 62 (nI (12 * (i / P.W) + i % P.W))) _ = _
      rw [aI_nI rfl (by show 12 * (i / P.W) + i % P.W < 288; omega) (by decide), obs, f0]
      show Option.bind (f_X9_inOrder (nI i) s) _ = _
      rw [hm.inOrd hi, obs]
      show Option.bind (aI s 62 ((144 : Int32) + nI (12 * (i / P.W) + i % P.W))) _ = _
      rw [n144, nI_add, aI_nI rfl (by show 144 + (12 * (i / P.W) + i % P.W) < 288; omega) (by decide), obs, f1, nI_1]
      by_cases c : nI (A.2.2.2 0 (i % P.W) (i / P.W)) = nI (A.2.2.2 1 (i % P.W) (i / P.W))
      · rw [if_pos c, if_pos c]
      · rw [if_neg c, if_neg c]
        show Option.bind (f_X9_inOrder (nI i) s) _ = _
        rw [hm.inOrd hi, obs]
        show Option.bind (f_X9_inOrder (nI i) s) _ = _
        rw [hm.inOrd hi, obs]
        rfl
    rw [hexp]
    by_cases c : A.2.2.2 0 (i % P.W) (i / P.W) = A.2.2.2 1 (i % P.W) (i / P.W)
    · rw [if_pos (by rw [c])]
      rw [if_pos c] at hd ⊢
      rw [hnx]
      exact ih fu (by omega) (by omega) hd
    · rw [if_neg (fun e => c (nI_inj (by omega) (by omega) e))]
      rw [if_neg c]
theorem mendM {h : Nat → Int32} (hh : ∀ c, c < 144 → gVal P.C (h c)) : ∀ (n fu v : Nat) (f : Nat → Int32) (s : St), 145 ≤ n + v → n ≤ fu → Mz s P → (∀ c, c < 144 → f c = s.1 47 c ∧ gVal P.C (f c)) → (∀ c, c < 144 → s.1 48 c = h c) → v ≤ cntG f 144 → mfd P 2 400 s (mdA P f) → ∃ s', f_X9_mend_31 fu (nI v) s = some ((mendP P h n f v).1, s') ∧ OFr s s' ∧ (∀ c, c < 144 → s'.1 47 c = (mendP P h n f v).2.1 c ∧ gVal P.C ((mendP P h n f v).2.1 c)) ∧ ((mendP P h n f v).2.2 = v → s'.1 43 11 = s.1 43 11) ∧ ((mendP P h n f v).2.2 ≠ v → s'.1 43 11 = 0) ∧ v ≤ (mendP P h n f v).2.2 ∧ (∀ x y, y < 12 → x < 12 → (P.W ≤ x ∨ P.H ≤ y) → f (12 * y + x) = -1 → (mendP P h n f v).2.1 (12 * y + x) = -1) := by
  intro n
  induction n with
  | zero =>
    intro fu v f s h1 _ _ _ _ hv _
    have := cntG_le f 144
    omega
  | succ n ih =>
    intro fu v f s h1 hfu hm hg h48 hv hmf
    obtain ⟨fu, rfl⟩ : ∃ z, fu = z + 1 := ⟨fu - 1, by omega⟩
    have hP := hm.1
    obtain ⟨⟨W1, W2⟩, ⟨H1, H2⟩, ⟨C1, C2⟩, -⟩ := id hP
    have hcl := cntG_le f 144
    obtain ⟨-, -, -, w4, w5, w6, w7⟩ := id hmf
    have stay : ∀ r : Int32, f_X9_mend_31 (fu + 1) (nI v) s = some (r, s) → ∃ s', f_X9_mend_31 (fu + 1) (nI v) s = some (r, s') ∧ OFr s s' ∧ (∀ c, c < 144 → s'.1 47 c = f c ∧ gVal P.C (f c)) ∧ (v = v → s'.1 43 11 = s.1 43 11) ∧ (v ≠ v → s'.1 43 11 = 0) ∧ v ≤ v ∧ (∀ x y, y < 12 → x < 12 → (P.W ≤ x ∨ P.H ≤ y) → f (12 * y + x) = -1 → f (12 * y + x) = -1) := fun r hr => ⟨s, hr, ⟨fun _ _ _ _ _ _ _ => rfl, fun _ _ _ _ _ _ _ _ _ _ => rfl, fun _ => rfl⟩, fun c hc => ⟨(hg c hc).1.symm, (hg c hc).2⟩, fun _ => rfl, fun z => absurd rfl z, Nat.le_refl _, fun _ _ _ _ _ z => z⟩
    rw [mendP]
    by_cases c : (mdA P f).2.2.1 = true
    · rw [if_pos c]
      apply stay
      rw [f_X9_mend_31, w5, if_pos c, if_neg (show ¬ (1 : Int32) = 0 by decide), f_X9_mend_119, w5, if_pos c, if_neg (show ¬ (1 : Int32) = 0 by decide)]
    · rw [if_neg c]
      by_cases c2 : (mdA P f).2.1 = 2
      · rw [if_pos c2]
        obtain ⟨m1, m2, m3⟩ := md_two hP (fun c hc => (hg c hc).2) c2
        have h48x := mend48 (K31 := f_X9_mend_31 fu) (v1 := nI v) (A := mdA P f) hm (fun k k1 x y hx hy => w7 k k1 (by omega) x y hx hy) m3 (P.W * P.H) FU (Nat.le_refl _) (by have : P.W * P.H ≤ 12 * 12 := Nat.mul_le_mul W2 H2; unfold FU; omega) m1
        rw [Nat.sub_self] at h48x
        have hexp : f_X9_mend_31 (fu + 1) (nI v) s = f_X9_mend_48 (f_X9_mend_31 fu) FU (nI v) (nI 0) s := by
          rw [f_X9_mend_31, w5, if_neg c, if_pos rfl, w4, if_pos (by rw [c2]; rfl)]
          rfl
        rw [hexp, h48x]
        have hcntc := gvC_cnt (f := f) (h := h) hP m1 m2 hh
        have hgvv := gvC_val (f := f) (h := h) hP (fun c hc => (hg c hc).2) hh (dif P (mdA P f) (P.W * P.H))
        have hgdef : ∀ c, gvC P f h (dif P (mdA P f) (P.W * P.H)) c = if c = 12 * (dif P (mdA P f) (P.W * P.H) / P.W) + dif P (mdA P f) (P.W * P.H) % P.W then nI (shN (h c)) else f c := fun c => rfl
        revert m1 m2 hcntc hgvv hgdef
        generalize gvC P f h (dif P (mdA P f) (P.W * P.H)) = f2
        generalize dif P (mdA P f) (P.W * P.H) = d
        intro m1 m2 hcntc hgvv hgdef
        obtain ⟨x1, x2⟩ := kWH (H := P.H) (k := d) W1 m1
        have hcc : 12 * (d / P.W) + d % P.W < 144 := by omega
        rw [shown9 C2 hcc (h48 _ hcc) (hh _ hcc), obs]
        show ∃ s', Option.bind (pI s 47 (nI (12 * (d / P.W) + d % P.W)) (nI (shN (h (12 * (d / P.W) + d % P.W))))) _ = _ ∧ _
        rw [pI_nI rfl (by show _ < 144; omega) (by decide), obs]
        generalize hU : sF (sF s 47 (12 * (d / P.W) + d % P.W) (nI (shN (h (12 * (d / P.W) + d % P.W))))) 43 11 0 = U
        have oU : OFr s U := by
          rw [← hU]
          exact ⟨fun a a1 _ _ _ _ a6 => by rw [sF_ne a6, sF_ne a1], fun b b1 _ _ _ _ _ _ _ _ => by rw [sF_nj b1, sF_ne (by decide)], fun _ => rfl⟩
        have hgU : ∀ c, c < 144 → f2 c = U.1 47 c ∧ gVal P.C (f2 c) := fun c hc => by
          refine ⟨?_, hgvv c hc⟩
          rw [hgdef c, ← hU, sF_ne (by decide), sF_get]
          by_cases e : c = 12 * (d / P.W) + d % P.W
          · rw [if_pos e, if_pos ⟨rfl, e⟩, e]
          · rw [if_neg e, if_neg (fun z => e z.2)]
            exact (hg c hc).1
        obtain ⟨T, y1, y2, y3⟩ := searches9 (s := U) (f := f2) (cap := 2) (bud := 400) (hm.o oU) hgU (by omega) (by omega) (by omega)
        rw [y1, obs, nI_1]
        have oT : OFr s T := oU.trans y2.o
        have T47 : T.1 47 = U.1 47 := y2.1 47 (by decide) (by decide) (by decide) (by decide) (by decide)
        obtain ⟨s', i1, i2, i3, i4, i5, i6, i7⟩ := ih fu (v + 1) f2 T (by omega) (by omega) (hm.o oT) (fun c hc => by rw [T47]; exact hgU c hc) (fun c hc => by rw [oT.1 48 (by decide) (by decide) (by decide) (by decide) (by decide) (by decide)]; exact h48 c hc) (by omega) y3
        refine ⟨s', i1, oT.trans i2, i3, fun z => absurd z (by omega), fun _ => ?_, by omega, fun x y hy hx ho hf1 => ?_⟩
        · by_cases z : (mendP P h n f2 (v + 1)).2.2 = v + 1
          · rw [i4 z, y2.2.1 11 (by decide) (by decide) (by decide) (by decide) (by decide) (by decide) (by decide) (by decide), ← hU, sF_at]
          · exact i5 z
        · apply i7 x y hy hx ho
          rw [hgdef, if_neg (by omega)]
          exact hf1
      · rw [if_neg c2]
        apply stay
        rw [f_X9_mend_31, w5, if_neg c, if_pos rfl, w4, if_neg (fun e => c2 (nI_inj (by omega) (by omega) (e.trans (show (2 : Int32) = nI 2 from rfl)))), f_X9_mend_119, w5, if_neg c, if_pos rfl]
end MendC
theorem st_mend {s : St} (hI : Inv s) : Step f_X8_mend f_X9_mend s := by
  obtain ⟨h1, h2, W, H, C, hz, hs, hf, hr⟩ := id hI
  by_cases hW : W = 0
  · subst hW
    refine ⟨-1, s, sF s 43 0 0, ?_, ?_, hI.thrown⟩
    · unfold f_X8_mend f_X8_done
      rw [hasP8 hz, if_pos rfl, obs, if_pos rfl, obs, if_neg (show ¬ (-1 : Int32) = 1 by decide)]
    · unfold f_X9_mend
      rw [obs, noPz hz, obs, if_pos rfl]
  have hp : f_X8_hasPuzzle s = some (1, s) := by rw [hasP8 hz, if_neg hW]
  obtain ⟨P, rfl, rfl, rfl, hc, hm⟩ := hI.px hz (by omega)
  have hP := hc.1
  obtain ⟨⟨W1, W2⟩, -⟩ := id hP
  obtain ⟨hrn, hg13, hg15⟩ := hr W1
  have f13 : ∀ c, c < 144 → gVal P.C (s.1 13 c) := fun c hc => (hg13.1 c hc).2
  have f15 : ∀ c, c < 144 → gVal P.C (s.1 15 c) := fun c hc => (hg15.1 c hc).2
  obtain ⟨s1, a1, a2, a3, a4⟩ := doneC hc hp f15
  have doneM' : ∀ t : St, (∀ a, 43 ≤ a → t.1 a = s.1 a) → ∃ t', (∀ a, a ≠ 64 → a ≠ 65 → t'.1 a = (sF t 43 0 0).1 a) ∧ t'.2 = t.2 ∧ (Dn P (s.1 13) (s.1 15) → f_X9_isDone (sF t 43 0 0) = some (1, t')) ∧ (¬ Dn P (s.1 13) (s.1 15) → f_X9_isDone (sF t 43 0 0) = some (0, t')) ∧ f_X9_is (sF t 43 0 0) = some (1, sF t 43 0 0) ∧ Mz t' P := by
    intro t ht
    have hm1 : Mz (sF t 43 0 0) P := (hm.hi ht : Mz t P)
    obtain ⟨t', b1, b2, b3, b4⟩ := doneM (f := s.1 13) (h := s.1 15) (s := sF t 43 0 0) f15 hm1 (fun j hj => by rw [sF_ne (by decide), ht 47 (by omega)]; exact (hg13.1 j hj).1.symm) (fun j hj => by rw [sF_ne (by decide), ht 48 (by omega)]; exact (hg15.1 j hj).1.symm) hg13.2.1
    refine ⟨t', b1, b2, b3, b4, hm1.is, ?_⟩
    unfold Mz
    rw [b1 43 (by decide) (by decide), b1 44 (by decide) (by decide), b1 45 (by decide) (by decide), b1 46 (by decide) (by decide)]
    exact hm1
  by_cases d : Dn P (s.1 13) (s.1 15)
  · -- class
    have hc1 : Cz s1 P := hc.fr (a1 3 (by decide) (by decide) (by decide) (by decide)) (a1 4 (by decide) (by decide) (by decide) (by decide)) (a1 5 (by decide) (by decide) (by decide) (by decide)) (a1 6 (by decide) (by decide) (by decide) (by decide))
    have hz1 : iSize s1 P.W P.H P.C := by
      unfold iSize
      rw [a1 3 (by decide) (by decide) (by decide) (by decide), a1 43 (by decide) (by decide) (by decide) (by decide)]
      exact hz
    have e13 := a1 13 (by decide) (by decide) (by decide) (by decide)
    have e15 := a1 15 (by decide) (by decide) (by decide) (by decide)
    obtain ⟨sC, c1, c2, c3, c4, c5, c6, c7⟩ := mendC 145 FU 0 s1 (by omega) (by unfold FU; omega) hc1 hz1 (by rw [e13]; exact f13) (by rw [e15]; exact f15) (by rw [e13, a1 12 (by decide) (by decide) (by decide) (by decide)]; exact hg13.2.2) (Nat.zero_le _)
    rw [e13, e15] at c1 c3 c5 c6
    have hiC : ∀ a, 43 ≤ a → sC.1 a = s.1 a := fun a ha => by rw [c2.1 a (by omega) (by omega) (by omega) (by omega) (by omega) (by omega) (by omega) (by omega) (by omega), a1 a (by omega) (by omega) (by omega) (by omega)]
    obtain ⟨t, b1, b2, b3, -, b5, b6⟩ := doneM' sC hiC
    have t47 : t.1 47 = s.1 47 := by rw [b1 47 (by decide) (by decide), sF_ne (by decide), hiC 47 (by omega)]
    have t48 : t.1 48 = s.1 48 := by rw [b1 48 (by decide) (by decide), sF_ne (by decide), hiC 48 (by omega)]
    obtain ⟨u, g1, g2, g3⟩ := searches9 (s := t) (f := s.1 13) (cap := 2) (bud := 400) b6 (fun c hc => ⟨by rw [t47]; exact (hg13.1 c hc).1, f13 c hc⟩) (by omega) (by omega) (by omega)
    obtain ⟨w, k1, k2, k3, k4, k5, k6, k7⟩ := mendM (P := P) (h := s.1 15) f15 145 FU 0 (s.1 13) u (by omega) (by unfold FU; omega) (b6.k g2) (fun c hc => ⟨by rw [g2.1 47 (by decide) (by decide) (by decide) (by decide) (by decide), t47]; exact (hg13.1 c hc).1, f13 c hc⟩) (fun c hc => by rw [g2.1 48 (by decide) (by decide) (by decide) (by decide) (by decide), t48]; exact (hg15.1 c hc).1.symm) (Nat.zero_le _) g3
    have oW : OFr t w := g2.o.trans k2
    -- rows behind it all
    have rr1 : ∀ a, a ≠ 7 → a ≠ 8 → a ≠ 9 → a ≠ 10 → a ≠ 12 → a ≠ 13 → a ≠ 17 → a ≠ 18 → a ≠ 21 → a ≠ 23 → a ≠ 24 → a ≠ 33 → (a < 38 ∨ 42 < a) → a ≠ 43 → a ≠ 47 → a < 58 → w.1 a = s.1 a := fun a x1 x2 x3 x4 x5 x6 x7 x8 x9 x10 x11 x12 x13 x14 x15 x16 => by
      rw [oW.1 a x15 (by omega) (by omega) (by omega) (by omega) x14, b1 a (by omega) (by omega), sF_ne x14, c2.1 a x5 x6 x7 x8 x9 x10 x11 x12 x13, a1 a x1 x2 x3 x4]
    have rr43 : ∀ b, b ≠ 0 → b ≠ 11 → b < 32 → w.1 43 b = s.1 43 b := fun b y1 y2 y3 => by
      rw [oW.2.1 b y2 (by omega) (by omega) (by omega) (by omega) (by omega) (by omega) (by omega) (by omega), b1 43 (by decide) (by decide), sF_nj y1, hiC 43 (by omega)]
    have rC : ∀ a, a ≠ 43 → a ≠ 47 → a < 58 → w.1 a = sC.1 a := fun a y1 y2 y3 => by rw [oW.1 a y2 (by omega) (by omega) (by omega) (by omega) y1, b1 a (by omega) (by omega), sF_ne y1]
    have w13 : w.1 13 = (mendP P (s.1 15) 145 (s.1 13) 0).2.1 := by rw [rC 13 (by decide) (by decide) (by decide), c3]
    refine ⟨(mendP P (s.1 15) 145 (s.1 13) 0).1, sC, w, ?_, ?_, ?_⟩
    · unfold f_X8_mend
      rw [a3 d, obs, if_pos rfl]
      exact c1
    · unfold f_X9_mend
      rw [obs, b5, obs, if_neg nz]
      show Option.bind (f_X9_isDone (sF sC 43 0 0)) _ = _
      rw [b3 d, obs, if_neg nz]
      show Option.bind (f_X9_searches (nI 2) (nI 400) t) _ = _
      rw [g1, obs]
      exact k1
    · have hwl : ∀ b, w.2.1 30 b = s.2.1 30 b := fun b => by
        rw [oW.2.2 b, b2, c2.2.2 b, a2]
      refine ⟨?_, ?_, P.W, P.H, P.C, ?_, ?_, ?_, fun _ => ⟨?_, ⟨fun c hc => ⟨?_, ?_⟩, fun x y hy hx ho => ?_, ?_⟩, ?_⟩⟩
      · unfold iTape
        rw [rr1 1 (by decide) (by decide) (by decide) (by decide) (by decide) (by decide) (by decide) (by decide) (by decide) (by decide) (by decide) (by decide) (by decide) (by decide) (by decide) (by decide), rr43 16 (by decide) (by decide) (by decide), rr1 51 (by decide) (by decide) (by decide) (by decide) (by decide) (by decide) (by decide) (by decide) (by decide) (by decide) (by decide) (by decide) (by decide) (by decide) (by decide) (by decide), rr1 2 (by decide) (by decide) (by decide) (by decide) (by decide) (by decide) (by decide) (by decide) (by decide) (by decide) (by decide) (by decide) (by decide) (by decide) (by decide) (by decide)]
        exact h1
      · rw [rr1 0 (by decide) (by decide) (by decide) (by decide) (by decide) (by decide) (by decide) (by decide) (by decide) (by decide) (by decide) (by decide) (by decide) (by decide) (by decide) (by decide), rr43 19 (by decide) (by decide) (by decide)]
        exact h2
      · unfold iSize
        rw [rr1 3 (by decide) (by decide) (by decide) (by decide) (by decide) (by decide) (by decide) (by decide) (by decide) (by decide) (by decide) (by decide) (by decide) (by decide) (by decide) (by decide), rr43 1 (by decide) (by decide) (by decide), rr43 2 (by decide) (by decide) (by decide), rr43 3 (by decide) (by decide) (by decide)]
        exact hz
      · unfold iSets hasW hasM at hs ⊢
        simp only [rr1 0 (by decide) (by decide) (by decide) (by decide) (by decide) (by decide) (by decide) (by decide) (by decide) (by decide) (by decide) (by decide) (by decide) (by decide) (by decide) (by decide), rr43 10 (by decide) (by decide) (by decide), hwl, rr1 49 (by decide) (by decide) (by decide) (by decide) (by decide) (by decide) (by decide) (by decide) (by decide) (by decide) (by decide) (by decide) (by decide) (by decide) (by decide) (by decide)]
        exact hs
      · have q33 : ∀ b, b ≠ 2 → w.1 33 b = s.1 33 b := fun b hb => by rw [rC 33 (by decide) (by decide) (by decide), c2.2.1 b hb, a1 33 (by decide) (by decide) (by decide) (by decide)]
        have q332 : w.1 33 2 = sC.1 33 2 := by rw [rC 33 (by decide) (by decide) (by decide)]
        have q11 : u.1 43 11 = s.1 43 11 := by rw [g2.2.1 11 (by decide) (by decide) (by decide) (by decide) (by decide) (by decide) (by decide) (by decide), b1 43 (by decide) (by decide), sF_nj (by decide), hiC 43 (by omega)]
        unfold iFound at hf ⊢
        rw [q33 3 (by decide), rr43 12 (by decide) (by decide) (by decide), rr43 13 (by decide) (by decide) (by decide), rr1 35 (by decide) (by decide) (by decide) (by decide) (by decide) (by decide) (by decide) (by decide) (by decide) (by decide) (by decide) (by decide) (by decide) (by decide) (by decide) (by decide), rr1 37 (by decide) (by decide) (by decide) (by decide) (by decide) (by decide) (by decide) (by decide) (by decide) (by decide) (by decide) (by decide) (by decide) (by decide) (by decide) (by decide), rr1 50 (by decide) (by decide) (by decide) (by decide) (by decide) (by decide) (by decide) (by decide) (by decide) (by decide) (by decide) (by decide) (by decide) (by decide) (by decide) (by decide)]
        by_cases z : (mendP P (s.1 15) 145 (s.1 13) 0).2.2 = 0
        · rw [q332, c5 z, a1 33 (by decide) (by decide) (by decide) (by decide), k4 z, q11]
          exact hf
        · rw [q332, c6 z, k5 z]
          exact ⟨hf.1, 0, by omega, rfl, Or.inl ⟨rfl, rfl⟩, fun x y _ _ => ⟨fun q => absurd q (by omega), fun q => absurd q (by omega)⟩⟩
      · unfold iRuns at hrn ⊢
        rw [rr1 4 (by decide) (by decide) (by decide) (by decide) (by decide) (by decide) (by decide) (by decide) (by decide) (by decide) (by decide) (by decide) (by decide) (by decide) (by decide) (by decide), rr1 44 (by decide) (by decide) (by decide) (by decide) (by decide) (by decide) (by decide) (by decide) (by decide) (by decide) (by decide) (by decide) (by decide) (by decide) (by decide) (by decide), rr1 5 (by decide) (by decide) (by decide) (by decide) (by decide) (by decide) (by decide) (by decide) (by decide) (by decide) (by decide) (by decide) (by decide) (by decide) (by decide) (by decide), rr1 45 (by decide) (by decide) (by decide) (by decide) (by decide) (by decide) (by decide) (by decide) (by decide) (by decide) (by decide) (by decide) (by decide) (by decide) (by decide) (by decide), rr1 6 (by decide) (by decide) (by decide) (by decide) (by decide) (by decide) (by decide) (by decide) (by decide) (by decide) (by decide) (by decide) (by decide) (by decide) (by decide) (by decide), rr1 46 (by decide) (by decide) (by decide) (by decide) (by decide) (by decide) (by decide) (by decide) (by decide) (by decide) (by decide) (by decide) (by decide) (by decide) (by decide) (by decide), rr1 3 (by decide) (by decide) (by decide) (by decide) (by decide) (by decide) (by decide) (by decide) (by decide) (by decide) (by decide) (by decide) (by decide) (by decide) (by decide) (by decide)]
        exact hrn
      · rw [w13, (k3 c hc).1]
      · rw [w13]
        exact (k3 c hc).2
      · rw [w13]
        exact k7 x y hy hx ho (hg13.2.1 x y hy hx ho)
      · rw [rC 12 (by decide) (by decide) (by decide), rC 13 (by decide) (by decide) (by decide)]
        exact c4
      · unfold iGrid at hg15 ⊢
        rw [rr1 15 (by decide) (by decide) (by decide) (by decide) (by decide) (by decide) (by decide) (by decide) (by decide) (by decide) (by decide) (by decide) (by decide) (by decide) (by decide) (by decide), rr1 48 (by decide) (by decide) (by decide) (by decide) (by decide) (by decide) (by decide) (by decide) (by decide) (by decide) (by decide) (by decide) (by decide) (by decide) (by decide) (by decide), rr1 14 (by decide) (by decide) (by decide) (by decide) (by decide) (by decide) (by decide) (by decide) (by decide) (by decide) (by decide) (by decide) (by decide) (by decide) (by decide) (by decide)]
        exact hg15
  · obtain ⟨t, b1, b2, -, b4, b5, -⟩ := doneM' s1 (fun a ha => a1 a (by omega) (by omega) (by omega) (by omega))
    refine ⟨-1, s1, t, ?_, ?_, ?_⟩
    · unfold f_X8_mend
      rw [a4 d, obs, if_neg (show ¬ (0 : Int32) = 1 by decide)]
    · unfold f_X9_mend
      rw [obs, b5, obs, if_neg nz]
      show Option.bind (f_X9_isDone (sF s1 43 0 0)) _ = _
      rw [b4 d, obs, if_pos rfl]
    · refine hI.eqV ⟨fun a b v => ?_, fun b => ?_⟩
      · have := visR v
        rw [b1 a (by omega) (by omega)]
        rcases this with ⟨e, e2⟩ | e
        · rw [e, sF_nj (by omega), a1 43 (by decide) (by decide) (by decide) (by decide)]
        · rw [sF_ne (by omega), a1 a (by omega) (by omega) (by omega) (by omega)]
      · rw [b2, a2]
