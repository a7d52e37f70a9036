/-! the model's TRYING -/
def VFr (q : Nat) (s s' : St) : Prop := (∀ a, a ≠ 58 → a ≠ 59 → a ≠ 60 → a ≠ q → a ≠ 43 → s'.1 a = s.1 a) ∧ (∀ b, b ≠ 32 → b ≠ 33 → b ≠ 37 → b ≠ 39 → s'.1 43 b = s.1 43 b) ∧ ∀ a b, ¬ (a = 43 ∧ b = 36) → s'.2.1 a b = s.2.1 a b
theorem VFr.rfl' {q : Nat} {s : St} : VFr q s s := ⟨fun _ _ _ _ _ _ => rfl, fun _ _ _ _ _ => rfl, fun _ _ _ => rfl⟩
theorem VFr.trans {q : Nat} {s t u : St} (h : VFr q s t) (g : VFr q t u) : VFr q s u := ⟨fun a a1 a2 a3 a4 a5 => (g.1 a a1 a2 a3 a4 a5).trans (h.1 a a1 a2 a3 a4 a5), fun b b1 b2 b3 b4 => (g.2.1 b b1 b2 b3 b4).trans (h.2.1 b b1 b2 b3 b4), fun a b c => (g.2.2 a b c).trans (h.2.2 a b c)⟩
theorem TFr.v {q : Nat} {s s' : St} (h : TFr q 0 s s') : VFr q s s' := ⟨fun a a1 a2 _ a4 a5 => h.1 a a1 a2 a4 a5, fun b b1 b2 b3 _ => h.2.1 b b1 b2 b3, h.2.2.1⟩
theorem TFr.v60 {q : Nat} {s s' : St} (h : TFr 60 0 s s') : VFr q s s' := ⟨fun a a1 a2 a3 _ a5 => h.1 a a1 a2 a3 a5, fun b b1 b2 b3 _ => h.2.1 b b1 b2 b3, h.2.2.1⟩
def vOK (q : Nat) : Prop := qOK q 0 ∧ q ≠ 60 ∧ q ≠ 47
theorem VFr.s60 {q j : Nat} {s : St} {v : Int32} : VFr q s (sF s 60 j v) := ⟨fun a _ _ h _ _ => sF_ne h, fun _ _ _ _ _ => by rw [sF_ne (by decide)], fun _ _ _ => rfl⟩
theorem VFr.sq {q j : Nat} {s : St} {v : Int32} (hq : q ≠ 43) : VFr q s (sF s q j v) := ⟨fun a _ _ _ h _ => sF_ne h, fun _ _ _ _ _ => by rw [sF_ne (fun e => hq e.symm)], fun _ _ _ => rfl⟩
theorem VFr.s39 {q : Nat} {s : St} {v : Int32} : VFr q s (sF s 43 39 v) := ⟨fun a _ _ _ _ h => sF_ne h, fun b _ _ _ h => sF_nj h, fun _ _ _ => rfl⟩
section Trying
variable {P : Pz} {q : Nat}
theorem Mz.v {s s' : St} (h : Mz s P) (hq : vOK q) (f : VFr q s s') : Mz s' P := by
  obtain ⟨⟨-, ⟨q1, q2, q3, q4, q5, q6⟩, -⟩, -⟩ := hq
  unfold Mz
  rw [f.1 44 (by decide) (by decide) (by decide) (fun e => q2 e.symm) (by decide), f.1 45 (by decide) (by decide) (by decide) (fun e => q3 e.symm) (by decide), f.1 46 (by decide) (by decide) (by decide) (fun e => q4 e.symm) (by decide), f.2.1 1 (by decide) (by decide) (by decide) (by decide), f.2.1 2 (by decide) (by decide) (by decide) (by decide), f.2.1 3 (by decide) (by decide) (by decide) (by decide)]
  exact h
theorem copy83 {K7 : Int32 → St → Option (Int32 × St)} {K22 : Int32 → Int32 → St → Option (Int32 × St)} {K45 : Int32 → Int32 → Int32 → Int32 → St → Option (Int32 × St)} {v2 v3 v4 v5 : Int32} (hq : vOK q) : ∀ (m j fu : Nat) (t : St), 144 - j = m → j ≤ 144 → m < fu → ∃ t' fu', f_X9_trying_83 q K7 K22 K45 fu v2 v3 v4 v5 (nI j) t = f_X9_trying_83 q K7 K22 K45 (fu' + 1) v2 v3 v4 v5 (nI 144) t' ∧ VFr q t t' ∧ t'.1 43 = t.1 43 ∧ t'.1 q = t.1 q ∧ ∀ i, i < 144 → t'.1 60 i = if j ≤ i then t.1 q i else t.1 60 i := by
  intro m
  induction m with
  | zero =>
    intro j fu t h1 h2 h3
    obtain ⟨fu, rfl⟩ : ∃ z, fu = z + 1 := ⟨fu - 1, by omega⟩
    obtain rfl : j = 144 := by omega
    exact ⟨t, fu, rfl, VFr.rfl', rfl, rfl, fun i hi => by rw [if_neg (by omega)]⟩
  | succ m ih =>
    intro j fu t h1 h2 h3
    obtain ⟨fu, rfl⟩ : ∃ z, fu = z + 1 := ⟨fu - 1, by omega⟩
    have hN : 144 ≤ arN q := by have := hq.1.2.2.1; omega
    rw [f_X9_trying_83, if_neg (show ¬ (144 : Int32) ≤ nI j from nI_ge (b := 144) (by omega) (by omega)), aI_nI hq.1.1 (by omega) hq.1.2.2.2, obs, pI_nI rfl (by show j < 144; omega) (by decide), obs, nI_1]
    obtain ⟨t', fu', e1, e2, e3, e4, e5⟩ := ih (j + 1) fu (sF t 60 j (t.1 q j)) (by omega) (by omega) (by omega)
    refine ⟨t', fu', e1, VFr.s60.trans e2, by rw [e3, sF_ne (by decide)], by rw [e4, sF_ne hq.2.1], fun i hi => ?_⟩
    rw [e5 i hi, sF_ne hq.2.1]
    by_cases c1 : j + 1 ≤ i
    · rw [if_pos c1, if_pos (by omega)]
    · rw [if_neg c1]
      by_cases c2 : i = j
      · rw [c2, sF_at, if_pos (Nat.le_refl _)]
      · rw [sF_nj c2, if_neg (by omega)]
theorem q60 : qOK 60 0 := ⟨rfl, by decide, by decide, by decide⟩
theorem dropI : ∀ z, z < 16 → ∀ v, v < 4 → z.testBit v = true → nI z &&& (((1 : Int32) <<< (nI v &&& 31)) ^^^ (-1 : Int32)) = nI (less z v) := by decide +kernel
theorem hasM_set {s : St} {g : Gs} {q x y z : Nat} {t : St} (hP : P.ok) (hx : x < P.W) (hy : y < P.H) (h : hasM s q 0 P.W P.H g) (ht : ∀ i, i < 144 → t.1 q i = if i = 12 * y + x then nI z else s.1 q i) : hasM t q 0 P.W P.H (setX g x y z) := by
  intro a b ha hb
  obtain ⟨⟨W1, W2⟩, ⟨H1, H2⟩, -⟩ := id hP
  rw [Nat.zero_add, ht _ (by omega)]
  unfold setX
  by_cases e : a = x ∧ b = y
  · rw [if_pos e, if_pos (by omega)]
  · rw [if_neg e, if_neg (by omega)]
    have := h a b ha hb
    rw [Nat.zero_add] at this
    exact this
theorem try45 {K7 : Int32 → St → Option (Int32 × St)} {K22 : Int32 → Int32 → St → Option (Int32 × St)} {v2 v3 : Int32} {x y : Nat} (hq : vOK q) (hx : x < P.W) (hy : y < P.H) : ∀ (k c fu : Nat) (g : Gs) (t : St), k ≤ P.C + 1 → k < fu → Mz t P → setsOK P.W P.H P.C g → allR P g → hasM t q 0 P.W P.H g → t.1 43 39 = nI c → ∃ t', VFr q t t' ∧ hasM t' q 0 P.W P.H (tryC P x y k g c).2.2 ∧ (((tryC P x y k g c).1 = false ∧ f_X9_trying_45 q K7 K22 fu v2 v3 (nI (12 * y + x)) (nI (P.C + 1 - k)) t = some (0, t')) ∨ ((tryC P x y k g c).1 = true ∧ t'.1 43 39 = nI (tryC P x y k g c).2.1 ∧ f_X9_trying_45 q K7 K22 fu v2 v3 (nI (12 * y + x)) (nI (P.C + 1 - k)) t = K22 v2 (v3 + 1) t')) := by
  intro k
  induction k with
  | zero =>
    intro c fu g t hk hf hm hg hr hh h39
    obtain ⟨fu, rfl⟩ : ∃ z, fu = z + 1 := ⟨fu - 1, by omega⟩
    have hC := hm.1.2.2.1.2
    refine ⟨t, VFr.rfl', hh, Or.inr ⟨rfl, h39, ?_⟩⟩
    rw [f_X9_trying_45, hm.2.2.2.1, if_pos (nI_lt (show P.C < P.C + 1 - 0 by omega) (by omega))]
  | succ k ih =>
    intro c fu g t hk hf hm hg hr hh h39
    obtain ⟨fu, rfl⟩ : ∃ z, fu = z + 1 := ⟨fu - 1, by omega⟩
    have hP := hm.1
    have hC := hP.2.2.1.2
    have h16 := ok16 hP hg
    have hz := h16 x y hx hy
    obtain ⟨⟨W1, W2⟩, ⟨H1, H2⟩, -⟩ := id hP
    have hN : 144 ≤ arN q := by have := hq.1.2.2.1; omega
    have hcell : 12 * y + x < 144 := by omega
    have hval : t.1 q (12 * y + x) = nI (g x y) := by
      have := hh x y hx hy
      rw [Nat.zero_add] at this
      exact this
    have hv : P.C + 1 - (k + 1) < P.C + 1 := by omega
    have hnx : P.C + 1 - (k + 1) + 1 = P.C + 1 - k := by omega
    have hpl := pop_le _ hz
    rw [tryC]
    revert hv hnx
    generalize P.C + 1 - (k + 1) = v
    intro hv hnx
    have nextE : nI v + 1 = nI (P.C + 1 - k) := by rw [nI_1, hnx]
    have hexp : f_X9_trying_45 q K7 K22 (fu + 1) v2 v3 (nI (12 * y + x)) (nI v) t = if nI (pop (g x y)) < (2 : Int32) then f_X9_trying_168 q K7 K22 (f_X9_trying_45 q K7 K22 fu) v2 v3 (nI (12 * y + x)) (nI v) t else (if ((nI (g x y) >>> (nI v &&& 31)) &&& (1 : Int32)) = 0 then f_X9_trying_168 q K7 K22 (f_X9_trying_45 q K7 K22 fu) v2 v3 (nI (12 * y + x)) (nI v) t else f_X9_trying_83 q K7 K22 (f_X9_trying_45 q K7 K22 fu) FU v2 v3 (nI (12 * y + x)) (nI v) (0 : Int32) t) := by
      rw [f_X9_trying_45, hm.2.2.2.1, if_neg (nI_nlt (by omega) (by omega)), aI_nI hq.1.1 (by omega) hq.1.2.2.2, obs, hval, many9 hz, obs]
      show (if nI (pop (g x y)) < (2 : Int32) then _ else Option.bind (aI t q (nI (12 * y + x))) _) = _
      rw [aI_nI hq.1.1 (by omega) hq.1.2.2.2, obs, hval]
    have stay : tryV P x y g v = (true, 0, g) → f_X9_trying_45 q K7 K22 (fu + 1) v2 v3 (nI (12 * y + x)) (nI v) t = f_X9_trying_168 q K7 K22 (f_X9_trying_45 q K7 K22 fu) v2 v3 (nI (12 * y + x)) (nI v) t → ∃ t', VFr q t t' ∧ hasM t' q 0 P.W P.H (if (tryV P x y g v).1 = true then tryC P x y k (tryV P x y g v).2.2 (c + (tryV P x y g v).2.1) else (false, c + (tryV P x y g v).2.1, (tryV P x y g v).2.2)).2.2 ∧ (((if (tryV P x y g v).1 = true then tryC P x y k (tryV P x y g v).2.2 (c + (tryV P x y g v).2.1) else (false, c + (tryV P x y g v).2.1, (tryV P x y g v).2.2)).1 = false ∧ f_X9_trying_45 q K7 K22 (fu + 1) v2 v3 (nI (12 * y + x)) (nI v) t = some (0, t')) ∨ ((if (tryV P x y g v).1 = true then tryC P x y k (tryV P x y g v).2.2 (c + (tryV P x y g v).2.1) else (false, c + (tryV P x y g v).2.1, (tryV P x y g v).2.2)).1 = true ∧ t'.1 43 39 = nI (if (tryV P x y g v).1 = true then tryC P x y k (tryV P x y g v).2.2 (c + (tryV P x y g v).2.1) else (false, c + (tryV P x y g v).2.1, (tryV P x y g v).2.2)).2.1 ∧ f_X9_trying_45 q K7 K22 (fu + 1) v2 v3 (nI (12 * y + x)) (nI v) t = K22 v2 (v3 + 1) t')) := by
      intro eV e
      rw [e, f_X9_trying_168, nextE, eV, if_pos rfl]
      exact ih c fu g t (by omega) (by omega) hm hg hr hh h39
    by_cases c1 : 2 ≤ pop (g x y)
    · rw [if_neg (show ¬ nI (pop (g x y)) < (2 : Int32) from nI_nlt (b := 2) c1 (by omega)), bit_and _ hz v (by omega)] at hexp
      by_cases c2 : (g x y).testBit v = true
      · rw [if_pos c2, if_neg (show ¬ (1 : Int32) = 0 by decide)] at hexp
        obtain ⟨ta, fu', a1, a2, a3, a4, a5⟩ := copy83 (K7 := K7) (K22 := K22) (K45 := f_X9_trying_45 q K7 K22 fu) (v2 := v2) (v3 := v3) (v4 := nI (12 * y + x)) (v5 := nI v) hq 144 0 FU t (by omega) (by omega) (by unfold FU; omega)
        have a1' : f_X9_trying_45 q K7 K22 (fu + 1) v2 v3 (nI (12 * y + x)) (nI v) t = f_X9_trying_83 q K7 K22 (f_X9_trying_45 q K7 K22 fu) (fu' + 1) v2 v3 (nI (12 * y + x)) (nI v) (nI 144) ta := hexp.trans a1
        -- the copy with the cell set
        have po := pow_ok (P := P) hv
        have hok2 := setX_ok (x := x) (y := y) hg po.1 po.2
        have hmb : Mz (sF ta 60 (12 * y + x) (nI (2 ^ v))) P := hm.v hq (a2.trans VFr.s60)
        have hhb : hasM (sF ta 60 (12 * y + x) (nI (2 ^ v))) 60 0 P.W P.H (setX g x y (2 ^ v)) := by
          intro a b ha hb
          rw [Nat.zero_add]
          unfold setX
          by_cases e : a = x ∧ b = y
          · rw [if_pos e, e.1, e.2, sF_at]
          · rw [if_neg e, sF_nj (by omega), a5 _ (by omega), if_pos (Nat.zero_le _)]
            have := hh a b ha hb
            rw [Nat.zero_add] at this
            exact this
        obtain ⟨tb, b1, b2, b3, -⟩ := toRest9 q60 hmb hok2 hhb
        have eV : tryV P x y g v = (if (restP P (setX g x y (2 ^ v))).1 = true then (true, 0, g) else ((restP P (setX g x y (less (g x y) v))).1, 1, (restP P (setX g x y (less (g x y) v))).2.2)) := by unfold tryV; rw [if_pos ⟨c1, c2⟩]
        have fab : VFr q t tb := a2.trans (VFr.s60.trans b1.v60)
        have hqb : tb.1 q = t.1 q := by rw [b1.1 q hq.1.2.1.2.2.2.2.1 hq.1.2.1.2.2.2.2.2 hq.2.1 hq.1.2.1.1, sF_ne hq.2.1, a4]
        have h39b : tb.1 43 39 = nI c := by rw [b1.2.1 39 (by decide) (by decide) (by decide), sF_ne (by decide), a3, h39]
        have hexp2 : f_X9_trying_45 q K7 K22 (fu + 1) v2 v3 (nI (12 * y + x)) (nI v) t = if (restP P (setX g x y (2 ^ v))).1 = true then f_X9_trying_168 q K7 K22 (f_X9_trying_45 q K7 K22 fu) v2 v3 (nI (12 * y + x)) (nI v) tb else Option.bind (f_X9_toRest q (nI 0) (sF (sF tb q (12 * y + x) (nI (less (g x y) v))) 43 39 (nI (c + 1)))) fun r8 => if r8.1 = 0 then some ((0 : Int32), r8.2) else f_X9_trying_168 q K7 K22 (f_X9_trying_45 q K7 K22 fu) v2 v3 (nI (12 * y + x)) (nI v) r8.2 := by
          rw [a1', f_X9_trying_83, if_pos (by decide), oneI v (by omega), pI_nI rfl (by show _ < 144; omega) (by decide), obs]
          show Option.bind (f_X9_toRest 60 (nI 0) (sF ta 60 (12 * y + x) (nI (2 ^ v)))) _ = _
          rw [b3, obs]
          by_cases c3 : (restP P (setX g x y (2 ^ v))).1 = true
          · rw [if_pos c3, if_neg nz, if_pos c3]
          · rw [if_neg c3, if_pos rfl, if_neg c3]
            show Option.bind (aI tb q (nI (12 * y + x))) _ = _
            rw [aI_nI hq.1.1 (by omega) hq.1.2.2.2, obs, hqb, hval, ← oneI v (by omega), dropI _ hz v (by omega) c2, pI_nI hq.1.1 (by omega) hq.1.2.2.2, obs, obs, sF_ne (fun e => hq.1.2.1.1 e.symm), h39b, nI_1]
            rfl
        by_cases c3 : (restP P (setX g x y (2 ^ v))).1 = true
        · rw [if_pos c3, f_X9_trying_168, nextE] at hexp2
          rw [if_pos c3] at eV
          rw [eV, if_pos rfl]
          obtain ⟨t', i1, i2, i3⟩ := ih c fu g tb (by omega) (by omega) (hm.v hq fab) hg hr (by unfold hasM; rw [hqb]; exact hh) h39b
          refine ⟨t', fab.trans i1, i2, ?_⟩
          rw [hexp2]
          exact i3
        · rw [if_neg c3] at hexp2 eV
          obtain ⟨l1, l2⟩ := less_ok _ hz v (by omega) c2 c1
          have hok3 := setX_ok (x := x) (y := y) hg l1 (Nat.lt_of_le_of_lt (less_le _ v) (hg x y hx hy).2)
          have fc : VFr q t (sF (sF tb q (12 * y + x) (nI (less (g x y) v))) 43 39 (nI (c + 1))) := fab.trans ((VFr.sq hq.1.2.1.1).trans VFr.s39)
          have hhc : hasM (sF (sF tb q (12 * y + x) (nI (less (g x y) v))) 43 39 (nI (c + 1))) q 0 P.W P.H (setX g x y (less (g x y) v)) := hasM_set hP hx hy hh (fun i hi => by
            rw [sF_ne hq.1.2.1.1, sF_get]
            by_cases e : i = 12 * y + x
            · rw [if_pos ⟨rfl, e⟩, if_pos e]
            · rw [if_neg (fun z => e z.2), if_neg e, hqb])
          obtain ⟨td, d1, d2, d3, -⟩ := toRest9 hq.1 (hm.v hq fc) hok3 hhc
          obtain ⟨r1, r2, r3, r4, r5⟩ := restP_spec hP hok3
          rw [d3, obs] at hexp2
          have fd : VFr q t td := fc.trans d1.v
          by_cases c4 : (restP P (setX g x y (less (g x y) v))).1 = true
          · rw [if_pos c4, if_neg nz, f_X9_trying_168, nextE] at hexp2
            rw [eV, if_pos c4]
            obtain ⟨t', i1, i2, i3⟩ := ih (c + 1) fu _ td (by omega) (by omega) (hm.v hq fd) r1 (r5 c4) d2 (by rw [d1.2.1 39 (by decide) (by decide) (by decide), sF_at])
            refine ⟨t', fd.trans i1, i2, ?_⟩
            rw [hexp2]
            exact i3
          · rw [if_neg c4, if_pos rfl] at hexp2
            rw [eV, if_neg c4]
            exact ⟨td, fd, d2, Or.inl ⟨rfl, hexp2⟩⟩
      · rw [if_neg c2, if_pos rfl] at hexp
        exact stay (by unfold tryV; rw [if_neg (fun q => c2 q.2)]) hexp
    · rw [if_pos (show nI (pop (g x y)) < (2 : Int32) from nI_lt (b := 2) (by omega) (by omega))] at hexp
      exact stay (by unfold tryV; rw [if_neg (fun q => c1 q.1)]) hexp
theorem Mz.inOrd {s : St} {k : Nat} (h : Mz s P) (hk : k < P.W * P.H) : f_X9_inOrder (nI k) s = some (nI (12 * (k / P.W) + k % P.W), s) := by
  obtain ⟨⟨W1, W2⟩, ⟨H1, H2⟩, -⟩ := id h.1
  have : P.W * P.H ≤ 12 * 12 := Nat.mul_le_mul W2 H2
  have d0 : ¬ nI P.W = 0 := nI_ne0 (by omega) (by omega)
  unfold f_X9_inOrder
  rw [h.2.1, if_neg d0, if_neg d0, pk_rem (by omega) (by omega) (by omega), pk_div (by omega) (by omega) (by omega), n12, pk_mul, nI_add]
theorem try22 {K7 : Int32 → St → Option (Int32 × St)} {v2 : Int32} (hq : vOK q) : ∀ (k c fu : Nat) (g : Gs) (t : St), k ≤ P.W * P.H → k < fu → Mz t P → setsOK P.W P.H P.C g → allR P g → hasM t q 0 P.W P.H g → t.1 43 39 = nI c → ∃ t', VFr q t t' ∧ hasM t' q 0 P.W P.H (tryA P k g c).2.2 ∧ (((tryA P k g c).1 = false ∧ f_X9_trying_22 q K7 fu v2 (nI (P.W * P.H - k)) t = some (0, t')) ∨ ((tryA P k g c).1 = true ∧ t'.1 43 39 = nI (tryA P k g c).2.1 ∧ f_X9_trying_22 q K7 fu v2 (nI (P.W * P.H - k)) t = K7 v2 t')) := by
  intro k
  induction k with
  | zero =>
    intro c fu g t hk hf hm hg hr hh h39
    obtain ⟨fu, rfl⟩ : ∃ z, fu = z + 1 := ⟨fu - 1, by omega⟩
    obtain ⟨⟨W1, W2⟩, ⟨H1, H2⟩, -⟩ := id hm.1
    have : P.W * P.H ≤ 12 * 12 := Nat.mul_le_mul W2 H2
    refine ⟨t, VFr.rfl', hh, Or.inr ⟨rfl, h39, ?_⟩⟩
    rw [f_X9_trying_22, hm.2.1, hm.2.2.1, pk_mul, if_pos (nI_le (show P.W * P.H ≤ P.W * P.H - 0 from Nat.le_refl _) (by omega))]
  | succ k ih =>
    intro c fu g t hk hf hm hg hr hh h39
    obtain ⟨fu, rfl⟩ : ∃ z, fu = z + 1 := ⟨fu - 1, by omega⟩
    have hP := hm.1
    obtain ⟨⟨W1, W2⟩, ⟨H1, H2⟩, -⟩ := id hP
    have hWH : P.W * P.H ≤ 12 * 12 := Nat.mul_le_mul W2 H2
    have hi : P.W * P.H - (k + 1) < P.W * P.H := by omega
    have hnx : P.W * P.H - (k + 1) + 1 = P.W * P.H - k := by omega
    obtain ⟨w1, w2⟩ := kWH (H := P.H) (k := P.W * P.H - (k + 1)) W1 hi
    have hexp : f_X9_trying_22 q K7 (fu + 1) v2 (nI (P.W * P.H - (k + 1))) t = f_X9_trying_45 q K7 (f_X9_trying_22 q K7 fu) FU v2 (nI (P.W * P.H - (k + 1))) (nI (12 * ((P.W * P.H - (k + 1)) / P.W) + (P.W * P.H - (k + 1)) % P.W)) (nI 0) t := by
      rw [f_X9_trying_22, hm.2.1, hm.2.2.1, pk_mul, if_neg (nI_ge hi (by omega)), hm.inOrd hi, obs]
      rfl
    rw [tryA]
    revert hexp hi hnx w1 w2
    generalize P.W * P.H - (k + 1) = i
    generalize i % P.W = a
    generalize i / P.W = b
    intro hi hnx w1 w2 hexp
    obtain ⟨o1, o2, o3, o4, o5⟩ := tryC_ok hP w1 w2 (P.C + 1) g c (Nat.le_refl _) hg hr
    obtain ⟨t1, e1, e2, e3⟩ := try45 (K7 := K7) (K22 := f_X9_trying_22 q K7 fu) (v2 := v2) (v3 := nI i) hq w1 w2 (P.C + 1) c FU g t (Nat.le_refl _) (by have := hP.2.2.1.2; unfold FU; omega) hm hg hr hh h39
    rw [Nat.sub_self] at e3
    rw [hexp]
    rcases e3 with ⟨j1, j2⟩ | ⟨j1, j2, j3⟩
    · rw [if_neg (by rw [j1]; decide)]
      exact ⟨t1, e1, e2, Or.inl ⟨j1, j2⟩⟩
    · rw [if_pos j1]
      obtain ⟨t', i1, i2, i3⟩ := ih (tryC P a b (P.C + 1) g c).2.1 fu _ t1 (by omega) (by omega) (hm.v hq e1) o1 (o5 j1) e2 j2
      refine ⟨t', e1.trans i1, i2, ?_⟩
      rw [j3, nI_1, hnx]
      exact i3
theorem try7 (hq : vOK q) : ∀ (f c fu : Nat) (g : Gs) (t : St) (v2 : Int32), szG P g < f → f < fu → c + szG P g < 2 ^ 30 → ¬ nI c ≤ v2 → Mz t P → setsOK P.W P.H P.C g → allR P g → hasM t q 0 P.W P.H g → t.1 43 39 = nI c → ∃ t', VFr q t t' ∧ hasM t' q 0 P.W P.H (tryR P f g c).2.2 ∧ f_X9_trying_7 q fu v2 t = some (if (tryR P f g c).1 = true then 1 else 0, t') ∧ ((tryR P f g c).1 = true → t'.1 43 39 = nI (tryR P f g c).2.1) := by
  intro f
  induction f with
  | zero => intro c fu g t v2 h; omega
  | succ f ih =>
    intro c fu g t v2 h hfu hcc hv2 hm hg hr hh h39
    obtain ⟨fu, rfl⟩ : ∃ z, fu = z + 1 := ⟨fu - 1, by omega⟩
    have hP := hm.1
    obtain ⟨⟨W1, W2⟩, ⟨H1, H2⟩, -⟩ := id hP
    have hWH : P.W * P.H ≤ 12 * 12 := Nat.mul_le_mul W2 H2
    obtain ⟨o1, o2, o3, o4, o5⟩ := tryA_ok hP (P.W * P.H) g c (Nat.le_refl _) hg hr
    obtain ⟨t1, e1, e2, e3⟩ := try22 (K7 := f_X9_trying_7 q fu) (v2 := nI c) hq (P.W * P.H) c FU g t (Nat.le_refl _) (by unfold FU; omega) hm hg hr hh h39
    rw [Nat.sub_self] at e3
    have e0 : f_X9_trying_7 q (fu + 1) v2 t = f_X9_trying_22 q (f_X9_trying_7 q fu) FU (nI c) (nI 0) t := by
      rw [f_X9_trying_7, h39, if_neg hv2]
      rfl
    rw [tryR, e0]
    rcases e3 with ⟨j1, j2⟩ | ⟨j1, j2, j3⟩
    · have nj : ¬ (tryA P (P.W * P.H) g c).1 = true := by rw [j1]; decide
      rw [if_neg nj, if_neg nj]
      exact ⟨t1, e1, e2, j2, fun z => absurd z nj⟩
    · rw [if_pos j1]
      by_cases e : (tryA P (P.W * P.H) g c).2.1 = c
      · rw [if_pos e, if_pos j1]
        refine ⟨t1, e1, e2, ?_, fun _ => j2⟩
        obtain ⟨fu, rfl⟩ : ∃ z, fu = z + 1 := ⟨fu - 1, by omega⟩
        rw [j3, f_X9_trying_7, j2, e, if_pos (nI_le (Nat.le_refl _) (by omega))]
      · rw [if_neg e]
        obtain ⟨t', i1, i2, i3, i4⟩ := ih (tryA P (P.W * P.H) g c).2.1 fu _ t1 (nI c) (by omega) (by omega) (by omega) (nI_ge (by omega) (by omega)) (hm.v hq e1) o1 (o5 j1) e2 j2
        exact ⟨t', e1.trans i1, i2, j3.trans i3, i4⟩
theorem trying9 {g : Gs} {t : St} (hq : vOK q) (hm : Mz t P) (hg : setsOK P.W P.H P.C g) (hr : allR P g) (hh : hasM t q 0 P.W P.H g) : ∃ t', VFr q t t' ∧ hasM t' q 0 P.W P.H (triesP P g).2.2 ∧ f_X9_trying q t = some (if (triesP P g).1 = true then 1 else 0, t') ∧ ((triesP P g).1 = true → t'.1 43 39 = nI (triesP P g).2.1) := by
  have hs := szG_le hm.1 hg
  have f0 : VFr q t (sF t 43 39 0) := VFr.s39
  obtain ⟨t', a, b, c, d⟩ := try7 hq 600 0 FU g (sF t 43 39 0) (-1) (by omega) (by unfold FU; omega) (by omega) (by decide) (hm.v hq f0) hg hr (by unfold hasM; rw [sF_ne hq.1.2.1.1]; exact hh) (by rw [sF_at]; rfl)
  exact ⟨t', f0.trans a, b, c, d⟩
end Trying
