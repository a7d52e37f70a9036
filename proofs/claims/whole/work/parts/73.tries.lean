/-! TRYING, as a function on sets -/
def tryV (P : Pz) (x y : Nat) (g : Gs) (v : Nat) : Bool × Nat × Gs := if 2 ≤ pop (g x y) ∧ (g x y).testBit v = true then (if (restP P (setX g x y (2 ^ v))).1 = true then (true, 0, g) else ((restP P (setX g x y (less (g x y) v))).1, 1, (restP P (setX g x y (less (g x y) v))).2.2)) else (true, 0, g)
def tryC (P : Pz) (x y : Nat) : Nat → Gs → Nat → Bool × Nat × Gs
  | 0, g, c => (true, c, g)
  | k + 1, g, c => if (tryV P x y g (P.C + 1 - (k + 1))).1 = true then tryC P x y k (tryV P x y g (P.C + 1 - (k + 1))).2.2 (c + (tryV P x y g (P.C + 1 - (k + 1))).2.1) else (false, c + (tryV P x y g (P.C + 1 - (k + 1))).2.1, (tryV P x y g (P.C + 1 - (k + 1))).2.2)
def tryA (P : Pz) : Nat → Gs → Nat → Bool × Nat × Gs
  | 0, g, c => (true, c, g)
  | k + 1, g, c => if (tryC P ((P.W * P.H - (k + 1)) % P.W) ((P.W * P.H - (k + 1)) / P.W) (P.C + 1) g c).1 = true then tryA P k (tryC P ((P.W * P.H - (k + 1)) % P.W) ((P.W * P.H - (k + 1)) / P.W) (P.C + 1) g c).2.2 (tryC P ((P.W * P.H - (k + 1)) % P.W) ((P.W * P.H - (k + 1)) / P.W) (P.C + 1) g c).2.1 else tryC P ((P.W * P.H - (k + 1)) % P.W) ((P.W * P.H - (k + 1)) / P.W) (P.C + 1) g c
def tryR (P : Pz) : Nat → Gs → Nat → Bool × Nat × Gs
  | 0, g, c => (true, c, g)
  | f + 1, g, c => if (tryA P (P.W * P.H) g c).1 = true then (if (tryA P (P.W * P.H) g c).2.1 = c then tryA P (P.W * P.H) g c else tryR P f (tryA P (P.W * P.H) g c).2.2 (tryA P (P.W * P.H) g c).2.1) else tryA P (P.W * P.H) g c
def allR (P : Pz) (g : Gs) : Prop := ∀ l, l < P.L → rst P g l
/-- what a piece of TRYING does to the sets -/
def tOK (P : Pz) (g : Gs) (c : Nat) (r : Bool × Nat × Gs) : Prop := setsOK P.W P.H P.C r.2.2 ∧ subG P r.2.2 g ∧ c ≤ r.2.1 ∧ r.2.1 + szG P r.2.2 ≤ c + szG P g ∧ (r.1 = true → allR P r.2.2)
theorem less_ok : ∀ z, z < 16 → ∀ v, v < 4 → z.testBit v = true → 2 ≤ pop z → 1 ≤ less z v ∧ pop (less z v) + 1 = pop z := by decide +kernel
theorem less_le (z v : Nat) : less z v ≤ z := by
  unfold less
  split
  · exact Nat.sub_le _ _
  · exact Nat.le_refl _
section Tries
variable {P : Pz} {g : Gs} {x y : Nat}
theorem setX_ok {z : Nat} (hg : setsOK P.W P.H P.C g) (h1 : 1 ≤ z) (h2 : z < 2 ^ (P.C + 1)) : setsOK P.W P.H P.C (setX g x y z) := by
  intro a b ha hb
  unfold setX
  by_cases e : a = x ∧ b = y
  · rw [if_pos e]
    exact ⟨h1, h2⟩
  · rw [if_neg e]
    exact hg a b ha hb
theorem setX_at {z : Nat} : setX g x y z x y = z := if_pos ⟨rfl, rfl⟩
theorem pow_ok {v : Nat} (hv : v < P.C + 1) : 1 ≤ 2 ^ v ∧ 2 ^ v < 2 ^ (P.C + 1) := ⟨Nat.one_le_two_pow, Nat.pow_lt_pow_right (by decide) hv⟩
theorem setX_rst {z : Nat} (hP : P.ok) (hx : x < P.W) (hy : y < P.H) (h : allR P g) {m : Nat} (hm : m < P.L) (n1 : m ≠ y) (n2 : m ≠ P.H + x) : rst P (setX g x y z) m := by
  refine rst_congr hP hm (fun c hc => ?_) (h m hm)
  rw [rowM_set, if_neg]
  intro q
  unfold Pz.n lnOf at hc
  unfold Pz.L at hm
  rcases q with ⟨q1, q2, q3⟩ | ⟨q1, q2, q3⟩
  · exact n1 q3
  · exact n2 (by omega)
theorem tryV_ok (hP : P.ok) (hx : x < P.W) (hy : y < P.H) (hg : setsOK P.W P.H P.C g) (hr : allR P g) {v : Nat} (hv : v < P.C + 1) : tOK P g 0 (tryV P x y g v) := by
  have hC := hP.2.2.1.2
  have h16 := ok16 hP hg
  have hz := h16 x y hx hy
  unfold tryV
  by_cases c : 2 ≤ pop (g x y) ∧ (g x y).testBit v = true
  · rw [if_pos c]
    by_cases d : (restP P (setX g x y (2 ^ v))).1 = true
    · rw [if_pos d]
      exact ⟨hg, subG_rfl, Nat.le_refl _, Nat.le_refl _, fun _ => hr⟩
    · rw [if_neg d]
      obtain ⟨l1, l2⟩ := less_ok _ hz v (by omega) c.2 c.1
      have hok := setX_ok (x := x) (y := y) hg l1 (Nat.lt_of_le_of_lt (less_le _ v) (hg x y hx hy).2)
      obtain ⟨r1, r2, r3, r4, r5⟩ := restP_spec hP hok
      have sub : subG P (setX g x y (less (g x y) v)) g := by
        intro a b ha hb w hw q
        unfold setX at q
        by_cases e : a = x ∧ b = y
        · rw [if_pos e, less_bit _ hz v (by omega) w hw] at q
          obtain ⟨rfl, rfl⟩ := e
          by_cases e2 : w = v
          · rw [if_pos e2] at q
            cases q
          · rw [if_neg e2] at q
            exact q
        · rw [if_neg e] at q
          exact q
      refine ⟨r1, r2.trans sub, Nat.zero_le _, ?_, fun h => r5 h⟩
      have s1 := szG_sub (ok16 hP hok) (ok16 hP r1) r2
      have s2 := szG_lt h16 (ok16 hP hok) sub hx hy (by rw [setX_at]; intro e; rw [e] at l2; omega)
      show 1 + szG P (restP P (setX g x y (less (g x y) v))).2.2 ≤ 0 + szG P g
      omega
  · rw [if_neg c]
    exact ⟨hg, subG_rfl, Nat.le_refl _, Nat.le_refl _, fun _ => hr⟩
theorem tryC_ok (hP : P.ok) (hx : x < P.W) (hy : y < P.H) : ∀ k g c, k ≤ P.C + 1 → setsOK P.W P.H P.C g → allR P g → tOK P g c (tryC P x y k g c) := by
  intro k
  induction k with
  | zero =>
    intro g c _ hg hr
    exact ⟨hg, subG_rfl, Nat.le_refl _, Nat.le_refl _, fun _ => hr⟩
  | succ k ih =>
    intro g c hk hg hr
    obtain ⟨t1, t2, t3, t4, t5⟩ := tryV_ok hP hx hy hg hr (v := P.C + 1 - (k + 1)) (by omega)
    rw [tryC]
    by_cases d : (tryV P x y g (P.C + 1 - (k + 1))).1 = true
    · rw [if_pos d]
      obtain ⟨i1, i2, i3, i4, i5⟩ := ih _ (c + (tryV P x y g (P.C + 1 - (k + 1))).2.1) (by omega) t1 (t5 d)
      exact ⟨i1, i2.trans t2, by omega, by omega, i5⟩
    · rw [if_neg d]
      exact ⟨t1, t2, by show c ≤ c + _; omega, by show c + (tryV P x y g (P.C + 1 - (k + 1))).2.1 + szG P (tryV P x y g (P.C + 1 - (k + 1))).2.2 ≤ c + szG P g; omega, fun h => by cases h⟩
theorem tryC_stop : ∀ k c, pop (g x y) < 2 → tryC P x y k g c = (true, c, g) := by
  intro k
  induction k with
  | zero => intro c _; rfl
  | succ k ih =>
    intro c h
    have : tryV P x y g (P.C + 1 - (k + 1)) = (true, 0, g) := by unfold tryV; rw [if_neg (fun q => by omega)]
    rw [tryC, this, if_pos rfl]
    exact ih c h
theorem tryA_ok (hP : P.ok) : ∀ k g c, k ≤ P.W * P.H → setsOK P.W P.H P.C g → allR P g → tOK P g c (tryA P k g c) := by
  intro k
  induction k with
  | zero =>
    intro g c _ hg hr
    exact ⟨hg, subG_rfl, Nat.le_refl _, Nat.le_refl _, fun _ => hr⟩
  | succ k ih =>
    intro g c hk hg hr
    obtain ⟨w1, w2⟩ := kWH (H := P.H) (k := P.W * P.H - (k + 1)) hP.1.1 (by omega)
    rw [tryA]
    revert w1 w2
    generalize (P.W * P.H - (k + 1)) % P.W = a
    generalize (P.W * P.H - (k + 1)) / P.W = b
    intro w1 w2
    obtain ⟨t1, t2, t3, t4, t5⟩ := tryC_ok hP w1 w2 (P.C + 1) g c (Nat.le_refl _) hg hr
    by_cases d : (tryC P a b (P.C + 1) g c).1 = true
    · rw [if_pos d]
      obtain ⟨i1, i2, i3, i4, i5⟩ := ih _ (tryC P a b (P.C + 1) g c).2.1 (by omega) t1 (t5 d)
      exact ⟨i1, i2.trans t2, by omega, by omega, i5⟩
    · rw [if_neg d]
      exact ⟨t1, t2, t3, t4, fun h => absurd h d⟩
theorem tryR_ok (hP : P.ok) : ∀ f g c, szG P g < f → setsOK P.W P.H P.C g → allR P g → tOK P g c (tryR P f g c) := by
  intro f
  induction f with
  | zero => intro g c h; omega
  | succ f ih =>
    intro g c h hg hr
    obtain ⟨t1, t2, t3, t4, t5⟩ := tryA_ok hP (P.W * P.H) g c (Nat.le_refl _) hg hr
    rw [tryR]
    by_cases d : (tryA P (P.W * P.H) g c).1 = true
    · rw [if_pos d]
      by_cases e : (tryA P (P.W * P.H) g c).2.1 = c
      · rw [if_pos e]
        exact ⟨t1, t2, t3, t4, t5⟩
      · rw [if_neg e]
        obtain ⟨i1, i2, i3, i4, i5⟩ := ih _ (tryA P (P.W * P.H) g c).2.1 (by omega) t1 (t5 d)
        exact ⟨i1, i2.trans t2, by omega, by omega, i5⟩
    · rw [if_neg d]
      exact ⟨t1, t2, t3, t4, t5⟩
end Tries
/-! the class sifts -/
def XFr (q : Nat) (s s' : St) : Prop := (∀ a, a ≠ 17 → a ≠ 18 → s'.1 a = s.1 a) ∧ (∀ a, a ≠ q → a ≠ 28 → s'.2.1 a = s.2.1 a) ∧ s'.2.2 = s.2.2
theorem XFr.rfl' {q : Nat} {s : St} : XFr q s s := ⟨fun _ _ _ => rfl, fun _ _ _ => rfl, rfl⟩
theorem XFr.trans {q : Nat} {s t u : St} (h : XFr q s t) (g : XFr q t u) : XFr q s u := ⟨fun a h1 h2 => (g.1 a h1 h2).trans (h.1 a h1 h2), fun a h1 h2 => (g.2.1 a h1 h2).trans (h.2.1 a h1 h2), g.2.2.trans h.2.2⟩
theorem Cz.x {s s' : St} {P : Pz} {q : Nat} (h : Cz s P) (g : XFr q s s') : Cz s' P := h.fr (g.1 3 (by decide) (by decide)) (g.1 4 (by decide) (by decide)) (g.1 5 (by decide) (by decide)) (g.1 6 (by decide) (by decide))
theorem SFr.x {q : Nat} {s s' : St} (h : SFr q s s') : XFr q s s' := ⟨h.1, fun a h1 _ => h.2.1 a h1, h.2.2⟩
theorem SFr.x28 {q : Nat} {s s' : St} (h : SFr 28 s s') : XFr q s s' := ⟨h.1, fun a _ h2 => h.2.1 a h2, h.2.2⟩
section Sift
variable {P : Pz} {G q x y : Nat}
theorem lthr {s : St} (hc : Cz s P) (hG : sOK G q) (hx : x < P.W) (hy : y < P.H) : ∃ mk, f_X4_linesThrough G (nI x) (nI y) s = some (mk, s) ∧ ∀ m, m < 32 → bt mk m = (decide (m = y) || decide (m = P.H + x)) := by
  obtain ⟨⟨W1, W2⟩, ⟨H1, H2⟩, -⟩ := id hc.1
  refine ⟨((1 : Int32) <<< (nI y &&& 31)) ||| ((1 : Int32) <<< ((s.1 3 4 + nI x) &&& 31)), ?_, fun m hm => ?_⟩
  · unfold f_X4_linesThrough
    rw [if_neg (fun q => q hG.1)]
  · rw [hc.2.2.1, nI_add, b_or, b_shl1 (by omega) hm, b_shl1 (by omega) hm]
theorem valAt {s : St} {g : Gs} (hc : Cz s P) (hG : sOK G q) (hx : x < P.W) (hy : y < P.H) (hg : setsOK P.W P.H P.C g) (hw : hasWr (s.2.1 q) P.W P.H g) : f_X4_valuesAt G (nI x) (nI y) s = some (nI (g x y), s) :=
  valuesAt4 (m := g) hG.1 (by rw [hG.2.1]; exact hG.2.2.1) (by rw [hG.2.1]; exact hG.2.2.2) hx hy hc.1.1.2 hc.1.2.1.2 (by rw [hG.2.1]; exact hw) (ok16 hc.1 hg x y hx hy)
theorem sift14 {mk : Int32} (hG : sOK G q) (hq : q ≠ 28) (hx : x < P.W) (hy : y < P.H) (hmk : ∀ m, m < 32 → bt mk m = (decide (m = y) || decide (m = P.H + x))) : ∀ (k c fu : Nat) (g : Gs) (s : St), k ≤ P.C + 1 → k < fu → c + szG P g < 2 ^ 30 → Cz s P → setsOK P.W P.H P.C g → allR P g → hasWr (s.2.1 q) P.W P.H g → ∃ s', XFr q s s' ∧ hasWr (s'.2.1 q) P.W P.H (tryC P x y k g c).2.2 ∧ f_X5_siftCell_14 G fu (nI x) (nI y) mk (nI c) (nI (P.C + 1 - k)) s = some (if (tryC P x y k g c).1 = true then nI (tryC P x y k g c).2.1 else -2, s') := by
  intro k
  induction k with
  | zero =>
    intro c fu g s hk hf hcc hc hg hr hw
    obtain ⟨fu, rfl⟩ : ∃ z, fu = z + 1 := ⟨fu - 1, by omega⟩
    refine ⟨s, XFr.rfl', hw, ?_⟩
    have hC := hc.1.2.2.1.2
    rw [f_X5_siftCell_14, hc.2.2.2.1, if_pos (nI_lt (show P.C < P.C + 1 - 0 by omega) (by omega))]
    rfl
  | succ k ih =>
    intro c fu g s hk hf hcc hc hg hr hw
    obtain ⟨fu, rfl⟩ : ∃ z, fu = z + 1 := ⟨fu - 1, by omega⟩
    have hP := hc.1
    have hC := hP.2.2.1.2
    have h16 := ok16 hP hg
    have hz := h16 x y hx hy
    have hL := Pz.L_le hP
    obtain ⟨⟨W1, W2⟩, ⟨H1, H2⟩, -⟩ := id hP
    have hexp : ∀ v, v < P.C + 1 → f_X5_siftCell_14 G (fu + 1) (nI x) (nI y) mk (nI c) (nI v) s = (if (2 : Int32) ≤ nI (pop (g x y)) then (if ((((nI (g x y)).toUInt32 >>> ((nI v).toUInt32 &&& Int32.toUInt32 31)).toInt32) &&& (1 : Int32)) = 0 then f_X5_siftCell_122 G (f_X5_siftCell_14 G fu) (nI x) (nI y) mk (nI c) (nI v) s else Option.bind (f_X4_copy 27 G s) fun s6 => Option.bind (f_X4_fix 27 (nI x) (nI y) (nI v) s6) fun s7 => Option.bind (f_X5_settle 27 mk s7) fun r8 => if r8.1 = (-2 : Int32) then Option.bind (f_X4_drop G (nI x) (nI y) (nI v) r8.2) fun s10 => Option.bind (f_X5_settle G mk s10) fun r11 => if r11.1 = (-2 : Int32) then some ((-2 : Int32), r11.2) else f_X5_siftCell_122 G (f_X5_siftCell_14 G fu) (nI x) (nI y) mk (nI c + 1) (nI v) r11.2 else f_X5_siftCell_122 G (f_X5_siftCell_14 G fu) (nI x) (nI y) mk (nI c) (nI v) r8.2) else some (nI c, s)) := by
      intro v hv
      rw [f_X5_siftCell_14, hc.2.2.2.1, if_neg (nI_nlt (by omega) (by omega)), valAt hc hG hx hy hg hw, obs]
      show Option.bind (f_J6_bitCount_0f7a4 (nI (g x y)) s) _ = _
      rw [bitC16 hz, obs]
    have hv : P.C + 1 - (k + 1) < P.C + 1 := by omega
    have hnx : P.C + 1 - (k + 1) + 1 = P.C + 1 - k := by omega
    have hpl := pop_le _ hz
    have ec := tryC_stop (P := P) (g := g) (x := x) (y := y) (k + 1) c
    rw [tryC] at ec ⊢
    revert hv hnx ec
    generalize P.C + 1 - (k + 1) = v
    intro hv hnx ec
    have nextE : nI v + 1 = nI (P.C + 1 - k) := by rw [nI_1, hnx]
    rw [hexp v hv]
    by_cases c1 : 2 ≤ pop (g x y)
    · rw [if_pos (show (2 : Int32) ≤ nI (pop (g x y)) from nI_le (a := 2) c1 (by omega)), bitT (by omega), b_nI, decide_eq_true (show v < 32 by omega), Bool.true_and]
      by_cases c2 : (g x y).testBit v = true
      · rw [if_pos c2, if_neg (show ¬ (1 : Int32) = 0 by decide)]
        -- copy, fix, settle
        obtain ⟨g1, g2, g3, g4⟩ := hG
        have ecp : f_X4_copy 27 G s = some (sRowL s 28 (fun j => if j < 24 then s.2.1 q j else s.2.1 28 j)) := by
          unfold f_X4_copy
          rw [if_neg (fun x => x rfl), if_neg (fun x => x g1), g2]
          show Option.bind (cpJ s q 0 28 0 (nI 24)) _ = _
          rw [cpJ0 g3 rfl (by omega) (by decide) (by omega), obs]
        have hw1 : hasWr (fun j => if j < 24 then s.2.1 q j else s.2.1 28 j) P.W P.H g := by
          intro l hl i hi
          show jb (if l < 24 then s.2.1 q l else s.2.1 28 l) i = _
          rw [if_pos (show l < 24 by unfold Pz.L at hL; omega)]
          exact hw l hl i hi
        have hc1 : Cz (sRowL s 28 (fun j => if j < 24 then s.2.1 q j else s.2.1 28 j)) P := hc
        obtain ⟨w2, f1, f2⟩ := fix4 (s := sRowL s 28 (fun j => if j < 24 then s.2.1 q j else s.2.1 28 j)) (g := 27) (x := x) (y := y) (v := v) (m := g) hc1.size rfl rfl rfl hx hy (by omega) (by rw [show rf 27 1 = 28 from rfl, sRowL_row]; exact hw1)
        rw [show rf 27 1 = 28 from rfl, sRowL_sRowL] at f1
        have po := pow_ok (P := P) hv
        have hok2 := setX_ok (x := x) (y := y) hg po.1 po.2
        have stale : ∀ z m, m < P.L → bt mk m = false → rst P (setX g x y z) m := by
          intro z m hm hb
          rw [hmk m (by omega), Bool.or_eq_false_iff, decide_eq_false_iff_not, decide_eq_false_iff_not] at hb
          exact setX_rst hP hx hy hr hm hb.1 hb.2
        have hc2 : Cz (sRowL s 28 w2) P := hc
        obtain ⟨t, u1, u2, u3⟩ := settle_ok (G := 27) (q := 28) (v3 := mk) (s := sRowL s 28 w2) ⟨rfl, rfl, rfl, rfl⟩ hc2 hok2 (by rw [sRowL_row]; exact f2) (fun m hm hb => stale _ m hm hb)
        have frt : XFr q s t := (SFr.x28 (SFr.row (q := 28) (s := s) (w := w2))).trans u1.x28
        have htq : t.2.1 q = s.2.1 q := by rw [u1.2.1 q hq, sRowL_ne hq]
        have hct : Cz t P := hc.x frt
        rw [ecp, obs, f1, obs, u3, obs]
        have eV : tryV P x y g v = (if (restP P (setX g x y (2 ^ v))).1 = true then (true, 0, g) else ((restP P (setX g x y (less (g x y) v))).1, 1, (restP P (setX g x y (less (g x y) v))).2.2)) := by unfold tryV; rw [if_pos ⟨c1, c2⟩]
        have rL : (restP P (setX g x y (2 ^ v))).2.1 * P.L < 2 ^ 31 := by
          have := (restP_spec hP hok2).2.2.2.1
          have := Nat.mul_le_mul this hL.2
          omega
        by_cases c3 : (restP P (setX g x y (2 ^ v))).1 = true
        · rw [if_pos c3, if_neg (nI_m2 rL), f_X5_siftCell_122, nextE]
          rw [if_pos c3] at eV
          rw [eV, if_pos rfl]
          obtain ⟨s', i1, i2, i3⟩ := ih c fu g t (by omega) (by omega) hcc hct hg hr (by rw [htq]; exact hw)
          exact ⟨s', frt.trans i1, i2, i3⟩
        · rw [if_neg c3, if_pos rfl]
          rw [if_neg c3] at eV
          obtain ⟨w3, d1, d2⟩ := drop4 (s := t) (g := G) (x := x) (y := y) (v := v) (m := g) hct.size g1 (by rw [g2]; exact g3) (by rw [g2]; exact g4) hx hy (by omega) hz (by rw [g2, htq]; exact hw)
          rw [g2] at d1
          obtain ⟨l1, l2⟩ := less_ok _ hz v (by omega) c2 c1
          have hok3 := setX_ok (x := x) (y := y) hg l1 (Nat.lt_of_le_of_lt (less_le _ v) (hg x y hx hy).2)
          have hc3 : Cz (sRowL t q w3) P := hct
          obtain ⟨t', p1, p2, p3⟩ := settle_ok (G := G) (q := q) (v3 := mk) (s := sRowL t q w3) ⟨g1, g2, g3, g4⟩ hc3 hok3 (by rw [sRowL_row]; exact d2) (fun m hm hb => stale _ m hm hb)
          have frt' : XFr q s t' := frt.trans ((SFr.x (SFr.row (q := q) (s := t) (w := w3))).trans p1.x)
          rw [d1, obs, p3, obs]
          obtain ⟨r1, r2, r3, r4, r5⟩ := restP_spec hP hok3
          have rL' : (restP P (setX g x y (less (g x y) v))).2.1 * P.L < 2 ^ 31 := by
            have := Nat.mul_le_mul r4 hL.2
            omega
          by_cases c4 : (restP P (setX g x y (less (g x y) v))).1 = true
          · rw [if_pos c4, if_neg (nI_m2 rL'), f_X5_siftCell_122, nextE, nI_1, eV, if_pos c4]
            have tv := tryV_ok hP hx hy hg hr hv
            rw [eV] at tv
            have tv4 : 1 + szG P (restP P (setX g x y (less (g x y) v))).2.2 ≤ 0 + szG P g := tv.2.2.2.1
            obtain ⟨s', i1, i2, i3⟩ := ih (c + 1) fu _ t' (by omega) (by omega) (by omega) (hc.x frt') r1 (r5 c4) p2
            exact ⟨s', frt'.trans i1, i2, i3⟩
          · rw [if_neg c4, if_pos rfl, eV, if_neg c4]
            exact ⟨t', frt', p2, rfl⟩
      · rw [if_neg c2, if_pos rfl, f_X5_siftCell_122, nextE]
        have eV : tryV P x y g v = (true, 0, g) := by unfold tryV; rw [if_neg (fun q => c2 q.2)]
        rw [eV, if_pos rfl]
        exact ih c fu g s (by omega) (by omega) hcc hc hg hr hw
    · rw [if_neg (show ¬ (2 : Int32) ≤ nI (pop (g x y)) from nI_ge (b := 2) (by omega) (by omega)), ec (by omega)]
      exact ⟨s, XFr.rfl', hw, rfl⟩
end Sift
