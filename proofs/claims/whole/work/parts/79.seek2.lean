/-! the class's stack of open choices -/
def entOK (P : Pz) (s : St) (d : Nat) (e : Fk4) : Prop := hasWr (fun l => s.2.1 22 (24 * d + l)) P.W P.H e.1 ∧ s.1 23 d = nI (12 * e.2.2.1 + e.2.1) ∧ s.1 24 d = nI e.2.2.2 ∧ (e.2.1 < P.W ∧ e.2.2.1 < P.H) ∧ setsOK P.W P.H P.C e.1 ∧ allR P e.1 ∧ 2 ≤ pop (e.1 e.2.1 e.2.2.1) ∧ d + mcG P e.1 ≤ 144 ∧ e.2.2.2 < 16 ∧ ∀ v, v < 4 → e.2.2.2.testBit v = true → (e.1 e.2.1 e.2.2.1).testBit v = true
def stk (P : Pz) (s : St) : List Fk4 → Prop
  | [] => True
  | e :: st => entOK P s st.length e ∧ stk P s st
theorem entOK.fr {P : Pz} {s s' : St} {d : Nat} {e : Fk4} (hP : P.ok) (h : entOK P s d e) (a : ∀ l, l < 24 → s'.2.1 22 (24 * d + l) = s.2.1 22 (24 * d + l)) (b : s'.1 23 d = s.1 23 d) (c : s'.1 24 d = s.1 24 d) : entOK P s' d e := by
  obtain ⟨h1, h2, h3, h4⟩ := h
  refine ⟨fun l hl i hi => ?_, b.trans h2, c.trans h3, h4⟩
  have := Pz.L_le hP
  unfold Pz.L at this
  show jb (s'.2.1 22 (24 * d + l)) i = _
  rw [a l (by omega)]
  exact h1 l hl i hi
theorem stk.fr {P : Pz} {s s' : St} (hP : P.ok) : ∀ st, stk P s st → (∀ j, j < 24 * st.length → s'.2.1 22 j = s.2.1 22 j) → (∀ j, j < st.length → s'.1 23 j = s.1 23 j ∧ s'.1 24 j = s.1 24 j) → stk P s' st := by
  intro st
  induction st with
  | nil => intro _ _ _; trivial
  | cons e st ih =>
    intro h a b
    have hl : (e :: st).length = st.length + 1 := rfl
    rw [hl] at a b
    exact ⟨h.1.fr hP (fun l hl => a _ (by omega)) (b _ (by omega)).1 (b _ (by omega)).2, ih h.2 (fun j hj => a j (by omega)) (fun j hj => b j (by omega))⟩
theorem stk_len {P : Pz} {s : St} (hP : P.ok) {st : List Fk4} (h : stk P s st) : st.length ≤ 144 := by
  cases st with
  | nil => exact Nat.zero_le _
  | cons e st =>
    obtain ⟨⟨-, -, -, h4, -, -, h7, h8, -⟩, -⟩ := h
    have := mc_set (g := e.1) (v := 0) h4.1 h4.2 (by omega) h7
    show st.length + 1 ≤ 144
    omega
theorem lst_ok : ∀ m, m < 16 → m ≠ 0 → lst m < 4 ∧ m.testBit (lst m) = true ∧ less m (lst m) < 16 ∧ ∀ v, v < 4 → (less m (lst m)).testBit v = true → m.testBit v = true := by decide +kernel
theorem stk_pop {P : Pz} {s : St} : ∀ st, stk P s st → stk P s (popS st) := by
  intro st
  induction st with
  | nil => intro h; exact h
  | cons e st ih =>
    intro h
    rw [popS]
    split
    · exact ih h.2
    · exact h
theorem pop_hd : ∀ st : List Fk4, ∀ e r, popS st = e :: r → e.2.2.2 ≠ 0 := by
  intro st
  induction st with
  | nil => intro e r h; cases h
  | cons e st ih =>
    intro e' r h
    rw [popS] at h
    by_cases c : e.2.2.2 = 0
    · rw [if_pos c] at h
      exact ih e' r h
    · rw [if_neg c] at h
      cases h
      exact c
theorem closeE {P : Pz} (hP : P.ok) : ∀ (st : List Fk4) (fu : Nat) (s : St), stk P s st → s.1 21 7 = nI st.length → st.length < fu → f_X5_closeEmptyChoices_0 fu s = some (sF s 21 7 (nI (popS st).length)) := by
  intro st
  induction st with
  | nil =>
    intro fu s _ h hf
    obtain ⟨fu, rfl⟩ : ∃ z, fu = z + 1 := ⟨fu - 1, by simp at hf; omega⟩
    rw [f_X5_closeEmptyChoices_0, h, if_pos (by decide)]
    have : sF s 21 7 (nI (popS ([] : List Fk4)).length) = s := by
      show sF s 21 7 (nI 0) = s
      have h0 : s.1 21 7 = nI 0 := h
      rw [← h0]
      exact sF_self
    rw [this]
  | cons e st ih =>
    intro fu s hs h hf
    have hl : (e :: st).length = st.length + 1 := rfl
    rw [hl] at h hf
    have hle : st.length + 1 ≤ 144 := stk_len hP hs
    obtain ⟨fu, rfl⟩ : ∃ z, fu = z + 1 := ⟨fu - 1, by omega⟩
    obtain ⟨⟨-, -, e3, -, -, -, -, -, e9, -⟩, hs2⟩ := id hs
    rw [f_X5_closeEmptyChoices_0, h, if_neg (nI_nle (by omega) (by omega)), nI_sub1 (by omega), show st.length + 1 - 1 = st.length from rfl, aI_nI rfl (by show st.length < 144; omega) (by decide), obs, e3, popS]
    by_cases c : e.2.2.2 = 0
    · rw [if_pos (by rw [c]; rfl), if_pos c, obs]
      have hs3 : stk P (sF s 21 7 (nI st.length)) st := hs2.fr hP st (fun j _ => rfl) (fun j _ => ⟨by rw [sF_ne (by decide)], by rw [sF_ne (by decide)]⟩)
      rw [ih fu _ hs3 sF_at (by omega), sF_sF]
    · rw [if_neg (nI_ne0 (by omega) (by omega)), if_neg c]
      have : sF s 21 7 (nI (e :: st).length) = s := by
        show sF s 21 7 (nI (st.length + 1)) = s
        rw [← h]
        exact sF_self
      rw [this]
def QFr (F : Nat) (s s' : St) : Prop := (∀ a, a ≠ 17 → a ≠ 18 → a ≠ 21 → a ≠ 23 → a ≠ 24 → (a < F ∨ F + 4 < a) → s'.1 a = s.1 a) ∧ (∀ a, a ≠ 22 → a ≠ 26 → s'.2.1 a = s.2.1 a) ∧ s'.2.2 = s.2.2
theorem QFr.rfl' {F : Nat} {s : St} : QFr F s s := ⟨fun _ _ _ _ _ _ _ => rfl, fun _ _ _ => rfl, rfl⟩
theorem QFr.trans {F : Nat} {s t u : St} (h : QFr F s t) (g : QFr F t u) : QFr F s u := ⟨fun a a1 a2 a3 a4 a5 a6 => (g.1 a a1 a2 a3 a4 a5 a6).trans (h.1 a a1 a2 a3 a4 a5 a6), fun a a1 a2 => (g.2.1 a a1 a2).trans (h.2.1 a a1 a2), g.2.2.trans h.2.2⟩
theorem Cz.qf {s s' : St} {P : Pz} {F : Nat} (h : Cz s P) (hF : fOK F) (g : QFr F s s') : Cz s' P := by
  obtain ⟨-, -, -, -, -, -, -, -, -, -, -, F12, F13⟩ := hF
  exact h.fr (g.1 3 (by decide) (by decide) (by decide) (by decide) (by decide) (by omega)) (g.1 4 (by decide) (by decide) (by decide) (by decide) (by decide) (by omega)) (g.1 5 (by decide) (by decide) (by decide) (by decide) (by decide) (by omega)) (g.1 6 (by decide) (by decide) (by decide) (by decide) (by decide) (by omega))
/-- what stands when the class comes to its loop -/
def Rl (P : Pz) (F : Nat) (s : St) (on : Bool) (g : Gs) (st : List Fk4) (a : Sa) : Prop := Cz s P ∧ s.1 21 7 = nI st.length ∧ stk P s st ∧ fnd P F s a ∧ (on = true → hasWr (s.2.1 26) P.W P.H g ∧ setsOK P.W P.H P.C g ∧ allR P g ∧ st.length + mcG P g ≤ 144)
theorem fnd.fr {P : Pz} {F : Nat} {s s' : St} {a : Sa} (h : fnd P F s a) (e : ∀ b, F ≤ b → b ≤ F + 4 → s'.1 b = s.1 b) : fnd P F s' a := by
  obtain ⟨h1, h2, h3, h4⟩ := h
  refine ⟨by rw [e F (by omega) (by omega)]; exact h1, by rw [e F (by omega) (by omega)]; exact h2, by rw [e F (by omega) (by omega)]; exact h3, fun k k1 k2 x y hx hy => ?_⟩
  rw [e _ (by omega) (by omega)]
  exact h4 k k1 k2 x y hx hy
section Seek
variable {P : Pz} {F cap bud : Nat}
theorem follow {s : St} {e : Fk4} {r : List Fk4} (hF : fOK F) (hc : Cz s P) (h7 : s.1 21 7 = nI (r.length + 1)) (hs : stk P s (e :: r)) (hm : e.2.2.2 ≠ 0) : ∃ s', f_X5_followsChoice s = some (if (restP P (setX e.1 e.2.1 e.2.2.1 (2 ^ lst e.2.2.2))).1 = true then 1 else 0, s') ∧ QFr F s s' ∧ (∀ b, F ≤ b → b ≤ F + 4 → s'.1 b = s.1 b) ∧ Cz s' P ∧ s'.1 21 7 = nI (r.length + 1) ∧ stk P s' ((e.1, e.2.1, e.2.2.1, less e.2.2.2 (lst e.2.2.2)) :: r) ∧ hasWr (s'.2.1 26) P.W P.H (restP P (setX e.1 e.2.1 e.2.2.1 (2 ^ lst e.2.2.2))).2.2 ∧ setsOK P.W P.H P.C (restP P (setX e.1 e.2.1 e.2.2.1 (2 ^ lst e.2.2.2))).2.2 ∧ r.length + 1 + mcG P (restP P (setX e.1 e.2.1 e.2.2.1 (2 ^ lst e.2.2.2))).2.2 ≤ 144 := by
  obtain ⟨-, -, -, -, -, -, -, -, -, -, -, F12, F13⟩ := id hF
  have hP := hc.1
  have hlen : r.length + 1 ≤ 144 := stk_len hP hs
  obtain ⟨g, x, y, m⟩ := e
  obtain ⟨⟨e1, e2, e3, e4, e5, e6, e7, e8, e9, e10⟩, hs2⟩ := id hs
  simp only at e1 e2 e3 e4 e5 e6 e7 e8 e9 e10 hm ⊢
  obtain ⟨⟨W1, W2⟩, ⟨H1, H2⟩, ⟨C1, C2⟩, -⟩ := id hP
  obtain ⟨v1, v2, v3, v4⟩ := lst_ok m e9 hm
  have hL := Pz.L_le hP
  have hvC : lst m < P.C + 1 := by
    rcases Nat.lt_or_ge (lst m) (P.C + 1) with h | h
    · exact h
    · have := e10 _ v1 v2
      rw [Nat.testBit_lt_two_pow (Nat.lt_of_lt_of_le (e5 x y e4.1 e4.2).2 (Nat.pow_le_pow_right (by decide) h))] at this
      cases this
  have po := pow_ok (P := P) hvC
  have hok := setX_ok (x := x) (y := y) e5 po.1 po.2
  obtain ⟨r1, r2, r3, r4, r5⟩ := restP_spec hP hok
  generalize hs5 : sF s 24 r.length (nI (less m (lst m))) = s5
  have f5 : (∀ a, a ≠ 24 → s5.1 a = s.1 a) ∧ s5.2 = s.2 ∧ s5.1 24 r.length = nI (less m (lst m)) ∧ ∀ j, j ≠ r.length → s5.1 24 j = s.1 24 j := by
    rw [← hs5]
    exact ⟨fun a h => sF_ne h, rfl, sF_at, fun j h => sF_nj h⟩
  obtain ⟨f51, f52, f53, f54⟩ := f5
  have hc5 : Cz s5 P := hc.fr (f51 3 (by decide)) (f51 4 (by decide)) (f51 5 (by decide)) (f51 6 (by decide))
  generalize hw8 : va_cpy (s5.2.1 22) (s5.2.1 26) (r.length * 24) 0 24 = w8
  have hw8' : hasWr w8 P.W P.H g := by
    intro l hl i hi
    unfold Pz.L at hL
    rw [← hw8]
    unfold va_cpy
    rw [if_pos ⟨Nat.zero_le _, by omega⟩, f52, Nat.sub_zero, show r.length * 24 + l = 24 * r.length + l by omega]
    exact e1 l hl i hi
  have hc8 : Cz (sRowL s5 26 w8) P := hc5
  obtain ⟨w9, g1, g2⟩ := fix4 (s := sRowL s5 26 w8) (g := 25) (x := x) (y := y) (v := lst m) (m := g) hc8.size rfl rfl rfl e4.1 e4.2 v1 (by rw [show rf 25 1 = 26 from rfl, sRowL_row]; exact hw8')
  rw [show rf 25 1 = 26 from rfl, sRowL_sRowL] at g1
  have hc9 : Cz (sRowL s5 26 w9) P := hc5
  obtain ⟨mk, m1, m2⟩ := lthr (G := 25) (q := 26) hc9 ⟨rfl, rfl, rfl, rfl⟩ e4.1 e4.2
  obtain ⟨t, u1, u2, u3⟩ := settle_ok (G := 25) (q := 26) (v3 := mk) (s := sRowL s5 26 w9) ⟨rfl, rfl, rfl, rfl⟩ hc9 hok (by rw [sRowL_row]; exact g2) (fun i hi hb => by
    rw [m2 i (by omega), Bool.or_eq_false_iff, decide_eq_false_iff_not, decide_eq_false_iff_not] at hb
    exact setX_rst hP e4.1 e4.2 e6 hi hb.1 hb.2)
  have fr : QFr F s t := by
    refine ⟨fun a a1 a2 a3 a4 a5 a6 => ?_, fun a a1 a2 => ?_, ?_⟩
    · rw [u1.1 a a1 a2, sRowL_F, f51 a a5]
    · rw [u1.2.1 a a2, sRowL_ne a2, f52]
    · rw [u1.2.2, sRowL_o, f52]
  have t22 : t.2.1 22 = s.2.1 22 := by rw [u1.2.1 22 (by decide), sRowL_ne (by decide), f52]
  have t23 : t.1 23 = s.1 23 := by rw [u1.1 23 (by decide) (by decide), sRowL_F, f51 23 (by decide)]
  have t24 : t.1 24 = s5.1 24 := by rw [u1.1 24 (by decide) (by decide), sRowL_F]
  refine ⟨t, ?_, fr, fun b b1 b2 => ?_, hc.qf hF fr, ?_, ⟨⟨?_, ?_, ?_, e4, e5, e6, e7, e8, v3, fun w w1 w2 => e10 w w1 (v4 w w1 w2)⟩, ?_⟩, u2, r1, ?_⟩
  · unfold f_X5_followsChoice
    rw [h7, nI_sub1 (by omega), show r.length + 1 - 1 = r.length from rfl, if_pos (nI_pos' (by omega)), aI_nI rfl (by show r.length < 144; omega) (by decide), obs, e3, least4 e9, obs]
    show Option.bind (aI s 24 (nI r.length)) _ = _
    rw [aI_nI rfl (by show r.length < 144; omega) (by decide), obs, e3]
    show Option.bind (pI s 24 (nI r.length) (nI m &&& (((1 : Int32) <<< (nI (lst m) &&& 31)) ^^^ (-1 : Int32)))) _ = _
    rw [dropI m e9 _ v1 v2, pI_nI rfl (by show r.length < 144; omega) (by decide), obs, hs5, aI_nI rfl (by show r.length < 144; omega) (by decide), obs, obs, f51 23 (by decide), e2]
    have hrest : f_X4_restoreFrom 25 22 (nI r.length) s5 = some (sRowL s5 26 w8) := by
      unfold f_X4_restoreFrom
      rw [if_neg (fun x => x rfl), show (24 : Int32) = nI 24 from rfl, pk_mul]
      show Option.bind (cpJ s5 22 (nI (r.length * 24)) 26 (nI 0) (nI 24)) _ = _
      rw [cpJn rfl rfl (by show r.length * 24 + 24 ≤ 3456; omega) (by decide) (by omega) (by omega) (by omega), obs, hw8]
    rw [hrest, obs, n12, pk_rem (by omega) (by omega) (by omega), pk_div (by omega) (by omega) (by omega), show (12 * y + x) % 12 = x by omega, show (12 * y + x) / 12 = y by omega]
    show Option.bind (f_X4_fix 25 (nI x) (nI y) (nI (lst m)) (sRowL s5 26 w8)) _ = _
    rw [g1, obs, m1, obs]
    show Option.bind (f_X5_settle 25 mk (sRowL s5 26 w9)) _ = _
    rw [u3, obs]
    have rL : (restP P (setX g x y (2 ^ lst m))).2.1 * P.L < 2 ^ 31 := by
      have := Nat.mul_le_mul r4 hL.2
      omega
    by_cases c : (restP P (setX g x y (2 ^ lst m))).1 = true
    · rw [if_pos c, if_neg (nI_m2 rL), if_pos c]
    · rw [if_neg c, if_pos rfl, if_neg c]
  · rw [u1.1 b (by omega) (by omega), sRowL_F, f51 b (by omega)]
  · rw [u1.1 21 (by decide) (by decide), sRowL_F, f51 21 (by decide)]
    exact h7
  · intro l hl i hi
    rw [t22]
    exact e1 l hl i hi
  · rw [t23]
    exact e2
  · rw [t24]
    exact f53
  · exact hs2.fr hP r (fun j hj => by rw [t22]) (fun j hj => ⟨by rw [t23], by rw [t24]; exact f54 j (by omega)⟩)
  · have a1 := mc_sub hP hok r1 r2
    have a2 := mc_set (g := g) (v := lst m) e4.1 e4.2 v1 e7
    omega
theorem st85 {K : Int32 → Int32 → Int32 → Int32 → St → Option St} {fu : Nat} (hF : fOK F) (hbud : bud ≤ 1000) (ih : ∀ (s : St) (on : Bool) (g : Gs) (st : List Fk4) (a : Sa), Rl P F s on g st a → fu + a.1 = bud + 1 → a.1 ≤ bud → fin cap a = false → ∃ s', K (nI cap) (nI bud) (if on = true then 1 else 0) (nI a.1) s = some s' ∧ fnd P F s' (mach P cap bud fu on g st a) ∧ QFr F s s') (s : St) (st : List Fk4) (a : Sa) (hc : Cz s P) (h7 : s.1 21 7 = nI st.length) (hs : stk P s st) (hf : fnd P F s a) (hfu : fu + 1 + a.1 = bud + 1) (hfin : fin cap a = false) : ∃ s', f_X5_seek_85 12 F K (nI cap) (nI bud) (nI a.1) s = some s' ∧ fnd P F s' (match popS st with | [] => a | e :: r => if a.1 < bud then mach P cap bud fu (restP P (setX e.1 e.2.1 e.2.2.1 (2 ^ lst e.2.2.2))).1 (restP P (setX e.1 e.2.1 e.2.2.1 (2 ^ lst e.2.2.2))).2.2 ((e.1, e.2.1, e.2.2.1, less e.2.2.2 (lst e.2.2.2)) :: r) (incS a) else ovS a) ∧ QFr F s s' := by
  obtain ⟨-, -, -, -, -, -, -, -, -, -, -, F12, F13⟩ := id hF
  have hP := hc.1
  have hlen := stk_len hP hs
  have hcl := closeE hP st FU s hs h7 (by unfold FU; omega)
  have q1 : QFr F s (sF s 21 7 (nI (popS st).length)) := ⟨fun a _ _ h _ _ _ => sF_ne h, fun _ _ _ => rfl, rfl⟩
  have hs1 : stk P (sF s 21 7 (nI (popS st).length)) (popS st) := (stk_pop st hs).fr hP _ (fun j _ => rfl) (fun j _ => ⟨by rw [sF_ne (by decide)], by rw [sF_ne (by decide)]⟩)
  have hhd := pop_hd st
  unfold f_X5_seek_85 f_X5_closeEmptyChoices
  rw [hcl, obs, sF_at]
  revert hs1 hhd q1
  generalize popS st = st2
  intro q1 hs1 hhd
  have hF3 : (sF s 21 7 (nI st2.length)).1 F 3 = nI a.1 := by rw [sF_ne (by omega)]; exact hf.2.1
  cases st2 with
  | nil =>
    rw [if_pos (show nI ([] : List Fk4).length = 0 from rfl)]
    exact ⟨_, rfl, hf.fr (fun b b1 b2 => sF_ne (by omega)), q1⟩
  | cons e r =>
    have hr : (e :: r).length = r.length + 1 := rfl
    have hl2 : (e :: r).length ≤ 144 := stk_len hP hs1
    rw [hr] at hl2 hF3 hs1 q1 ⊢
    rw [if_neg (nI_ne0 (by omega) (by omega)), hF3]
    by_cases cb : a.1 < bud
    · rw [if_pos (nI_lt cb (by omega)), obs, nI_1]
      simp only [if_pos cb]
      generalize hs4 : sF (sF s 21 7 (nI (r.length + 1))) F 3 (nI (a.1 + 1)) = s4
      have q4 : QFr F s s4 := by
        rw [← hs4]
        exact q1.trans ⟨fun a _ _ _ _ _ h => sF_ne (by omega), fun _ _ _ => rfl, rfl⟩
      have hs4' : stk P s4 (e :: r) := hs1.fr hP _ (fun j _ => by rw [← hs4]; rfl) (fun j _ => ⟨by rw [← hs4, sF_ne (by omega)], by rw [← hs4, sF_ne (by omega)]⟩)
      have h74 : s4.1 21 7 = nI (r.length + 1) := by rw [← hs4, sF_ne (by omega), sF_at]
      have hf4 : fnd P F s4 (incS a) := by
        obtain ⟨b1, b2, b3, b4⟩ := hf
        rw [← hs4]
        refine ⟨by rw [sF_nj (by decide), sF_ne (by omega)]; exact b1, by rw [sF_at]; rfl, by rw [sF_nj (by decide), sF_ne (by omega)]; exact b3, fun k k1 k2 x y hx hy => ?_⟩
        rw [sF_ne (by omega), sF_ne (by omega)]
        exact b4 k k1 k2 x y hx hy
      obtain ⟨t, p1, p2, p3, p4, p5, p6, p7, p8, p9⟩ := follow hF (hc.qf hF q4) h74 hs4' (hhd e r rfl)
      rw [p1, obs]
      have hrl : Rl P F t (restP P (setX e.1 e.2.1 e.2.2.1 (2 ^ lst e.2.2.2))).1 (restP P (setX e.1 e.2.1 e.2.2.1 (2 ^ lst e.2.2.2))).2.2 ((e.1, e.2.1, e.2.2.1, less e.2.2.2 (lst e.2.2.2)) :: r) (incS a) := by
        refine ⟨p4, p5, p6, hf4.fr p3, fun ho => ⟨p7, p8, ?_, p9⟩⟩
        have hent := hs4'.1
        obtain ⟨-, -, -, z4, z5, -, -, -, z9, z10⟩ := hent
        obtain ⟨v1, v2, -, -⟩ := lst_ok _ z9 (hhd e r rfl)
        have hvC : lst e.2.2.2 < P.C + 1 := by
          rcases Nat.lt_or_ge (lst e.2.2.2) (P.C + 1) with h | h
          · exact h
          · have := z10 _ v1 v2
            rw [Nat.testBit_lt_two_pow (Nat.lt_of_lt_of_le (z5 _ _ z4.1 z4.2).2 (Nat.pow_le_pow_right (by decide) h))] at this
            cases this
        have po := pow_ok (P := P) hvC
        exact (restP_spec hP (setX_ok (x := e.2.1) (y := e.2.2.1) z5 po.1 po.2)).2.2.2.2 ho
      obtain ⟨s', i1, i2, i3⟩ := ih t _ _ _ (incS a) hrl (by show fu + (a.1 + 1) = _; omega) (by show a.1 + 1 ≤ bud; omega) hfin
      exact ⟨s', i1, i2, q4.trans (p2.trans i3)⟩
    · rw [if_neg (nI_nlt (by omega) (by omega)), obs]
      simp only [if_neg cb]
      refine ⟨_, rfl, ?_, q1.trans ⟨fun a _ _ _ _ _ h => sF_ne (by omega), fun _ _ _ => rfl, rfl⟩⟩
      obtain ⟨b1, b2, b3, b4⟩ := hf
      refine ⟨by rw [sF_nj (by decide), sF_ne (by omega)]; exact b1, by rw [sF_nj (by decide), sF_ne (by omega)]; exact b2, by rw [sF_at]; rfl, fun k k1 k2 x y hx hy => ?_⟩
      rw [sF_ne (by omega), sF_ne (by omega)]
      exact b4 k k1 k2 x y hx hy
theorem codeB_n {b : Nat} (hP : P.ok) (h : b ≤ P.W * P.H) : codeB P b = -1 ↔ b = 0 := by
  unfold codeB
  by_cases c : b = 0
  · rw [if_pos c]
    exact ⟨fun _ => c, fun _ => rfl⟩
  · rw [if_neg c]
    obtain ⟨w1, w2⟩ := kWH (H := P.H) (k := b - 1) hP.1.1 (by omega)
    obtain ⟨⟨W1, W2⟩, ⟨H1, H2⟩, -⟩ := id hP
    refine ⟨fun e => ?_, fun e => absurd e c⟩
    have := congrArg Int32.toInt e
    rw [nI_toInt (by omega), m1_toInt] at this
    omega
theorem seek48 (hF : fOK F) (hbud : bud ≤ 1000) (hcap : cap ≤ 50) : ∀ (fu fuC : Nat) (s : St) (on : Bool) (g : Gs) (st : List Fk4) (a : Sa), Rl P F s on g st a → fu + a.1 = bud + 1 → a.1 ≤ bud → fin cap a = false → fu ≤ fuC → ∃ s', f_X5_seek_48 12 F fuC (nI cap) (nI bud) (if on = true then 1 else 0) (nI a.1) s = some s' ∧ fnd P F s' (mach P cap bud fu on g st a) ∧ QFr F s s' := by
  intro fu
  induction fu with
  | zero => intro fuC s on g st a _ h1 h2; omega
  | succ fu ih0 =>
    intro fuC s on g st a hrl hfu hn hfin hfuC
    obtain ⟨fuC, rfl⟩ : ∃ z, fuC = z + 1 := ⟨fuC - 1, by omega⟩
    obtain ⟨-, -, -, -, -, -, -, -, -, -, -, F12, F13⟩ := id hF
    have ih : ∀ (s : St) (on : Bool) (g : Gs) (st : List Fk4) (a : Sa), Rl P F s on g st a → fu + a.1 = bud + 1 → a.1 ≤ bud → fin cap a = false → ∃ s', f_X5_seek_48 12 F fuC (nI cap) (nI bud) (if on = true then 1 else 0) (nI a.1) s = some s' ∧ fnd P F s' (mach P cap bud fu on g st a) ∧ QFr F s s' := fun s on g st a b1 b2 b3 b4 => ih0 fuC s on g st a b1 b2 b3 b4 (by omega)
    obtain ⟨hc, h7, hs, hf, hon⟩ := hrl
    have hP := hc.1
    obtain ⟨⟨W1, W2⟩, ⟨H1, H2⟩, -⟩ := id hP
    have hfc := (fin_no hfin).2
    rw [f_X5_seek_48, if_neg (nI_nlt (by omega) (by omega)), mach]
    cases on with
    | false =>
      rw [if_neg (show ¬ false = true by decide), if_pos rfl]
      simp only [Bool.false_eq_true, false_and, if_false]
      exact st85 hF hbud ih s st a hc h7 hs hf (by omega) hfin
    | true =>
      obtain ⟨o1, o2, o3, o4⟩ := hon rfl
      rw [if_pos rfl, if_neg (show ¬ (1 : Int32) = 0 by decide)]
      have hfew := fewest4 (G := 25) (q := 26) ⟨rfl, rfl, rfl, rfl⟩ hc o2 o1
      have hble : bsC P g ≤ P.W * P.H := bst_le (P := P) (g := g) (P.W * P.H)
      by_cases hb : bsC P g = 0
      · have hop : f_X5_opensChoice s = some (0, s) := by
          unfold f_X5_opensChoice
          rw [hfew, obs, if_pos ((codeB_n hP hble).mpr hb)]
        obtain ⟨t, p1, p2, p3, p4⟩ := addF hF hc o2 o1 hf (by omega)
        rw [hop, obs, if_pos rfl, p1, obs, p4.1]
        simp only [hb, ne_eq, not_true, and_false, if_false, and_self, if_true]
        have q1 : QFr F s t := ⟨fun b _ _ _ _ _ h => p3 b h, fun b _ _ => by rw [p2], by rw [p2]⟩
        have hf1 : (addS g a).2.1 = a.2.1 + 1 := rfl
        by_cases cc : cap ≤ (addS g a).2.1
        · rw [if_neg (nI_nlt cc (by omega))]
          simp only [cc, and_self, if_true]
          exact ⟨t, rfl, p4, q1⟩
        · rw [if_pos (nI_lt (by omega) (by omega))]
          simp only [cc, and_false, if_false]
          have hfin' : fin cap (addS g a) = false := by
            unfold fin
            rw [addS_n.2, (fin_no hfin).1, Bool.false_or]
            exact decide_eq_false cc
          obtain ⟨s', z1, z2, z3⟩ := st85 hF hbud ih t st (addS g a) (hc.qf hF q1) (by rw [p3 21 (by omega)]; exact h7) (hs.fr hP st (fun j _ => by rw [p2]) (fun j _ => ⟨by rw [p3 23 (by omega)], by rw [p3 24 (by omega)]⟩)) p4 (by rw [addS_n.1]; omega) hfin'
          exact ⟨s', z1, z2, q1.trans z3⟩
      · obtain ⟨bx, byy, b2⟩ := bXY hP hb
        have hmp := mc_pos hP hb
        have hz := ok16 hP o2 _ _ bx byy
        have hcode : codeB P (bsC P g) = nI (12 * bY P g + bX P g) := by unfold codeB; rw [if_neg hb]; rfl
        generalize hw : va_cpy (s.2.1 26) (s.2.1 22) 0 (st.length * 24) 24 = w
        generalize hs8 : sF (sF (sF (sRowL s 22 w) 23 st.length (nI (12 * bY P g + bX P g))) 24 st.length (nI (g (bX P g) (bY P g)))) 21 7 (nI (st.length + 1)) = s8
        have hop : f_X5_opensChoice s = some (1, s8) := by
          unfold f_X5_opensChoice
          rw [hfew, obs, if_neg (fun e => hb ((codeB_n hP hble).mp e)), h7, if_pos (show nI st.length < (144 : Int32) from nI_lt (b := 144) (by omega) (by omega))]
          have hsv : f_X4_saveTo 25 22 (nI st.length) s = some (sRowL s 22 w) := by
            unfold f_X4_saveTo
            rw [if_neg (fun x => x rfl), show (24 : Int32) = nI 24 from rfl, pk_mul]
            show Option.bind (cpJ s 26 (nI 0) 22 (nI (st.length * 24)) (nI 24)) _ = _
            rw [cpJn rfl rfl (by decide) (by show st.length * 24 + 24 ≤ 3456; omega) (by omega) (by omega) (by omega), obs, hw]
          show Option.bind (f_X4_saveTo 25 22 (nI st.length) s) _ = _
          rw [hsv, obs]
          show Option.bind (pI (sRowL s 22 w) 23 (s.1 21 7) (codeB P (bsC P g))) _ = _
          rw [h7, hcode, pI_nI rfl (by show st.length < 144; omega) (by decide), obs]
          show Option.bind (f_X4_valuesAt 25 (nI (12 * bY P g + bX P g) - nI (12 * bY P g + bX P g) / (12 : Int32) * (12 : Int32)) (nI (12 * bY P g + bX P g) / (12 : Int32)) (sF (sRowL s 22 w) 23 st.length (nI (12 * bY P g + bX P g)))) _ = _
          rw [n12, pk_rem (by omega) (by omega) (by omega), pk_div (by omega) (by omega) (by omega), show (12 * bY P g + bX P g) % 12 = bX P g by omega, show (12 * bY P g + bX P g) / 12 = bY P g by omega, valAt (G := 25) (q := 26) (g := g) (s := sF (sRowL s 22 w) 23 st.length (nI (12 * bY P g + bX P g))) (P := P) hc ⟨rfl, rfl, rfl, rfl⟩ bx byy o2 (by
            have : (sF (sRowL s 22 w) 23 st.length (nI (12 * bY P g + bX P g))).2.1 26 = s.2.1 26 := sRowL_ne (by decide)
            rw [this]
            exact o1), obs]
          show Option.bind (pI (sF (sRowL s 22 w) 23 st.length (nI (12 * bY P g + bX P g))) 24 (s.1 21 7) (nI (g (bX P g) (bY P g)))) _ = _
          rw [h7, pI_nI rfl (by show st.length < 144; omega) (by decide), obs, obs]
          show some ((1 : Int32), sF (sF (sF (sRowL s 22 w) 23 st.length (nI (12 * bY P g + bX P g))) 24 st.length (nI (g (bX P g) (bY P g)))) 21 7 (s.1 21 7 + 1)) = _
          rw [h7, nI_1, hs8]
        rw [hop, obs, if_neg nz]
        simp only [hb, ne_eq, not_false_eq_true, and_self, if_true, and_false, false_and, if_false]
        have q8 : QFr F s s8 := by
          rw [← hs8]
          exact ⟨fun a a1 a2 a3 a4 a5 a6 => by rw [sF_ne a3, sF_ne a5, sF_ne a4]; rfl, fun a a1 a2 => sRowL_ne a1, rfl⟩
        have r23 : ∀ j, s8.1 23 j = if j = st.length then nI (12 * bY P g + bX P g) else s.1 23 j := fun j => by
          rw [← hs8, sF_ne (by decide), sF_ne (by decide), sF_get]
          by_cases e : j = st.length
          · rw [if_pos ⟨rfl, e⟩, if_pos e]
          · rw [if_neg (fun z => e z.2), if_neg e]
            rfl
        have r24 : ∀ j, s8.1 24 j = if j = st.length then nI (g (bX P g) (bY P g)) else s.1 24 j := fun j => by
          rw [← hs8, sF_ne (by decide), sF_get]
          by_cases e : j = st.length
          · rw [if_pos ⟨rfl, e⟩, if_pos e]
          · rw [if_neg (fun z => e z.2), if_neg e, sF_ne (by decide)]
            rfl
        have r22 : s8.2.1 22 = w := by rw [← hs8]; exact sRowL_row
        have hL := Pz.L_le hP
        have hs8' : stk P s8 ((g, bX P g, bY P g, g (bX P g) (bY P g)) :: st) := by
          refine ⟨⟨fun l hl i hi => ?_, ?_, ?_, ⟨bx, byy⟩, o2, o3, b2, o4, hz, fun _ _ h => h⟩, hs.fr hP st (fun j hj => ?_) (fun j hj => ⟨?_, ?_⟩)⟩
          · show jb (s8.2.1 22 (24 * st.length + l)) i = _
            unfold Pz.L at hL
            rw [r22, ← hw]
            unfold va_cpy
            rw [if_pos (by omega), Nat.zero_add, show 24 * st.length + l - st.length * 24 = l by omega]
            exact o1 l hl i hi
          · rw [r23, if_pos rfl]
          · rw [r24, if_pos rfl]
          · rw [r22, ← hw]
            unfold va_cpy
            rw [if_neg (by omega)]
          · rw [r23, if_neg (by omega)]
          · rw [r24, if_neg (by omega)]
        obtain ⟨s', z1, z2, z3⟩ := st85 hF hbud ih s8 _ a (hc.qf hF q8) (by rw [← hs8, sF_at]; rfl) hs8' (hf.fr (fun b b1 b2 => by rw [← hs8, sF_ne (by omega), sF_ne (by omega), sF_ne (by omega)]; rfl)) (by omega) hfin
        exact ⟨s', z1, z2, q8.trans z3⟩
end Seek
