/-! level -/
theorem visR {a b : Nat} (h : vis a b = true) : (a = 43 ∧ (b = 1 ∨ b = 2 ∨ b = 3 ∨ b = 10 ∨ b = 11 ∨ b = 12 ∨ b = 13 ∨ b = 16 ∨ b = 19)) ∨ a = 0 ∨ a = 1 ∨ a = 2 ∨ a = 3 ∨ a = 4 ∨ a = 5 ∨ a = 6 ∨ a = 12 ∨ a = 13 ∨ a = 14 ∨ a = 15 ∨ a = 33 ∨ a = 35 ∨ a = 37 ∨ a = 44 ∨ a = 45 ∨ a = 46 ∨ a = 47 ∨ a = 48 ∨ a = 49 ∨ a = 50 ∨ a = 51 := by
  unfold vis at h
  simp only [Bool.and_eq_true, Bool.or_eq_true, List.contains_iff_mem, List.mem_cons, List.not_mem_nil, or_false, beq_iff_eq] at h
  omega
/-- what a call may change unseen: rows -/
def unS (a : Nat) : Prop := a = 17 ∨ a = 18 ∨ a = 21 ∨ a = 23 ∨ a = 24 ∨ (38 ≤ a ∧ a ≤ 42) ∨ 58 ≤ a
theorem eqV.of {s s' : St} (h : ∀ a, ¬ unS a → a ≠ 43 → s'.1 a = s.1 a) (h2 : ∀ b, b = 1 ∨ b = 2 ∨ b = 3 ∨ b = 10 ∨ b = 11 ∨ b = 12 ∨ b = 13 ∨ b = 16 ∨ b = 19 → s'.1 43 b = s.1 43 b) (h3 : ∀ b, s'.2.1 30 b = s.2.1 30 b) : eqV s s' := by
  refine ⟨fun a b v => ?_, h3⟩
  rcases visR v with ⟨e, e2⟩ | e
  · rw [e]
    exact h2 b e2
  · rw [h a (by unfold unS; omega) (by omega)]
theorem QFr.eqV {s s' : St} (h : QFr 38 s s') : eqV s s' := eqV.of (fun a a1 _ => by unfold unS at a1; exact h.1 a (by omega) (by omega) (by omega) (by omega) (by omega) (by omega)) (fun b _ => by rw [h.1 43 (by decide) (by decide) (by decide) (by decide) (by decide) (by decide)]) (fun b => by rw [h.2.1 30 (by decide) (by decide)])
theorem SFr.eqV {s s' : St} {q : Nat} (hq : q ≠ 30) (h : SFr q s s') : eqV s s' := eqV.of (fun a a1 _ => by unfold unS at a1; exact h.1 a (by omega) (by omega)) (fun b _ => by rw [h.1 43 (by decide) (by decide)]) (fun b => by rw [h.2.1 30 (fun e => hq e.symm)])
theorem XFr.eqV {s s' : St} {q : Nat} (hq : q ≠ 30) (h : XFr q s s') : eqV s s' := eqV.of (fun a a1 _ => by unfold unS at a1; exact h.1 a (by omega) (by omega)) (fun b _ => by rw [h.1 43 (by decide) (by decide)]) (fun b => by rw [h.2.1 30 (fun e => hq e.symm) (by decide)])
theorem TFr.eqV {s s' : St} {q base : Nat} (hq : 58 ≤ q) (h : TFr q base s s') : eqV s s' := eqV.of (fun a a1 a2 => by unfold unS at a1; exact h.1 a (by omega) (by omega) (by omega) a2) (fun b hb => h.2.1 b (by omega) (by omega) (by omega)) (fun b => h.2.2.1 30 b (fun z => absurd z.1 (by decide)))
theorem VFr.eqV {s s' : St} {q : Nat} (hq : 58 ≤ q) (h : VFr q s s') : eqV s s' := eqV.of (fun a a1 a2 => by unfold unS at a1; exact h.1 a (by omega) (by omega) (by omega) (by omega) a2) (fun b hb => h.2.1 b (by omega) (by omega) (by omega) (by omega)) (fun b => h.2.2 30 b (fun z => absurd z.1 (by decide)))
theorem HFr.eqV {s s' : St} (h : HFr s s') : eqV s s' := eqV.of (fun a a1 a2 => by unfold unS at a1; exact h.1 a (by omega) (by omega) (by omega) (by omega) a2) (fun b hb => h.2.1 b (by omega) (by omega) (by omega) (by omega) (by omega) (by omega) (by omega) (by omega)) (fun b => h.2.2 30 b (fun z => absurd z.1 (by decide)))
def lvl2 (A : Sa) : Int32 := if A.2.2.1 = true then 5 else if A.2.1 = 0 then 4 else nI (A.2.1 + 1)
def lvl (P : Pz) (g : Gs) : Int32 := if (restP P g).1 = true then (if bsC P (restP P g).2.2 = 0 then 0 else if (triesP P (restP P g).2.2).1 = true then (if bsC P (triesP P (restP P g).2.2).2.2 = 0 then 1 else lvl2 (look P 2 400 LOOKN g a00)) else 4) else 4
section Level
variable {P : Pz}
theorem lookV_c {cap bud : Nat} {L : Gs → Sa → Sa} {x y : Nat} (hL : ∀ h b, fin cap b = false → (L h b).2.1 ≤ cap) : ∀ k g a, a.2.1 ≤ cap → (lookV P cap bud L x y k g a).2.1 ≤ cap := by
  intro k
  induction k with
  | zero => intro g a h; exact h
  | succ k ih =>
    intro g a h
    rw [lookV]
    by_cases c1 : fin cap a = true
    · rw [if_pos c1]
      exact h
    · rw [if_neg c1]
      have c1' : fin cap (incS a) = false := by
        show fin cap a = false
        simpa using c1
      by_cases c2 : (g x y).testBit (P.C + 1 - (k + 1)) = true
      · rw [if_pos c2]
        by_cases c3 : a.1 = bud
        · rw [if_pos c3]
          exact h
        · rw [if_neg c3]
          exact ih g _ (hL _ _ c1')
      · rw [if_neg c2]
        exact ih g a h
theorem look_c {cap bud : Nat} : ∀ f g a, fin cap a = false → (look P cap bud f g a).2.1 ≤ cap := by
  intro f
  induction f with
  | zero =>
    intro g a h
    have := (fin_no h).2
    show a.2.1 ≤ cap
    omega
  | succ f ih =>
    intro g a h
    have h2 := (fin_no h).2
    rw [look]
    by_cases c : (restP P g).1 = true
    · rw [if_pos c]
      unfold nodeF
      by_cases d : bsC P (restP P g).2.2 = 0
      · rw [if_pos d]
        show a.2.1 + 1 ≤ cap
        omega
      · rw [if_neg d]
        exact lookV_c ih _ _ _ (by omega)
    · rw [if_neg c]
      omega
theorem fin_00 {cap : Nat} (h : 1 ≤ cap) : fin cap a00 = false := by
  unfold fin a00
  exact decide_eq_false (by show ¬ cap ≤ 0; omega)
theorem judgeC {s : St} (hc : Cz s P) (hg : ∀ c, c < 144 → gVal P.C (s.1 13 c)) : ∃ s1, f_X5_judge 12 38 s = some (lvl P (firstM (s.1 13) P.C), s1) ∧ eqV s s1 ∧ ∀ a, 43 ≤ a → s1.1 a = s.1 a := by
  have hP := hc.1
  have hok := firstM_ok hP hg
  obtain ⟨r1, r2, r3, r4, r5⟩ := restP_spec hP hok
  have rL : (restP P (firstM (s.1 13) P.C)).2.1 * P.L < 2 ^ 31 := by
    have := Nat.mul_le_mul r4 (Pz.L_le hP).2
    omega
  obtain ⟨s1, r, s2, d1, d2, d3, d4, d5⟩ := become26 hc hg
  have hc2 := hc.s d4
  unfold f_X5_judge lvl
  rw [if_neg (fun x => x rfl), if_neg (fun x => x rfl), d1, obs, d2, obs]
  show ∃ s1', Option.bind (f_X5_settle 25 r s1) _ = _ ∧ _
  rw [d3, obs]
  by_cases c : (restP P (firstM (s.1 13) P.C)).1 = true
  · rw [if_pos c, if_neg (nI_m2 rL), if_pos c]
    show ∃ s1', Option.bind (f_X4_firstOfFewest 25 s2) _ = _ ∧ _
    rw [fewest4 (G := 25) (q := 26) ⟨rfl, rfl, rfl, rfl⟩ hc2 r1 d5, obs]
    have hb1 : bsC P (restP P (firstM (s.1 13) P.C)).2.2 ≤ P.W * P.H := bst_le _
    by_cases c1 : bsC P (restP P (firstM (s.1 13) P.C)).2.2 = 0
    · rw [if_pos ((codeB_n hP hb1).mpr c1), if_pos c1]
      exact ⟨s2, rfl, d4.eqV (by decide), fun a ha => d4.1 a (by omega) (by omega)⟩
    · rw [if_neg (fun e => c1 ((codeB_n hP hb1).mp e)), if_neg c1]
      show ∃ s1', Option.bind (f_X5_sift 25 s2) _ = _ ∧ _
      obtain ⟨s3, x1, x2, x3⟩ := sift_ok (G := 25) (q := 26) ⟨rfl, rfl, rfl, rfl⟩ (by decide) hc2 r1 (r5 c) d5
      rw [x3, obs]
      obtain ⟨o1, o2, o3, o4, o5⟩ := triesP_ok hP r1 (r5 c)
      have hsz := szG_le hP r1
      have hc3 : Cz s3 P := hc2.fr (x1.1 3 (by decide) (by decide)) (x1.1 4 (by decide) (by decide)) (x1.1 5 (by decide) (by decide)) (x1.1 6 (by decide) (by decide))
      by_cases c2 : (triesP P (restP P (firstM (s.1 13) P.C)).2.2).1 = true
      · rw [if_pos c2, if_neg (nI_m2 (by omega)), if_pos c2]
        show ∃ s1', Option.bind (f_X4_firstOfFewest 25 s3) _ = _ ∧ _
        rw [fewest4 (G := 25) (q := 26) ⟨rfl, rfl, rfl, rfl⟩ hc3 o1 x2, obs]
        have hb2 : bsC P (triesP P (restP P (firstM (s.1 13) P.C)).2.2).2.2 ≤ P.W * P.H := bst_le _
        by_cases c3 : bsC P (triesP P (restP P (firstM (s.1 13) P.C)).2.2).2.2 = 0
        · rw [if_pos ((codeB_n hP hb2).mpr c3), if_pos c3]
          exact ⟨s3, rfl, (d4.eqV (by decide)).trans (x1.eqV (by decide)), fun a ha => by rw [x1.1 a (by omega) (by omega), d4.1 a (by omega) (by omega)]⟩
        · rw [if_neg (fun e => c3 ((codeB_n hP hb2).mp e)), if_neg c3]
          have e13 : s3.1 13 = s.1 13 := by rw [x1.1 13 (by decide) (by decide), d4.1 13 (by decide) (by decide)]
          obtain ⟨s4, y1, y2, y3⟩ := seekC (cap := 2) (bud := 400) (s := s3) f38 hc3 (by rw [e13]; exact hg) (by omega) (by omega) (by omega)
          rw [e13] at y2
          show ∃ s1', Option.bind (f_X5_seek 12 (nI 2) (nI 400) 38 s3) _ = _ ∧ _
          rw [y1, obs]
          refine ⟨s4, ?_, (d4.eqV (by decide)).trans ((x1.eqV (by decide)).trans y3.eqV), fun a ha => by rw [y3.1 a (by omega) (by omega) (by omega) (by omega) (by omega) (by omega), x1.1 a (by omega) (by omega), d4.1 a (by omega) (by omega)]⟩
          obtain ⟨u1, u2, u3, u4⟩ := y2
          rw [u3, u1]
          unfold lvl2
          have hcp := look_c (P := P) (cap := 2) (bud := 400) LOOKN (firstM (s.1 13) P.C) a00 (fin_00 (by decide))
          revert hcp
          generalize look P 2 400 LOOKN (firstM (s.1 13) P.C) a00 = A
          intro hcp
          by_cases c4 : A.2.2.1 = true
          · rw [if_pos c4, if_pos c4, if_neg (show ¬ (1 : Int32) = 0 by decide)]
          · rw [if_neg c4, if_neg c4, if_pos rfl]
            by_cases c5 : A.2.1 = 0
            · rw [if_pos (by rw [c5]; rfl), if_pos c5]
            · rw [if_neg c5, if_neg (nI_ne0 (by omega) (by omega)), nI_1]
      · rw [if_neg c2, if_pos rfl, if_neg c2]
        exact ⟨s3, rfl, (d4.eqV (by decide)).trans (x1.eqV (by decide)), fun a ha => by rw [x1.1 a (by omega) (by omega), d4.1 a (by omega) (by omega)]⟩
  · rw [if_neg c, if_pos rfl, if_neg c]
    exact ⟨s2, rfl, d4.eqV (by decide), fun a ha => d4.1 a (by omega) (by omega)⟩
theorem first9' {q : Nat} {s : St} {f : Nat → Int32} (hm : Mz s P) (hg : ∀ c, c < 144 → f c = s.1 47 c ∧ gVal P.C (f c)) (hq : q ≠ 47) (hq2 : q ≠ 43) (ht : arT q = 1) (hn : 144 ≤ arN q) (hn2 : arN q < 2 ^ 31) : ∃ s', f_X9_first q 0 s = some s' ∧ (∀ a, a ≠ q → s'.1 a = s.1 a) ∧ s'.2 = s.2 ∧ hasM s' q 0 P.W P.H (firstM f P.C) := by
  obtain ⟨⟨W1, W2⟩, ⟨H1, H2⟩, ⟨C1, C2⟩, -⟩ := id hm.1
  refine ⟨_, first9 (C := P.C) (q := q) hm.2.2.2.1 C2 hq hq2 ht hn hn2 (fun c hc => by rw [← (hg c hc).1]; exact (hg c hc).2), fun a ha => by rw [sRow_get, if_neg ha], rfl, fun x y hx hy => ?_⟩
  rw [firstM_at, sRow_get, if_pos rfl, Nat.zero_add, if_pos (by omega)]
  congr 1
  unfold fstN
  rw [(hg (12 * y + x) (by omega)).1]
theorem q63 : qOK 63 0 := ⟨rfl, by decide, by decide, by decide⟩
theorem v63 : vOK 63 := ⟨q63, by decide, by decide⟩
theorem levelM {s : St} {f : Nat → Int32} (hm : Mz s P) (hg : ∀ c, c < 144 → f c = s.1 47 c ∧ gVal P.C (f c)) : ∃ s', f_X9_level s = some (lvl P (firstM f P.C), s') ∧ eqV s s' := by
  have hP := hm.1
  have hok := firstM_ok hP (fun c hc => (hg c hc).2)
  obtain ⟨r1, r2, r3, r4, r5⟩ := restP_spec hP hok
  have hm0 : Mz (sF s 43 0 0) P := hm
  have v0 : eqV s (sF s 43 0 0) := eqV.rfl'.sF rfl
  obtain ⟨s4, a1, a2, a3, a4⟩ := first9' (q := 63) (s := sF s 43 0 0) (f := f) hm0 (fun c hc => ⟨by rw [sF_ne (by decide)]; exact (hg c hc).1, (hg c hc).2⟩) (by decide) (by decide) rfl (by decide) (by decide)
  have v4 : eqV s s4 := v0.trans (eqV.of (fun a ha _ => a2 a (by unfold unS at ha; omega)) (fun b _ => by rw [a2 43 (by decide)]) (fun b => by rw [a3]))
  have hm4 : Mz s4 P := by
    unfold Mz
    rw [a2 43 (by decide), a2 44 (by decide), a2 45 (by decide), a2 46 (by decide)]
    exact hm0
  obtain ⟨s5, b1, b2, b3, -⟩ := toRest9 q63 hm4 hok a4
  have v5 := v4.trans (b1.eqV (by decide))
  have hm5 := hm4.tr q63 b1
  unfold f_X9_level lvl
  rw [obs, hm0.is, obs, if_neg nz, a1, obs]
  show ∃ s', Option.bind (f_X9_toRest 63 (nI 0) s4) _ = _ ∧ _
  rw [b3, obs]
  by_cases c : (restP P (firstM f P.C)).1 = true
  · rw [if_pos c, if_neg nz, if_pos c]
    show ∃ s', Option.bind (f_X9_allOne 63 (nI 0) s5) _ = _ ∧ _
    rw [allOne9' q63 hm5 r1 b2, obs]
    by_cases c1 : bsC P (restP P (firstM f P.C)).2.2 = 0
    · rw [if_pos c1, if_neg nz, if_pos c1]
      exact ⟨s5, rfl, v5⟩
    · rw [if_neg c1, if_pos rfl, if_neg c1]
      obtain ⟨s9, y1, y2, y3, -⟩ := trying9 v63 hm5 r1 (r5 c) b2
      show ∃ s', Option.bind (f_X9_trying 63 s5) _ = _ ∧ _
      rw [y3, obs]
      have hm9 := hm5.v v63 y1
      have v9 := v5.trans (y1.eqV (by decide))
      obtain ⟨o1, o2, o3, o4, o5⟩ := triesP_ok hP r1 (r5 c)
      by_cases c2 : (triesP P (restP P (firstM f P.C)).2.2).1 = true
      · rw [if_pos c2, if_neg nz, if_pos c2]
        show ∃ s', Option.bind (f_X9_allOne 63 (nI 0) s9) _ = _ ∧ _
        rw [allOne9' q63 hm9 o1 y2, obs]
        by_cases c3 : bsC P (triesP P (restP P (firstM f P.C)).2.2).2.2 = 0
        · rw [if_pos c3, if_neg nz, if_pos c3]
          exact ⟨s9, rfl, v9⟩
        · rw [if_neg c3, if_pos rfl, if_neg c3]
          obtain ⟨t, z1, z2, z3⟩ := searches9 (s := s9) (f := f) (cap := 2) (bud := 400) hm9 (fun c hc => ⟨by
            rw [(hg c hc).1]
            exact (v9.1 47 c rfl).symm, (hg c hc).2⟩) (by omega) (by omega) (by omega)
          show ∃ s', Option.bind (f_X9_searches (nI 2) (nI 400) s9) _ = _ ∧ _
          rw [z1, obs]
          refine ⟨t, ?_, v9.trans z2.eqV⟩
          obtain ⟨-, -, -, w4, w5, w6, -⟩ := z3
          rw [w5, w4]
          unfold lvl2
          revert w6
          generalize look P 2 400 LOOKN (firstM f P.C) a00 = A
          intro w6
          by_cases c4 : A.2.2.1 = true
          · rw [if_pos c4, if_pos c4, if_neg (show ¬ (1 : Int32) = 0 by decide)]
          · rw [if_neg c4, if_neg c4, if_pos rfl]
            rcases Nat.lt_or_ge A.2.1 1 with h | h
            · have : A.2.1 = 0 := by omega
              rw [this]
              rfl
            · rcases Nat.lt_or_ge A.2.1 2 with h2 | h2
              · have : A.2.1 = 1 := by omega
                rw [this]
                rfl
              · have : A.2.1 = 2 := by omega
                rw [this]
                rfl
      · rw [if_neg c2, if_pos rfl, if_neg c2]
        exact ⟨s9, rfl, v9⟩
  · rw [if_neg c, if_pos rfl, if_neg c]
    exact ⟨s5, rfl, v5⟩
end Level
theorem Mz.hi {s s' : St} {P : Pz} (h : Mz s P) (e : ∀ a, 43 ≤ a → s'.1 a = s.1 a) : Mz s' P := by
  unfold Mz
  rw [e 43 (by omega), e 44 (by omega), e 45 (by omega), e 46 (by omega)]
  exact h
theorem st_level {s : St} (hI : Inv s) : Step f_X8_level f_X9_level s := by
  obtain ⟨h1, h2, W, H, C, hz, hs, hf, hr⟩ := id hI
  by_cases hW : W = 0
  · subst hW
    refine ⟨-1, s, sF s 43 0 0, ?_, ?_, hI.thrown⟩
    · unfold f_X8_level
      rw [hasP8 hz, if_pos rfl, obs, if_pos rfl]
    · unfold f_X9_level
      rw [obs, noPz hz, obs, if_pos rfl]
  obtain ⟨P, rfl, rfl, rfl, hc, hm⟩ := hI.px hz (by omega)
  obtain ⟨⟨W1, W2⟩, -⟩ := id hc.1
  obtain ⟨hrn, hg13, hg15⟩ := hr W1
  obtain ⟨s1, a1, a2, a3⟩ := judgeC hc (fun c hc => (hg13.1 c hc).2)
  obtain ⟨s2, b1, b2⟩ := levelM (s := s1) (f := s.1 13) (hm.hi a3) (fun c hc => ⟨by rw [a3 47 (by omega)]; exact (hg13.1 c hc).1, (hg13.1 c hc).2⟩)
  refine ⟨_, s1, s2, ?_, b1, hI.eqV (a2.trans b2)⟩
  unfold f_X8_level
  rw [hasP8 hz, if_neg hW, obs, if_neg nz, a1, obs]
