/-! runs of a row of values -/
def rr (v : Nat → Nat) : Nat → Nat × (Nat → Nat) × (Nat → Nat)
  | 0 => (0, fun _ => 0, fun _ => 0)
  | c + 1 => if v c = 0 then rr v c else if c ≠ 0 ∧ v c = v (c - 1) then ((rr v c).1, (fun j => if j = (rr v c).1 - 1 then (rr v c).2.1 j + 1 else (rr v c).2.1 j), (rr v c).2.2) else ((rr v c).1 + 1, (fun j => if j = (rr v c).1 then 1 else (rr v c).2.1 j), (fun j => if j = (rr v c).1 then v c else (rr v c).2.2 j))
def pv (v : Nat → Nat) (c : Nat) : Nat := if c = 0 then 0 else v (c - 1)
theorem need_congr {len col len' col' : Nat → Nat} : ∀ k, (∀ j, j < k → len' j = len j ∧ col' j = col j) → need len' col' k = need len col k := by
  intro k
  induction k with
  | zero => intro _; rfl
  | succ k ih =>
    intro h
    rw [need, need, ih (fun j hj => h j (by omega)), (h k (by omega)).1, (h k (by omega)).2]
    by_cases c : k = 0
    · subst c
      rfl
    · rw [(h (k - 1) (by omega)).2]
/-- counts, lengths, colours; what the runs need -/
def rOK (C : Nat) (v : Nat → Nat) (c : Nat) : Prop := (rr v c).1 ≤ c ∧ (∀ k, k < (rr v c).1 → (1 ≤ (rr v c).2.1 k ∧ (rr v c).2.1 k ≤ c) ∧ (1 ≤ (rr v c).2.2 k ∧ (rr v c).2.2 k ≤ C)) ∧ need (rr v c).2.1 (rr v c).2.2 (rr v c).1 ≤ c ∧ (pv v c = 0 → (rr v c).1 ≠ 0 → need (rr v c).2.1 (rr v c).2.2 (rr v c).1 + 1 ≤ c) ∧ (pv v c ≠ 0 → (rr v c).1 ≠ 0 ∧ (rr v c).2.2 ((rr v c).1 - 1) = pv v c)
theorem rr_ok {C : Nat} {v : Nat → Nat} : ∀ c, (∀ j, j < c → v j ≤ C) → rOK C v c := by
  intro c
  induction c with
  | zero => intro _; exact ⟨Nat.le_refl _, fun k h => absurd h (Nat.not_lt_zero _), Nat.le_refl _, fun _ h => absurd rfl h, fun h => absurd rfl h⟩
  | succ c ih =>
    intro hv
    obtain ⟨a1, a2, a3, a4, a5⟩ := ih (fun j hj => hv j (by omega))
    have hpv : pv v (c + 1) = v c := by unfold pv; rw [if_neg (by omega)]; rfl
    have hvc := hv c (by omega)
    unfold rOK
    rw [hpv, rr]
    by_cases c0 : v c = 0
    · rw [if_pos c0]
      exact ⟨by omega, fun k hk => ⟨⟨(a2 k hk).1.1, by have := (a2 k hk).1.2; omega⟩, (a2 k hk).2⟩, by omega, fun _ _ => by omega, fun h => absurd c0 h⟩
    · rw [if_neg c0]
      by_cases c1 : c ≠ 0 ∧ v c = v (c - 1)
      · rw [if_pos c1]
        have hp : pv v c = v c := by unfold pv; rw [if_neg c1.1, c1.2]
        obtain ⟨b1, b2⟩ := a5 (by rw [hp]; exact c0)
        refine ⟨by show (rr v c).1 ≤ c + 1; omega, fun k hk => ?_, ?_, fun h => absurd h c0, fun _ => ⟨b1, ?_⟩⟩
        · have := a2 k hk
          show (1 ≤ (if k = (rr v c).1 - 1 then (rr v c).2.1 k + 1 else (rr v c).2.1 k) ∧ (if k = (rr v c).1 - 1 then (rr v c).2.1 k + 1 else (rr v c).2.1 k) ≤ c + 1) ∧ (1 ≤ (rr v c).2.2 k ∧ (rr v c).2.2 k ≤ C)
          split <;> omega
        · show need (fun j => if j = (rr v c).1 - 1 then (rr v c).2.1 j + 1 else (rr v c).2.1 j) (rr v c).2.2 (rr v c).1 ≤ c + 1
          revert a3
          obtain ⟨m, hm⟩ : ∃ m, (rr v c).1 = m + 1 := ⟨(rr v c).1 - 1, by omega⟩
          rw [hm]
          intro a3
          rw [need] at a3 ⊢
          rw [need_congr (len' := fun j => if j = m + 1 - 1 then (rr v c).2.1 j + 1 else (rr v c).2.1 j) (len := (rr v c).2.1) (col' := (rr v c).2.2) (col := (rr v c).2.2) m (fun j hj => ⟨if_neg (by omega), rfl⟩), if_pos (by omega)]
          omega
        · show (rr v c).2.2 ((rr v c).1 - 1) = v c
          rw [b2, hp]
      · rw [if_neg c1]
        have hcg : need (fun j => if j = (rr v c).1 then 1 else (rr v c).2.1 j) (fun j => if j = (rr v c).1 then v c else (rr v c).2.2 j) (rr v c).1 = need (rr v c).2.1 (rr v c).2.2 (rr v c).1 := need_congr _ (fun j hj => ⟨if_neg (by omega), if_neg (by omega)⟩)
        refine ⟨by show (rr v c).1 + 1 ≤ c + 1; omega, fun k hk => ?_, ?_, fun h => absurd h c0, fun _ => ⟨by show (rr v c).1 + 1 ≠ 0; omega, ?_⟩⟩
        · have hk' : k < (rr v c).1 + 1 := hk
          show (1 ≤ (if k = (rr v c).1 then 1 else (rr v c).2.1 k) ∧ (if k = (rr v c).1 then 1 else (rr v c).2.1 k) ≤ c + 1) ∧ (1 ≤ (if k = (rr v c).1 then v c else (rr v c).2.2 k) ∧ (if k = (rr v c).1 then v c else (rr v c).2.2 k) ≤ C)
          by_cases e : k = (rr v c).1
          · rw [if_pos e, if_pos e]
            omega
          · rw [if_neg e, if_neg e]
            have := a2 k (by omega)
            omega
        · show need (fun j => if j = (rr v c).1 then 1 else (rr v c).2.1 j) (fun j => if j = (rr v c).1 then v c else (rr v c).2.2 j) ((rr v c).1 + 1) ≤ c + 1
          rw [need, hcg, if_pos rfl, if_pos rfl]
          by_cases d : (rr v c).1 ≠ 0 ∧ v c = (if (rr v c).1 - 1 = (rr v c).1 then v c else (rr v c).2.2 ((rr v c).1 - 1))
          · rw [if_pos d]
            rw [if_neg (show ¬ (rr v c).1 - 1 = (rr v c).1 by have := d.1; omega)] at d
            by_cases p0 : pv v c = 0
            · have := a4 p0 d.1
              omega
            · obtain ⟨b1, b2⟩ := a5 p0
              exfalso
              apply c1
              have hc0 : c ≠ 0 := fun z => p0 (by unfold pv; rw [if_pos z])
              refine ⟨hc0, ?_⟩
              rw [d.2, b2]
              unfold pv
              rw [if_neg hc0]
          · rw [if_neg d]
            omega
        · show (if (rr v c).1 + 1 - 1 = (rr v c).1 then v c else _) = v c
          rw [if_pos (by omega)]
/-- what a mark shows -/
def shN (x : Int32) : Nat := if x = -1 then 0 else x.toNatClampNeg
def vD (P : Pz) (h : Nat → Int32) (l p : Nat) : Nat := shN (h (12 * yL P l p + xL P l p))
def RD (P : Pz) (h : Nat → Int32) (l : Nat) : Nat × (Nat → Nat) × (Nat → Nat) := rr (vD P h l) (P.n l)
theorem shN_ok {C : Nat} {x : Int32} (hx : gVal C x) (hC : C ≤ 3) : shN x ≤ C ∧ mxI 0 x = nI (shN x) ∧ (x ≠ -1 → x = nI (shN x)) := by
  unfold shN
  rcases hx with e | ⟨n, hn, e⟩
  · rw [e, if_pos rfl]
    exact ⟨Nat.zero_le _, by decide, fun h => absurd rfl h⟩
  · have hne : ¬ x = -1 := fun z => by
      rw [e] at z
      have := congrArg Int32.toInt z
      rw [nI_toInt (by omega), m1_toInt] at this
      omega
    rw [if_neg hne, e, nI_clamp (by omega)]
    refine ⟨hn, ?_, fun _ => rfl⟩
    unfold mxI
    by_cases c : n = 0
    · rw [c]
      decide
    · rw [if_pos]
      rw [n0, nI_lt' (n := 0) (by omega), nI_toInt (by omega)]
      omega
section Read
variable {P : Pz} {h : Nat → Int32}
theorem vD_ok (hP : P.ok) (hh : ∀ c, c < 144 → gVal P.C (h c)) {l : Nat} (hl : l < P.L) {p : Nat} (hp : p < P.n l) : vD P h l p ≤ P.C := (shN_ok (hh _ (cell_lt hP hl hp).1) hP.2.2.1.2).1
theorem RD_ok (hP : P.ok) (hh : ∀ c, c < 144 → gVal P.C (h c)) {l : Nat} (hl : l < P.L) : rOK P.C (vD P h l) (P.n l) := rr_ok _ (fun j hj => vD_ok hP hh hl hj)
/-! the model reads a line -/
def Sz (s : St) (P : Pz) : Prop := P.ok ∧ s.1 43 1 = nI P.W ∧ s.1 43 2 = nI P.H
theorem Mz.sz {s : St} (hm : Mz s P) : Sz s P := ⟨hm.1, hm.2.1, hm.2.2.1⟩
theorem Sz.sizeOf {s : St} {l : Nat} (hm : Sz s P) (hl : l < P.L) : f_X9_sizeOf (nI l) s = some (nI (P.n l), s) := by
  obtain ⟨⟨W1, W2⟩, ⟨H1, H2⟩, -⟩ := id hm.1
  unfold f_X9_sizeOf Pz.n lnOf
  rw [hm.2.1, hm.2.2]
  by_cases c : l < P.H
  · rw [if_neg (nI_ge c (by omega)), if_pos c]
  · rw [if_pos (nI_le (by omega) (by have := Pz.L_le hm.1; omega)), if_neg c]
theorem Sz.cellOf {s : St} {l p : Nat} (hm : Sz s P) (hl : l < P.L) : f_X9_cellOf (nI l) (nI p) s = some (nI (12 * yL P l p + xL P l p), s) := by
  obtain ⟨⟨W1, W2⟩, ⟨H1, H2⟩, -⟩ := id hm.1
  have hL := Pz.L_le hm.1
  unfold f_X9_cellOf xL yL
  rw [hm.2.2, at12, at12]
  by_cases z : l < P.H
  · rw [if_neg (nI_ge z (by omega)), if_pos z, if_pos z]
  · rw [if_pos (nI_le (by omega) (by omega)), if_neg z, if_neg z, pk_sub (by omega), show 12 * p + l - P.H = 12 * p + (l - P.H) by omega]
theorem Sz.lines {s : St} (hm : Sz s P) : f_X9_lines s = some (nI P.L, s) := by
  unfold f_X9_lines Pz.L
  rw [hm.2.1, hm.2.2, nI_add]
theorem reads45 {K4 : Int32 → Int32 → Int32 → St → Option (Int32 × St)} {l c : Nat} {v : Nat → Nat} {C : Nat} {s : St} (hC : C ≤ 3) (hc : c < 12) (hv : ∀ j, j < c + 1 → v j ≤ C) (h64 : ∀ k, k < (rr v c).1 → s.1 64 k = nI ((rr v c).2.1 k) ∧ s.1 65 k = nI ((rr v c).2.2 k)) : ∃ s', f_X9_readsAs_45 K4 (nI l) (nI (rr v c).1) (nI c) (nI (v c)) (nI (pv v c)) s = K4 (nI l) (nI (rr v (c + 1)).1) (nI (c + 1)) s' ∧ (∀ a, a ≠ 64 → a ≠ 65 → s'.1 a = s.1 a) ∧ s'.2 = s.2 ∧ ∀ k, k < (rr v (c + 1)).1 → s'.1 64 k = nI ((rr v (c + 1)).2.1 k) ∧ s'.1 65 k = nI ((rr v (c + 1)).2.2 k) := by
  obtain ⟨a1, a2, a3, a4, a5⟩ := rr_ok (C := C) c (fun j hj => hv j (by omega))
  have hvc := hv c (by omega)
  have hpc : pv v c ≤ C := by
    unfold pv
    split
    · omega
    · exact hv _ (by omega)
  rw [rr, f_X9_readsAs_45]
  by_cases c0 : v c = 0
  · rw [if_pos c0, if_pos (by rw [c0]; rfl), f_X9_readsAs_95, nI_1]
    exact ⟨s, rfl, fun _ _ _ => rfl, rfl, h64⟩
  · rw [if_neg c0, if_neg (nI_ne0 (by omega) (by omega))]
    by_cases c1 : c ≠ 0 ∧ v c = v (c - 1)
    · have hp : pv v c = v c := by unfold pv; rw [if_neg c1.1, c1.2]
      obtain ⟨b1, b2⟩ := a5 (by rw [hp]; exact c0)
      rw [if_pos c1, if_pos (by rw [hp]), nI_sub1 (by omega), aI_nI rfl (by show _ < 12; omega) (by decide), obs, (h64 _ (by omega)).1, pI_nI rfl (by show _ < 12; omega) (by decide), obs, f_X9_readsAs_95, nI_1, nI_1]
      refine ⟨_, rfl, fun a x1 x2 => sF_ne x1, rfl, fun k hk => ⟨?_, ?_⟩⟩
      · show _ = nI (if k = (rr v c).1 - 1 then (rr v c).2.1 k + 1 else (rr v c).2.1 k)
        by_cases e : k = (rr v c).1 - 1
        · rw [if_pos e, e, sF_at]
        · rw [if_neg e, sF_nj e]
          exact (h64 k hk).1
      · rw [sF_ne (by decide)]
        exact (h64 k hk).2
    · have hne : ¬ nI (v c) = nI (pv v c) := fun e => by
        have e2 := nI_inj (by omega) (by omega) e
        apply c1
        have hc0 : c ≠ 0 := fun z => c0 (by rw [e2]; unfold pv; rw [if_pos z])
        refine ⟨hc0, ?_⟩
        rw [e2]
        unfold pv
        rw [if_neg hc0]
      rw [if_neg c1, if_neg hne, pI_nI rfl (by show _ < 12; omega) (by decide), obs, pI_nI rfl (by show _ < 12; omega) (by decide), obs, f_X9_readsAs_95, nI_1, nI_1]
      refine ⟨_, rfl, fun a x1 x2 => by rw [sF_ne x2, sF_ne x1], rfl, fun k hk => ⟨?_, ?_⟩⟩
      · show _ = nI (if k = (rr v c).1 then 1 else (rr v c).2.1 k)
        have hk' : k < (rr v c).1 + 1 := hk
        by_cases e : k = (rr v c).1
        · rw [if_pos e, e, sF_ne (by decide), sF_at]
          rfl
        · rw [if_neg e, sF_ne (by decide), sF_nj e]
          exact (h64 k (by omega)).1
      · show _ = nI (if k = (rr v c).1 then v c else (rr v c).2.2 k)
        have hk' : k < (rr v c).1 + 1 := hk
        by_cases e : k = (rr v c).1
        · rw [if_pos e, e, sF_at]
        · rw [if_neg e, sF_nj e, sF_ne (by decide)]
          exact (h64 k (by omega)).2
theorem shown9 {s : St} {c : Nat} {C : Nat} (hC : C ≤ 3) (hc : c < 144) (h48 : s.1 48 c = h c) (hh : gVal C (h c)) : f_X9_shown (nI c) s = some (nI (shN (h c)), s) := by
  unfold f_X9_shown
  rw [aI_nI rfl (by show c < 144; exact hc) (by decide), obs, h48]
  by_cases e : h c = -1
  · rw [if_pos e, e]
    rfl
  · rw [if_neg e, obs]
    congr 2
    exact (shN_ok hh hC).2.2 e
theorem reads4 {l : Nat} (hl : l < P.L) (hh : ∀ c, c < 144 → gVal P.C (h c)) : ∀ (m c fu : Nat) (s : St), c + m = P.n l → m < fu → Sz s P → (∀ j, j < 144 → s.1 48 j = h j) → (∀ k, k < (rr (vD P h l) c).1 → s.1 64 k = nI ((rr (vD P h l) c).2.1 k) ∧ s.1 65 k = nI ((rr (vD P h l) c).2.2 k)) → ∃ s', f_X9_readsAs_4 fu (nI l) (nI (rr (vD P h l) c).1) (nI c) s = some (nI (RD P h l).1, s') ∧ (∀ a, a ≠ 64 → a ≠ 65 → s'.1 a = s.1 a) ∧ s'.2 = s.2 ∧ ∀ k, k < (RD P h l).1 → s'.1 64 k = nI ((RD P h l).2.1 k) ∧ s'.1 65 k = nI ((RD P h l).2.2 k) := by
  intro m
  induction m with
  | zero =>
    intro c fu s h1 h2 hm h48 h64
    obtain ⟨fu, rfl⟩ : ∃ z, fu = z + 1 := ⟨fu - 1, by omega⟩
    obtain rfl : c = P.n l := by omega
    have hn := Pz.n_le (l := l) hm.1
    rw [f_X9_readsAs_4, hm.sizeOf hl, obs, if_pos (nI_le (Nat.le_refl _) (by omega))]
    exact ⟨s, rfl, fun _ _ _ => rfl, rfl, h64⟩
  | succ m ih =>
    intro c fu s h1 h2 hm h48 h64
    obtain ⟨fu, rfl⟩ : ∃ z, fu = z + 1 := ⟨fu - 1, by omega⟩
    have hP := hm.1
    have hC := hP.2.2.1.2
    have hn := Pz.n_le (l := l) hP
    have hp : c < P.n l := by omega
    have hcl := cell_lt hP hl hp
    have key : f_X9_readsAs_4 (fu + 1) (nI l) (nI (rr (vD P h l) c).1) (nI c) s = f_X9_readsAs_45 (f_X9_readsAs_4 fu) (nI l) (nI (rr (vD P h l) c).1) (nI c) (nI (vD P h l c)) (nI (pv (vD P h l) c)) s := by
      rw [f_X9_readsAs_4, hm.sizeOf hl, obs, if_neg (nI_ge hp (by omega))]
      show Option.bind (f_X9_cellOf (nI l) (nI c) s) _ = _
      rw [hm.cellOf hl, obs]
      show Option.bind (f_X9_shown (nI (12 * yL P l c + xL P l c)) s) _ = _
      rw [shown9 hC hcl.1 (h48 _ hcl.1) (hh _ hcl.1), obs]
      by_cases c0 : c = 0
      · rw [if_pos (by rw [c0]; decide)]
        unfold pv
        rw [if_pos c0]
        rfl
      · rw [if_neg (nI_nle (by omega) (by omega))]
        have hcl2 := cell_lt hP hl (p := c - 1) (by omega)
        show Option.bind (f_X9_cellOf (nI l) (nI c - 1) s) _ = _
        rw [nI_sub1 (by omega), hm.cellOf hl, obs]
        show Option.bind (f_X9_shown (nI (12 * yL P l (c - 1) + xL P l (c - 1))) s) _ = _
        rw [shown9 hC hcl2.1 (h48 _ hcl2.1) (hh _ hcl2.1), obs]
        unfold pv
        rw [if_neg c0]
        rfl
    obtain ⟨t, e1, e2, e3, e4⟩ := reads45 (K4 := f_X9_readsAs_4 fu) (l := l) (c := c) (v := vD P h l) (C := P.C) (s := s) hC (by omega) (fun j hj => vD_ok hP hh hl (by omega)) h64
    have hmt : Sz t P := by
      unfold Sz
      rw [e2 43 (by decide) (by decide)]
      exact hm
    obtain ⟨s', i1, i2, i3, i4⟩ := ih (c + 1) fu t (by omega) (by omega) hmt (fun j hj => by rw [e2 48 (by decide) (by decide)]; exact h48 j hj) e4
    exact ⟨s', by rw [key, e1, i1], fun a x1 x2 => by rw [i2 a x1 x2, e2 a x1 x2], i3.trans e3, i4⟩
theorem reads9 {l : Nat} {s : St} (hl : l < P.L) (hh : ∀ c, c < 144 → gVal P.C (h c)) (hm : Sz s P) (h48 : ∀ j, j < 144 → s.1 48 j = h j) : ∃ s', f_X9_readsAs (nI l) s = some (nI (RD P h l).1, s') ∧ (∀ a, a ≠ 64 → a ≠ 65 → s'.1 a = s.1 a) ∧ s'.2 = s.2 ∧ ∀ k, k < (RD P h l).1 → s'.1 64 k = nI ((RD P h l).2.1 k) ∧ s'.1 65 k = nI ((RD P h l).2.2 k) := by
  have hn := Pz.n_le (l := l) hm.1
  exact reads4 hl hh (P.n l) 0 FU s (by omega) (by unfold FU; omega) hm h48 (fun k hk => absurd hk (Nat.not_lt_zero _))
/-! the class reads a line into its draft (object 7, rows 8, 9, 10) -/
def DFr (s s' : St) : Prop := (∀ a, a ≠ 7 → a ≠ 8 → a ≠ 9 → a ≠ 10 → s'.1 a = s.1 a) ∧ (∀ b, b ≠ 6 → s'.1 7 b = s.1 7 b) ∧ s'.2 = s.2
theorem DFr.rfl' {s : St} : DFr s s := ⟨fun _ _ _ _ _ => rfl, fun _ _ => rfl, rfl⟩
theorem DFr.trans {s t u : St} (a : DFr s t) (b : DFr t u) : DFr s u := ⟨fun i i1 i2 i3 i4 => (b.1 i i1 i2 i3 i4).trans (a.1 i i1 i2 i3 i4), fun i hi => (b.2.1 i hi).trans (a.2.1 i hi), b.2.2.trans a.2.2⟩
/-- the draft's line l: F runs; other lines untouched -/
def oth (l : Nat) (s s' : St) : Prop := (∀ j, j ≠ l → s'.1 8 j = s.1 8 j) ∧ ∀ j, (j < 12 * l ∨ 12 * l + 12 ≤ j) → s'.1 9 j = s.1 9 j ∧ s'.1 10 j = s.1 10 j
theorem oth.rfl' {l : Nat} {s : St} : oth l s s := ⟨fun _ _ => rfl, fun _ _ => ⟨rfl, rfl⟩⟩
theorem oth.trans {l : Nat} {s t u : St} (a : oth l s t) (b : oth l t u) : oth l s u := ⟨fun j hj => (b.1 j hj).trans (a.1 j hj), fun j hj => ⟨((b.2 j hj).1).trans (a.2 j hj).1, ((b.2 j hj).2).trans (a.2 j hj).2⟩⟩
theorem add7 {s : St} {l F m k T : Nat} (hl : l < 24) (hF : F < 12) (h8 : s.1 8 l = nI F) (h6 : s.1 7 6 = nI T) : ∃ s', f_X0_add 7 (nI l) (nI m) (nI k) s = some s' ∧ DFr s s' ∧ oth l s s' ∧ s'.1 8 l = nI (F + 1) ∧ s'.1 7 6 = nI (T + 1) ∧ (∀ j, j ≠ F → s'.1 9 (12 * l + j) = s.1 9 (12 * l + j) ∧ s'.1 10 (12 * l + j) = s.1 10 (12 * l + j)) ∧ s'.1 9 (12 * l + F) = nI m ∧ s'.1 10 (12 * l + F) = nI k := by
  unfold f_X0_add
  rw [if_neg (fun x => x rfl)]
  show ∃ s', Option.bind (aI s 8 (nI l)) _ = _ ∧ _
  rw [aI_nI rfl (by show l < 24; exact hl) (by decide), obs, h8, if_pos (show nI F < (12 : Int32) from nI_lt (b := 12) hF (by omega))]
  show ∃ s', Option.bind (aI s 8 (nI l)) _ = _ ∧ _
  rw [aI_nI rfl (by show l < 24; exact hl) (by decide), obs, h8, at12]
  show ∃ s', Option.bind (pI s 9 (nI (12 * l + F)) (nI m)) _ = _ ∧ _
  rw [pI_nI rfl (by show 12 * l + F < 288; omega) (by decide), obs]
  show ∃ s', Option.bind (pI (sF s 9 (12 * l + F) (nI m)) 10 (nI (12 * l + F)) (nI k)) _ = _ ∧ _
  rw [pI_nI rfl (by show 12 * l + F < 288; omega) (by decide), obs]
  show ∃ s', Option.bind (aI (sF (sF s 9 (12 * l + F) (nI m)) 10 (12 * l + F) (nI k)) 8 (nI l)) _ = _ ∧ _
  rw [aI_nI rfl (by show l < 24; exact hl) (by decide), obs, sF_ne (by decide), sF_ne (by decide), h8, nI_1]
  show ∃ s', Option.bind (pI (sF (sF s 9 (12 * l + F) (nI m)) 10 (12 * l + F) (nI k)) 8 (nI l) (nI (F + 1))) _ = _ ∧ _
  rw [pI_nI rfl (by show l < 24; exact hl) (by decide), obs, obs, sF_ne (by decide), sF_ne (by decide), sF_ne (by decide), h6, nI_1]
  refine ⟨_, rfl, ⟨fun a a1 a2 a3 a4 => by rw [sF_ne a1, sF_ne a2, sF_ne a4, sF_ne a3], fun b hb => by rw [sF_nj hb, sF_ne (by decide), sF_ne (by decide), sF_ne (by decide)], rfl⟩, ⟨fun j hj => by rw [sF_ne (by decide), sF_nj hj, sF_ne (by decide), sF_ne (by decide)], fun j hj => ⟨by rw [sF_ne (by decide), sF_ne (by decide), sF_ne (by decide), sF_nj (by omega)], by rw [sF_ne (by decide), sF_ne (by decide), sF_nj (by omega), sF_ne (by decide)]⟩⟩, by rw [sF_ne (by decide), sF_at], sF_at, fun j hj => ⟨by rw [sF_ne (by decide), sF_ne (by decide), sF_ne (by decide), sF_nj (by omega)], by rw [sF_ne (by decide), sF_ne (by decide), sF_nj (by omega), sF_ne (by decide)]⟩, by rw [sF_ne (by decide), sF_ne (by decide), sF_ne (by decide), sF_at], by rw [sF_ne (by decide), sF_ne (by decide), sF_at]⟩
/-- what stands in the draft when c cells of line l are read: F runs are written, the open stretch has m cells -/
def dSt (l T : Nat) (v : Nat → Nat) (c F m : Nat) (s : St) : Prop := s.1 8 l = nI F ∧ s.1 7 6 = nI (T + F) ∧ F ≤ (rr v c).1 ∧ (∀ k, k < F → s.1 9 (12 * l + k) = nI ((rr v c).2.1 k) ∧ s.1 10 (12 * l + k) = nI ((rr v c).2.2 k)) ∧ (pv v c = 0 → F = (rr v c).1) ∧ (pv v c ≠ 0 → F + 1 = (rr v c).1 ∧ (rr v c).2.1 F = m ∧ (rr v c).2.2 F = pv v c)
theorem stretch7 {s : St} {C l T c F m : Nat} {v : Nat → Nat} (hl : l < 24) (hc : c ≤ 12) (hC : C ≤ 3) (hv : ∀ j, j < c → v j ≤ C) (hd : dSt l T v c F m s) : ∃ s', f_X0_addStretch 7 (nI l) (nI m) (nI (pv v c)) s = some s' ∧ DFr s s' ∧ oth l s s' ∧ s'.1 8 l = nI (rr v c).1 ∧ s'.1 7 6 = nI (T + (rr v c).1) ∧ ∀ k, k < (rr v c).1 → s'.1 9 (12 * l + k) = nI ((rr v c).2.1 k) ∧ s'.1 10 (12 * l + k) = nI ((rr v c).2.2 k) := by
  obtain ⟨d1, d2, d3, d4, d5, d6⟩ := hd
  obtain ⟨a1, -⟩ := rr_ok (C := C) c hv
  have hpc : pv v c ≤ C := by
    unfold pv
    split
    · omega
    · exact hv _ (by omega)
  unfold f_X0_addStretch
  rw [if_neg (fun x => x rfl)]
  by_cases p0 : pv v c = 0
  · rw [if_pos (by rw [p0]; rfl)]
    have e := d5 p0
    rw [← e]
    exact ⟨s, rfl, DFr.rfl', oth.rfl', d1, d2, d4⟩
  · rw [if_neg (nI_ne0 (by omega) (by omega))]
    obtain ⟨b1, b2, b3⟩ := d6 p0
    obtain ⟨s', e1, e2, e3, e4, e5, e6, e7, e8⟩ := add7 (m := m) (k := pv v c) hl (show F < 12 by omega) d1 d2
    rw [e1, obs, ← b1]
    refine ⟨s', rfl, e2, e3, e4, by rw [e5, Nat.add_assoc], fun k hk => ?_⟩
    by_cases e : k = F
    · rw [e, e7, e8, b2, b3]
      exact ⟨rfl, rfl⟩
    · rw [(e6 k e).1, (e6 k e).2]
      exact d4 k (by omega)
theorem read8 {l T : Nat} (hl : l < P.L) (hh : ∀ c, c < 144 → gVal P.C (h c)) (hP : P.ok) : ∀ (n c F m fu : Nat) (s : St), c + n = P.n l → n < fu → m ≤ c → s.1 7 3 = nI P.W → s.1 7 4 = nI P.H → (∀ j, j < 144 → s.1 15 j = h j) → dSt l T (vD P h l) c F m s → ∃ s', f_X0_readLine_8 7 14 fu (nI l) (nI m) (nI (pv (vD P h l) c)) (nI c) s = some s' ∧ DFr s s' ∧ oth l s s' ∧ s'.1 8 l = nI (RD P h l).1 ∧ s'.1 7 6 = nI (T + (RD P h l).1) ∧ ∀ k, k < (RD P h l).1 → s'.1 9 (12 * l + k) = nI ((RD P h l).2.1 k) ∧ s'.1 10 (12 * l + k) = nI ((RD P h l).2.2 k) := by
  have hL := Pz.L_le hP
  have hn := Pz.n_le (l := l) hP
  have hC := hP.2.2.1.2
  obtain ⟨⟨W1, W2⟩, ⟨H1, H2⟩, -⟩ := id hP
  have cells : ∀ s : St, s.1 7 3 = nI P.W → s.1 7 4 = nI P.H → f_X0_cellsOf 7 (nI l) s = some (nI (P.n l), s) := by
    intro s w1 w2
    unfold f_X0_cellsOf Pz.n lnOf
    rw [if_neg (fun x => x rfl), w2, w1]
    by_cases c : l < P.H
    · rw [if_neg (nI_ge c (by omega)), if_pos c]
    · rw [if_pos (nI_le (by omega) (by omega)), if_neg c]
  have xy : ∀ (s : St) (p : Nat), s.1 7 4 = nI P.H → f_X0_xOf 7 (nI l) (nI p) s = some (nI (xL P l p), s) ∧ f_X0_yOf 7 (nI l) (nI p) s = some (nI (yL P l p), s) := by
    intro s p w2
    unfold Pz.L at hl
    refine ⟨?_, ?_⟩
    · unfold f_X0_xOf xL
      rw [if_neg (fun x => x rfl), w2]
      by_cases c : l < P.H
      · rw [if_neg (nI_ge c (by omega)), if_pos c]
      · rw [if_pos (nI_le (by omega) (by omega)), if_neg c, pk_sub (by omega)]
    · unfold f_X0_yOf yL
      rw [if_neg (fun x => x rfl), w2]
      by_cases c : l < P.H
      · rw [if_neg (nI_ge c (by omega)), if_pos c]
      · rw [if_pos (nI_le (by omega) (by omega)), if_neg c]
  intro n
  induction n with
  | zero =>
    intro c F m fu s h1 h2 hm w1 w2 h15 hd
    obtain ⟨fu, rfl⟩ : ∃ z, fu = z + 1 := ⟨fu - 1, by omega⟩
    obtain rfl : c = P.n l := by omega
    obtain ⟨s', e1, e2⟩ := stretch7 (C := P.C) (by omega) (by omega) hC (fun j hj => vD_ok hP hh hl hj) hd
    refine ⟨s', ?_, e2⟩
    rw [f_X0_readLine_8, cells s w1 w2, obs, if_pos (nI_le (Nat.le_refl _) (by omega))]
    show Option.bind (f_X0_addStretch 7 (nI l) (nI m) (nI (pv (vD P h l) (P.n l))) s) _ = _
    rw [e1, obs]
  | succ n ih =>
    intro c F m fu s h1 h2 hm w1 w2 h15 hd
    obtain ⟨fu, rfl⟩ : ∃ z, fu = z + 1 := ⟨fu - 1, by omega⟩
    have hp : c < P.n l := by omega
    have hcl := cell_lt hP hl hp
    have hvv := vD_ok hP hh hl hp
    have hpc : pv (vD P h l) c ≤ P.C := by
      unfold pv
      split
      · omega
      · exact vD_ok hP hh hl (by omega)
    have hpv : pv (vD P h l) (c + 1) = vD P h l c := by unfold pv; rw [if_neg (by omega)]; rfl
    have hexp : f_X0_readLine_8 7 14 (fu + 1) (nI l) (nI m) (nI (pv (vD P h l) c)) (nI c) s = if nI (vD P h l c) = nI (pv (vD P h l) c) then f_X0_readLine_8 7 14 fu (nI l) (nI (m + 1)) (nI (pv (vD P h l) c)) (nI (c + 1)) s else Option.bind (f_X0_addStretch 7 (nI l) (nI m) (nI (pv (vD P h l) c)) s) fun s8 => f_X0_readLine_8 7 14 fu (nI l) (nI 1) (nI (vD P h l c)) (nI (c + 1)) s8 := by
      rw [f_X0_readLine_8, cells s w1 w2, obs, if_neg (nI_ge hp (by omega))]
      show Option.bind (f_X0_xOf 7 (nI l) (nI c) s) _ = _
      rw [(xy s c w2).1, obs]
      show Option.bind (f_X0_yOf 7 (nI l) (nI c) s) _ = _
      rw [(xy s c w2).2, obs]
      show Option.bind (f_X2_valueAt 14 (nI (xL P l c)) (nI (yL P l c)) s) _ = _
      unfold f_X2_valueAt
      rw [if_neg (fun x => x rfl), at2 (g := 14) rfl rfl rfl hcl.2.1 hcl.2.2, obs, obs]
      have e15 : s.1 (rf 14 0) (12 * yL P l c + xL P l c) = h (12 * yL P l c + xL P l c) := h15 _ hcl.1
      simp only [e15, (shN_ok (hh _ hcl.1) hC).2.1, f_X0_readLine_59, nI_1]
      rfl
    rw [hexp]
    obtain ⟨d1, d2, d3, d4, d5, d6⟩ := id hd
    obtain ⟨o1, o2, o3, o4, o5⟩ := rr_ok (C := P.C) (v := vD P h l) c (fun j hj => vD_ok hP hh hl (by omega))
    by_cases cc : vD P h l c = pv (vD P h l) c
    · rw [if_pos (by rw [cc])]
      by_cases c0 : vD P h l c = 0
      · have p0 : pv (vD P h l) c = 0 := by rw [← cc]; exact c0
        have hr : rr (vD P h l) (c + 1) = rr (vD P h l) c := by rw [rr, if_pos c0]
        have := ih (c + 1) F (m + 1) fu s (by omega) (by omega) (by omega) w1 w2 h15 (by
          unfold dSt
          rw [hr, hpv]
          exact ⟨d1, d2, d3, d4, fun _ => d5 p0, fun z => absurd c0 z⟩)
        rw [hpv, cc] at this
        exact this
      · have p0 : pv (vD P h l) c ≠ 0 := by rw [← cc]; exact c0
        have hc0 : c ≠ 0 := fun z => p0 (by unfold pv; rw [if_pos z])
        have hq : vD P h l c = vD P h l (c - 1) := by
          rw [cc]
          unfold pv
          rw [if_neg hc0]
        obtain ⟨b1, b2, b3⟩ := d6 p0
        have hr : rr (vD P h l) (c + 1) = ((rr (vD P h l) c).1, (fun j => if j = (rr (vD P h l) c).1 - 1 then (rr (vD P h l) c).2.1 j + 1 else (rr (vD P h l) c).2.1 j), (rr (vD P h l) c).2.2) := by rw [rr, if_neg c0, if_pos ⟨hc0, hq⟩]
        have := ih (c + 1) F (m + 1) fu s (by omega) (by omega) (by omega) w1 w2 h15 (by
          unfold dSt
          rw [hr, hpv]
          refine ⟨d1, d2, d3, fun k hk => ⟨?_, (d4 k hk).2⟩, fun z => absurd z c0, fun _ => ⟨b1, ?_, by rw [cc]; exact b3⟩⟩
          · show _ = nI (if k = (rr (vD P h l) c).1 - 1 then _ else _)
            rw [if_neg (by omega)]
            exact (d4 k hk).1
          · show (if F = (rr (vD P h l) c).1 - 1 then (rr (vD P h l) c).2.1 F + 1 else _) = m + 1
            rw [if_pos (by omega), b2])
        rw [hpv, cc] at this
        exact this
    · rw [if_neg (fun e => cc (nI_inj (by omega) (by omega) e))]
      obtain ⟨t, e1, e2, e3, e4, e5, e6⟩ := stretch7 (C := P.C) (by omega) (by omega) hC (fun j hj => vD_ok hP hh hl (by omega)) hd
      rw [e1, obs]
      have t15 : ∀ j, j < 144 → t.1 15 j = h j := fun j hj => by rw [e2.1 15 (by decide) (by decide) (by decide) (by decide)]; exact h15 j hj
      have t3 : t.1 7 3 = nI P.W := by rw [e2.2.1 3 (by decide)]; exact w1
      have t4 : t.1 7 4 = nI P.H := by rw [e2.2.1 4 (by decide)]; exact w2
      have hdt : dSt l T (vD P h l) (c + 1) (rr (vD P h l) c).1 1 t := by
        unfold dSt
        rw [hpv]
        by_cases c0 : vD P h l c = 0
        · have hr : rr (vD P h l) (c + 1) = rr (vD P h l) c := by rw [rr, if_pos c0]
          rw [hr]
          exact ⟨e4, e5, Nat.le_refl _, e6, fun _ => rfl, fun z => absurd c0 z⟩
        · have hnq : ¬ (c ≠ 0 ∧ vD P h l c = vD P h l (c - 1)) := fun z => cc (by unfold pv; rw [if_neg z.1]; exact z.2)
          have hr : rr (vD P h l) (c + 1) = ((rr (vD P h l) c).1 + 1, (fun j => if j = (rr (vD P h l) c).1 then 1 else (rr (vD P h l) c).2.1 j), (fun j => if j = (rr (vD P h l) c).1 then vD P h l c else (rr (vD P h l) c).2.2 j)) := by rw [rr, if_neg c0, if_neg hnq]
          rw [hr]
          refine ⟨e4, e5, Nat.le_succ _, fun k hk => ⟨?_, ?_⟩, fun z => absurd z c0, fun _ => ⟨rfl, if_pos rfl, if_pos rfl⟩⟩
          · show _ = nI (if k = (rr (vD P h l) c).1 then 1 else _)
            rw [if_neg (by omega)]
            exact (e6 k hk).1
          · show _ = nI (if k = (rr (vD P h l) c).1 then _ else _)
            rw [if_neg (by omega)]
            exact (e6 k hk).2
      obtain ⟨s', i1, i2, i3, i4⟩ := ih (c + 1) (rr (vD P h l) c).1 1 fu t (by omega) (by omega) (by omega) t3 t4 t15 hdt
      rw [hpv] at i1
      exact ⟨s', i1, e2.trans i2, e3.trans i3, i4⟩
theorem readLine7 {l T : Nat} {s : St} (hl : l < P.L) (hh : ∀ c, c < 144 → gVal P.C (h c)) (hP : P.ok) (w1 : s.1 7 3 = nI P.W) (w2 : s.1 7 4 = nI P.H) (h15 : ∀ j, j < 144 → s.1 15 j = h j) (h8 : s.1 8 l = 0) (h6 : s.1 7 6 = nI T) : ∃ s', f_X0_readLine 7 (nI l) 14 s = some s' ∧ DFr s s' ∧ oth l s s' ∧ s'.1 8 l = nI (RD P h l).1 ∧ s'.1 7 6 = nI (T + (RD P h l).1) ∧ ∀ k, k < (RD P h l).1 → s'.1 9 (12 * l + k) = nI ((RD P h l).2.1 k) ∧ s'.1 10 (12 * l + k) = nI ((RD P h l).2.2 k) := by
  have hn := Pz.n_le (l := l) hP
  unfold f_X0_readLine
  rw [if_neg (fun x => x rfl), if_neg (fun x => x rfl)]
  exact read8 hl hh hP (P.n l) 0 0 0 FU s (by omega) (by unfold FU; omega) (Nat.le_refl _) w1 w2 h15 ⟨h8, h6, Nat.le_refl _, fun k hk => absurd hk (Nat.not_lt_zero _), fun _ => rfl, fun z => absurd rfl z⟩
end Read
