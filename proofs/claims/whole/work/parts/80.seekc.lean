/-! the class seeks from the givens -/
def a00 : Sa := (0, 0, false, fun _ _ _ => 0)
theorem QFr.s {F q : Nat} {s s' : St} (hq : q = 26) (h : SFr q s s') : QFr F s s' := ⟨fun a a1 a2 _ _ _ _ => h.1 a a1 a2, fun a _ a2 => h.2.1 a (by omega), h.2.2⟩
section SeekC
variable {P : Pz} {F cap bud : Nat}
theorem firstM_ok {f : Nat → Int32} (hP : P.ok) (hg : ∀ c, c < 144 → gVal P.C (f c)) : setsOK P.W P.H P.C (firstM f P.C) := by
  obtain ⟨⟨W1, W2⟩, ⟨H1, H2⟩, ⟨C1, C2⟩, -⟩ := id hP
  intro x y hx hy
  rw [firstM_at]
  exact fstN_ok C2 (hg _ (by omega))
theorem allL_bt : ∀ L, L < 25 → ∀ m, m < L → bt (((1 : Int32) <<< (nI L &&& 31)) - 1) m = true := by decide +kernel
/-- row 26 gets the sets of the givens, brought to rest -/
theorem become26 {s : St} (hc : Cz s P) (hg : ∀ c, c < 144 → gVal P.C (s.1 13 c)) : ∃ s1 r s2, f_X4_become 25 12 s = some s1 ∧ f_X0_allLines 3 s1 = some (r, s1) ∧ f_X5_settle 25 r s1 = some (if (restP P (firstM (s.1 13) P.C)).1 = true then nI ((restP P (firstM (s.1 13) P.C)).2.1 * P.L) else -2, s2) ∧ SFr 26 s s2 ∧ hasWr (s2.2.1 26) P.W P.H (restP P (firstM (s.1 13) P.C)).2.2 := by
  have hP := hc.1
  have hok := firstM_ok hP hg
  have hL := Pz.L_le hP
  obtain ⟨w, e1, e2⟩ := become4 (g := 25) (a := 12) hc.size rfl rfl rfl rfl rfl rfl hg
  have hc1 : Cz (sRowL s 26 w) P := hc
  obtain ⟨s2, b1, b2, b3⟩ := settle_ok (G := 25) (q := 26) (s := sRowL s 26 w) (v3 := ((1 : Int32) <<< (nI P.L &&& 31)) - 1) ⟨rfl, rfl, rfl, rfl⟩ hc1 hok (by rw [sRowL_row]; exact e2) (fun m hm' hb => by
    rw [allL_bt P.L (by omega) m hm'] at hb
    cases hb)
  refine ⟨sRowL s 26 w, _, s2, e1, ?_, b3, ⟨fun a a1 a2 => b1.1 a a1 a2, fun a a1 => (b1.2.1 a a1).trans (sRowL_ne a1), b1.2.2⟩, b2⟩
  unfold f_X0_allLines
  rw [if_neg (fun x => x rfl), clines hc1.size, obs]
  rfl
theorem seekC {s : St} (hF : fOK F) (hc : Cz s P) (hg : ∀ c, c < 144 → gVal P.C (s.1 13 c)) (hbud : bud ≤ 1000) (hcap : cap ≤ 50) (hcap1 : 1 ≤ cap) : ∃ s', f_X5_seek 12 (nI cap) (nI bud) F s = some s' ∧ fnd P F s' (look P cap bud LOOKN (firstM (s.1 13) P.C) a00) ∧ QFr F s s' := by
  obtain ⟨F1, F2, F3, F4, F5, F6, F7, F8, F9, F10, F11, F12, F13⟩ := id hF
  have hP := hc.1
  generalize hs2 : sF (sF (sF (sF s F 2 0) F 3 0) F 4 0) 21 7 0 = s2
  have q2 : QFr F s s2 := by
    rw [← hs2]
    exact ⟨fun a _ _ a3 _ _ a6 => by rw [sF_ne a3, sF_ne (by omega), sF_ne (by omega), sF_ne (by omega)], fun _ _ _ => rfl, rfl⟩
  have hc2 := hc.qf hF q2
  have e13 : s2.1 13 = s.1 13 := q2.1 13 (by decide) (by decide) (by decide) (by decide) (by decide) (by omega)
  obtain ⟨s3, r, s4, d1, d2, d3, d4, d5⟩ := become26 hc2 (by rw [e13]; exact hg)
  rw [e13] at d3 d5
  have hok := firstM_ok hP hg
  obtain ⟨r1, r2, r3, r4, r5⟩ := restP_spec hP hok
  have q4 : QFr F s s4 := q2.trans (QFr.s rfl d4)
  have hc4 := hc.qf hF q4
  have f4 : ∀ a, a ≠ 17 → a ≠ 18 → s4.1 a = s2.1 a := d4.1
  have hfin : fin cap a00 = false := by
    unfold fin a00
    exact decide_eq_false (by show ¬ cap ≤ 0; omega)
  have hfnd : fnd P F s4 a00 := by
    refine ⟨?_, ?_, ?_, fun k _ k2 => absurd k2 (Nat.not_lt_zero _)⟩
    · rw [f4 F (by omega) (by omega), ← hs2, sF_ne (by omega), sF_nj (by decide), sF_nj (by decide), sF_at]
      rfl
    · rw [f4 F (by omega) (by omega), ← hs2, sF_ne (by omega), sF_nj (by decide), sF_at]
      rfl
    · rw [f4 F (by omega) (by omega), ← hs2, sF_ne (by omega), sF_at]
      rfl
  have hrl : Rl P F s4 (restP P (firstM (s.1 13) P.C)).1 (restP P (firstM (s.1 13) P.C)).2.2 [] a00 := by
    refine ⟨hc4, ?_, trivial, hfnd, fun ho => ⟨d5, r1, r5 ho, ?_⟩⟩
    · rw [f4 21 (by omega) (by omega), ← hs2, sF_at]
      rfl
    · have := mc_le (g := (restP P (firstM (s.1 13) P.C)).2.2) hP
      show 0 + _ ≤ 144
      omega
  obtain ⟨s', z1, z2, z3⟩ := seek48 hF hbud hcap (bud + 1) FU s4 _ _ [] a00 hrl (by show bud + 1 + 0 = bud + 1; omega) (Nat.zero_le _) hfin (by unfold FU; omega)
  have hn0 : a00.1 ≤ bud := Nat.zero_le _
  have hlook : mach P cap bud (bud + 1) (restP P (firstM (s.1 13) P.C)).1 (restP P (firstM (s.1 13) P.C)).2.2 [] a00 = look P cap bud LOOKN (firstM (s.1 13) P.C) a00 := by
    show Mst P cap bud (restP P (firstM (s.1 13) P.C)).1 (restP P (firstM (s.1 13) P.C)).2.2 [] a00 = look P cap bud (146 + 1) (firstM (s.1 13) P.C) a00
    have hn := look_n (P := P) (cap := cap) (bud := bud) (146 + 1) (firstM (s.1 13) P.C) a00 hn0
    rw [look] at hn ⊢
    by_cases c : (restP P (firstM (s.1 13) P.C)).1 = true
    · rw [if_pos c] at hn ⊢
      have hmc := mc_le (g := (restP P (firstM (s.1 13) P.C)).2.2) hP
      rw [c, run_eq hP 146 _ [] a00 r1 (by omega) hn0 hfin]
      split
      · rfl
      · exact Mst_end hn
    · rw [if_neg c]
      have c' : (restP P (firstM (s.1 13) P.C)).1 = false := by simpa using c
      rw [c']
      exact Mst_end hn0
  rw [hlook] at z2
  refine ⟨s', ?_, z2, q4.trans z3⟩
  have rL : (restP P (firstM (s.1 13) P.C)).2.1 * P.L < 2 ^ 31 := by
    have := Nat.mul_le_mul r4 (Pz.L_le hP).2
    omega
  unfold f_X5_seek f_X1_begin
  rw [if_neg (fun x => x rfl), if_neg (fun x => x F1), if_neg (fun x => x F1), obs, obs, obs, obs, obs, hs2, d1, obs, d2, obs]
  show Option.bind (f_X5_settle 25 r s3) _ = _
  rw [d3, obs]
  by_cases c : (restP P (firstM (s.1 13) P.C)).1 = true
  · rw [if_pos c, if_neg (nI_m2 rL)]
    rw [if_pos c] at z1
    exact z1
  · rw [if_neg c, if_pos rfl]
    rw [if_neg c] at z1
    exact z1
end SeekC
