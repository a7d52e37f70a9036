theorem XFr.eqW {q : Nat} {s s' : St} (h : XFr q s s') : eqW s s' := fun a b v => by
  have := vWrow v
  rw [h.1 a (by omega) (by omega)]
theorem VFr.eqW {q : Nat} {s s' : St} (hq : 52 ≤ q ∨ q = 49) (h : VFr q s s') : eqW s s' := fun a b v => by
  by_cases e : a = 43
  · subst e
    have := vW43 v
    exact h.2.1 b (by omega) (by omega) (by omega) (by omega)
  · have := vWrow v
    rw [h.1 a (by omega) (by omega) (by omega) (by omega) e]
theorem v49 : vOK 49 := ⟨q49, by decide, by decide⟩
theorem st_tries {s : St} (hI : Inv s) : Step f_X8_tries f_X9_tries s := by
  obtain ⟨h1, h2, W, H, C, hz, hs, hf, hr⟩ := id hI
  by_cases hW : W = 0
  · subst hW
    have q0 : s.1 0 12 = 0 := by
      rcases hs.2 with q | ⟨-, q, -⟩
      · exact q
      · omega
    refine ⟨-1, s, sF s 43 0 0, ?_, ?_, hI.thrown⟩
    · unfold f_X8_tries f_X8_rest f_X8_fresh
      rw [if_pos q0, hasP8 hz, if_pos rfl, obs, if_pos rfl, obs, if_pos rfl, obs, if_neg (show ¬ (0 : Int32) ≤ -1 by decide)]
    · unfold f_X9_tries
      rw [obs, noPz hz, obs, if_pos rfl]
  obtain ⟨P, rfl, rfl, rfl, hc, hm⟩ := hI.px hz (by omega)
  obtain ⟨g, s1, a1, a2, a3, a4, a5, a6, a7, a8⟩ := restB hI hc hm
  have hsp := restP_spec hc.1 a1
  have hL := Pz.L_le hc.1
  have hrL : (restP P g).2.1 * P.L < 2 ^ 31 := by
    have := Nat.mul_le_mul hsp.2.2.2.1 hL.2
    omega
  by_cases c : (restP P g).1 = true
  · obtain ⟨s2, x1, x2, x3⟩ := sift_ok (G := 29) (q := 30) ⟨rfl, rfl, rfl, rfl⟩ (by decide) a3 hsp.1 (hsp.2.2.2.2 c) a4
    obtain ⟨tA, tB, b1, b2, b3, b4, b5, b6, b7, b8, b9, b10⟩ := a8 s2 (fun a ha => by rw [x1.1 a (by omega) (by omega), a7 a ha])
    obtain ⟨tC, y1, y2, y3, y4⟩ := trying9 v49 b4 hsp.1 (hsp.2.2.2.2 c) b5
    have hto := triesP_ok hc.1 hsp.1 (hsp.2.2.2.2 c)
    refine ⟨if (triesP P (restP P g).2.2).1 = true then nI (triesP P (restP P g).2.2).2.1 else -2, s2, tC, ?_, ?_, hI.newSets hc ((a6.trans x1.eqW).trans (b7.trans (y1.eqW (Or.inr rfl)))) ?_ ?_ hto.1 ?_ y2⟩
    · unfold f_X8_tries
      rw [a2, if_pos c, obs, if_pos (nI_pos' hrL), x3, obs]
    · unfold f_X9_tries
      rw [obs, b1, obs, if_neg nz, b2, obs, b3, if_pos c, obs, if_neg nz, y3, obs]
      by_cases d : (triesP P (restP P g).2.2).1 = true
      · rw [if_pos d, if_neg nz, y4 d, if_pos d]
      · rw [if_neg d, if_pos rfl, if_neg d]
    · rw [y1.1 0 (by decide) (by decide) (by decide) (by decide) (by decide), b8 0 (by omega), x1.1 0 (by decide) (by decide)]
      exact a5
    · rw [y1.2.1 10 (by decide) (by decide) (by decide) (by decide)]
      exact b6
    · have : tC.2.1 30 = s2.2.1 30 := by
        funext b
        rw [y1.2.2 30 b (fun x => absurd x.1 (by decide)), b9 b]
      rw [this]
      exact x2
  · obtain ⟨tA, tB, b1, b2, b3, b4, b5, b6, b7, b8, b9, b10⟩ := a8 s1 a7
    refine ⟨-2, s1, tB, ?_, ?_, hI.newSets hc (a6.trans b7) ?_ b6 hsp.1 ?_ b5⟩
    · unfold f_X8_tries
      rw [a2, if_neg c, obs, if_neg (show ¬ (0 : Int32) ≤ -2 by decide)]
    · unfold f_X9_tries
      rw [obs, b1, obs, if_neg nz, b2, obs, b3, if_neg c, obs, if_pos rfl]
    · rw [b8 0 (by omega)]
      exact a5
    · have : tB.2.1 30 = s1.2.1 30 := by funext b; exact b9 b
      rw [this]
      exact a4
