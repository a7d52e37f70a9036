/-! THE LAW: for every script the class and the model answer alike -/
theorem law_end : ∀ N, N < 6 → (nI N - 6).toInt < 0 := by decide +kernel
theorem law_cond {N i : Nat} (hN : N ≤ 3072) (hi : i ≤ 4000) : (nI N - (6 : Int32) < nI i) ↔ N < i + 6 := by
  by_cases c : N < 6
  · have h := law_end N c
    rw [Int32.lt_iff_toInt_lt, nI_toInt (show i < 2 ^ 31 by omega)]
    exact ⟨fun _ => by omega, fun _ => by omega⟩
  · rw [show nI N - (6 : Int32) = nI (N - 6) from pk_sub (b := 6) (by omega), nI_lt' (by omega), nI_toInt (show i < 2 ^ 31 by omega)]
    omega
theorem sc_at {N : Nat} {xs : Nat → Int32} {i : Nat} (h : i < N) (hN : N ≤ 3072) : scA N xs (nI i) = some (xs i) := by
  unfold scA
  rw [if_pos (inB_nI h (by omega)), nI_clamp (by omega)]
theorem lg_same (x : Int64) : lg_cmp x x = 0 := by
  unfold lg_cmp
  simp
theorem law_pure {N : Nat} {xs : Nat → Int32} (hN : N ≤ 3072) : ∀ (m i fu : Nat) (s : St), N ≤ i + 6 * m → i ≤ 3090 → m < fu → Inv s → ∃ s', f_L_law_18 N xs fu (nI i) s = some (1, s') := by
  intro m
  induction m with
  | zero =>
    intro i fu s h1 h2 h3 hI
    obtain ⟨fu, rfl⟩ : ∃ z, fu = z + 1 := ⟨fu - 1, by omega⟩
    refine ⟨s, ?_⟩
    rw [f_L_law_18, if_pos ((law_cond hN (by omega)).mpr (by omega))]
  | succ m ih =>
    intro i fu s h1 h2 h3 hI
    obtain ⟨fu, rfl⟩ : ∃ z, fu = z + 1 := ⟨fu - 1, by omega⟩
    by_cases hend : N < i + 6
    · refine ⟨s, ?_⟩
      rw [f_L_law_18, if_pos ((law_cond hN (by omega)).mpr hend)]
    have hgo : ∀ t, Inv t → ∃ s', f_L_law_811 N xs (f_L_law_18 N xs fu) (nI i) t = some (1, s') := by
      intro t ht
      obtain ⟨s', e⟩ := ih (i + 6) fu t (by omega) (by omega) (by omega) ht
      refine ⟨s', ?_⟩
      unfold f_L_law_811
      rw [show nI i + (6 : Int32) = nI (i + 6) from nI_add i 6]
      exact e
    have sc0 : scA N xs (nI i) = some (xs i) := sc_at (by omega) hN
    have sc1 : scA N xs (nI i + (1 : Int32)) = some (xs (i + 1)) := by rw [show nI i + (1 : Int32) = nI (i + 1) from nI_add i 1]; exact sc_at (by omega) hN
    have sc2 : scA N xs (nI i + (2 : Int32)) = some (xs (i + 2)) := by rw [show nI i + (2 : Int32) = nI (i + 2) from nI_add i 2]; exact sc_at (by omega) hN
    have sc3 : scA N xs (nI i + (3 : Int32)) = some (xs (i + 3)) := by rw [show nI i + (3 : Int32) = nI (i + 3) from nI_add i 3]; exact sc_at (by omega) hN
    have sc4 : scA N xs (nI i + (4 : Int32)) = some (xs (i + 4)) := by rw [show nI i + (4 : Int32) = nI (i + 4) from nI_add i 4]; exact sc_at (by omega) hN
    have sc5 : scA N xs (nI i + (5 : Int32)) = some (xs (i + 5)) := by rw [show nI i + (5 : Int32) = nI (i + 5) from nI_add i 5]; exact sc_at (by omega) hN
    rw [f_L_law_18, if_neg (fun z => hend ((law_cond hN (by omega)).mp z)), sc0, obs]
    revert hgo
    generalize f_L_law_811 N xs (f_L_law_18 N xs fu) = go
    intro hgo
    generalize xs i &&& (31 : Int32) = op
    by_cases c0 : op = 0
    · rw [if_pos c0]
      rw [sc1, sc2, sc3, sc4, sc5, obs, obs, obs, obs, obs]
      obtain ⟨r, s1, s2, e1, e2, e3⟩ := st_feed hI (xs (i + 1)) (xs (i + 2)) (xs (i + 3)) (xs (i + 4)) (xs (i + 5))
      rw [e1, obs]
      rw [obs, obs, obs, obs, obs]
      show ∃ s', Option.bind (f_X9_feed (xs (i + 1)) (xs (i + 2)) (xs (i + 3)) (xs (i + 4)) (xs (i + 5)) s1) _ = _
      rw [e2, obs, if_pos rfl]
      exact hgo s2 e3
    rw [if_neg c0]
    by_cases c1 : op = 1
    · rw [if_pos c1]
      rw [sc1, obs]
      obtain ⟨r, s1, s2, e1, e2, e3⟩ := st_end hI (xs (i + 1))
      rw [e1, obs]
      rw [obs]
      show ∃ s', Option.bind (f_X9_end (xs (i + 1)) s1) _ = _
      rw [e2, obs, if_pos rfl]
      exact hgo s2 e3
    rw [if_neg c1]
    by_cases c2 : op = 2
    · rw [if_pos c2]
      obtain ⟨r, s1, s2, e1, e2, e3⟩ := st_load hI
      rw [e1, obs]
      show ∃ s', Option.bind (f_X9_load s1) _ = _
      rw [e2, obs, if_pos rfl]
      exact hgo s2 e3
    rw [if_neg c2]
    by_cases c3 : op = 3
    · rw [if_pos c3]
      obtain ⟨r, s1, s2, e1, e2, e3⟩ := st_fault hI
      rw [e1, obs]
      show ∃ s', Option.bind (f_X9_fault s1) _ = _
      rw [e2, obs, if_pos rfl]
      exact hgo s2 e3
    rw [if_neg c3]
    by_cases c4 : op = 4
    · rw [if_pos c4]
      rw [sc1, sc2, sc3, obs, obs, obs]
      obtain ⟨r, s1, s2, e1, e2, e3⟩ := st_blank hI (xs (i + 1)) (xs (i + 2)) (xs (i + 3))
      rw [e1, obs]
      rw [obs, obs, obs]
      show ∃ s', Option.bind (f_X9_blank (xs (i + 1)) (xs (i + 2)) (xs (i + 3)) s1) _ = _
      rw [e2, obs, if_pos rfl]
      exact hgo s2 e3
    rw [if_neg c4]
    by_cases c5 : op = 5
    · rw [if_pos c5]
      rw [sc1, obs]
      obtain ⟨r, s1, s2, e1, e2, e3⟩ := st_about hI (xs (i + 1))
      rw [e1, obs]
      rw [obs]
      show ∃ s', Option.bind (f_X9_about (xs (i + 1)) s1) _ = _
      rw [e2, obs, if_pos rfl]
      exact hgo s2 e3
    rw [if_neg c5]
    by_cases c6 : op = 6
    · rw [if_pos c6]
      rw [sc1, sc2, sc3, obs, obs, obs]
      obtain ⟨r, s1, s2, e1, e2, e3⟩ := st_run hI (xs (i + 1)) (xs (i + 2)) (xs (i + 3))
      rw [e1, obs]
      rw [obs, obs, obs]
      show ∃ s', Option.bind (f_X9_run (xs (i + 1)) (xs (i + 2)) (xs (i + 3)) s1) _ = _
      rw [e2, obs, if_pos rfl]
      exact hgo s2 e3
    rw [if_neg c6]
    by_cases c7 : op = 7
    · rw [if_pos c7]
      rw [sc1, sc2, sc3, obs, obs, obs]
      obtain ⟨r, s1, s2, e1, e2, e3⟩ := st_give hI (xs (i + 1)) (xs (i + 2)) (xs (i + 3))
      rw [e1, obs]
      rw [obs, obs, obs]
      show ∃ s', Option.bind (f_X9_give (xs (i + 1)) (xs (i + 2)) (xs (i + 3)) s1) _ = _
      rw [e2, obs, if_pos rfl]
      exact hgo s2 e3
    rw [if_neg c7]
    by_cases c8 : op = 8
    · rw [if_pos c8]
      rw [sc1, sc2, obs, obs]
      obtain ⟨r, s1, s2, e1, e2, e3⟩ := st_given hI (xs (i + 1)) (xs (i + 2))
      rw [e1, obs]
      rw [obs, obs]
      show ∃ s', Option.bind (f_X9_given (xs (i + 1)) (xs (i + 2)) s1) _ = _
      rw [e2, obs, if_pos rfl]
      exact hgo s2 e3
    rw [if_neg c8]
    by_cases c9 : op = 9
    · rw [if_pos c9]
      obtain ⟨r, s1, s2, e1, e2, e3⟩ := st_fresh hI
      rw [e1, obs]
      show ∃ s', Option.bind (f_X9_fresh s1) _ = _
      rw [e2, obs, if_pos rfl]
      exact hgo s2 e3
    rw [if_neg c9]
    by_cases c10 : op = 10
    · rw [if_pos c10]
      rw [sc1, obs]
      obtain ⟨r, s1, s2, e1, e2, e3⟩ := st_rule hI (xs (i + 1))
      rw [e1, obs]
      rw [obs]
      show ∃ s', Option.bind (f_X9_rule (xs (i + 1)) s1) _ = _
      rw [e2, obs, if_pos rfl]
      exact hgo s2 e3
    rw [if_neg c10]
    by_cases c11 : op = 11
    · rw [if_pos c11]
      rw [sc1, obs]
      obtain ⟨r, s1, s2, e1, e2, e3⟩ := st_ways hI (xs (i + 1))
      rw [e1, obs]
      rw [obs]
      show ∃ s', Option.bind (f_X9_ways (xs (i + 1)) s1) _ = _
      rw [e2, obs, if_pos (show lg_cmp r r = 0 by rw [lg_same])]
      exact hgo s2 e3
    rw [if_neg c11]
    by_cases c12 : op = 12
    · rw [if_pos c12]
      obtain ⟨r, s1, s2, e1, e2, e3⟩ := st_rest hI
      rw [e1, obs]
      show ∃ s', Option.bind (f_X9_rest s1) _ = _
      rw [e2, obs, if_pos rfl]
      exact hgo s2 e3
    rw [if_neg c12]
    by_cases c13 : op = 13
    · rw [if_pos c13]
      obtain ⟨r, s1, s2, e1, e2, e3⟩ := st_tries hI
      rw [e1, obs]
      show ∃ s', Option.bind (f_X9_tries s1) _ = _
      rw [e2, obs, if_pos rfl]
      exact hgo s2 e3
    rw [if_neg c13]
    by_cases c14 : op = 14
    · rw [if_pos c14]
      rw [sc1, sc2, obs, obs]
      obtain ⟨r, s1, s2, e1, e2, e3⟩ := st_set hI (xs (i + 1)) (xs (i + 2))
      rw [e1, obs]
      rw [obs, obs]
      show ∃ s', Option.bind (f_X9_set (xs (i + 1)) (xs (i + 2)) s1) _ = _
      rw [e2, obs, if_pos rfl]
      exact hgo s2 e3
    rw [if_neg c14]
    by_cases c15 : op = 15
    · rw [if_pos c15]
      rw [sc1, sc2, obs, obs]
      obtain ⟨r, s1, s2, e1, e2, e3⟩ := st_search hI (xs (i + 1)) (xs (i + 2))
      rw [e1, obs]
      rw [obs, obs]
      show ∃ s', Option.bind (f_X9_search (xs (i + 1)) (xs (i + 2)) s1) _ = _
      rw [e2, obs, if_pos rfl]
      exact hgo s2 e3
    rw [if_neg c15]
    by_cases c16 : op = 16
    · rw [if_pos c16]
      obtain ⟨r, s1, s2, e1, e2, e3⟩ := st_nodes hI
      rw [e1, obs]
      show ∃ s', Option.bind (f_X9_nodes s1) _ = _
      rw [e2, obs, if_pos rfl]
      exact hgo s2 e3
    rw [if_neg c16]
    by_cases c17 : op = 17
    · rw [if_pos c17]
      rw [sc1, sc2, sc3, obs, obs, obs]
      obtain ⟨r, s1, s2, e1, e2, e3⟩ := st_solution hI (xs (i + 1)) (xs (i + 2)) (xs (i + 3))
      rw [e1, obs]
      rw [obs, obs, obs]
      show ∃ s', Option.bind (f_X9_solution (xs (i + 1)) (xs (i + 2)) (xs (i + 3)) s1) _ = _
      rw [e2, obs, if_pos rfl]
      exact hgo s2 e3
    rw [if_neg c17]
    by_cases c18 : op = 18
    · rw [if_pos c18]
      obtain ⟨r, s1, s2, e1, e2, e3⟩ := st_level hI
      rw [e1, obs]
      show ∃ s', Option.bind (f_X9_level s1) _ = _
      rw [e2, obs, if_pos rfl]
      exact hgo s2 e3
    rw [if_neg c18]
    by_cases c19 : op = 19
    · rw [if_pos c19]
      rw [sc1, sc2, sc3, obs, obs, obs]
      obtain ⟨r, s1, s2, e1, e2, e3⟩ := st_mark hI (xs (i + 1)) (xs (i + 2)) (xs (i + 3))
      rw [e1, obs]
      rw [obs, obs, obs]
      show ∃ s', Option.bind (f_X9_mark (xs (i + 1)) (xs (i + 2)) (xs (i + 3)) s1) _ = _
      rw [e2, obs, if_pos rfl]
      exact hgo s2 e3
    rw [if_neg c19]
    by_cases c20 : op = 20
    · rw [if_pos c20]
      rw [sc1, sc2, obs, obs]
      obtain ⟨r, s1, s2, e1, e2, e3⟩ := st_marked hI (xs (i + 1)) (xs (i + 2))
      rw [e1, obs]
      rw [obs, obs]
      show ∃ s', Option.bind (f_X9_marked (xs (i + 1)) (xs (i + 2)) s1) _ = _
      rw [e2, obs, if_pos rfl]
      exact hgo s2 e3
    rw [if_neg c20]
    by_cases c21 : op = 21
    · rw [if_pos c21]
      obtain ⟨r, s1, s2, e1, e2, e3⟩ := st_done hI
      rw [e1, obs]
      show ∃ s', Option.bind (f_X9_done s1) _ = _
      rw [e2, obs, if_pos rfl]
      exact hgo s2 e3
    rw [if_neg c21]
    by_cases c22 : op = 22
    · rw [if_pos c22]
      obtain ⟨r, s1, s2, e1, e2, e3⟩ := st_wrong hI
      rw [e1, obs]
      show ∃ s', Option.bind (f_X9_wrong s1) _ = _
      rw [e2, obs, if_pos rfl]
      exact hgo s2 e3
    rw [if_neg c22]
    by_cases c23 : op = 23
    · rw [if_pos c23]
      obtain ⟨r, s1, s2, e1, e2, e3⟩ := st_hint hI
      rw [e1, obs]
      show ∃ s', Option.bind (f_X9_hint s1) _ = _
      rw [e2, obs, if_pos rfl]
      exact hgo s2 e3
    rw [if_neg c23]
    by_cases c24 : op = 24
    · rw [if_pos c24]
      obtain ⟨r, s1, s2, e1, e2, e3⟩ := st_draw hI
      rw [e1, obs]
      show ∃ s', Option.bind (f_X9_draw s1) _ = _
      rw [e2, obs, if_pos rfl]
      exact hgo s2 e3
    rw [if_neg c24]
    by_cases c25 : op = 25
    · rw [if_pos c25]
      obtain ⟨r, s1, s2, e1, e2, e3⟩ := st_mend hI
      rw [e1, obs]
      show ∃ s', Option.bind (f_X9_mend s1) _ = _
      rw [e2, obs, if_pos rfl]
      exact hgo s2 e3
    rw [if_neg c25]
    exact hgo s hI
