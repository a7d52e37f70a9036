/-! the text: bytes, faults of cutting, tokens -/
def dg (n : Nat) : Bool := decide (48 ≤ n ∧ n ≤ 57)
def lt (n : Nat) : Bool := decide (97 ≤ n ∧ n ≤ 99)
def sp (n : Nat) : Bool := decide (n = 32 ∨ n = 10)
def sx (n : Nat) : Int32 := (nI n).toInt8.toInt32
theorem sx_dg : ∀ n, n < 256 → ((sx n < 48 ∨ (57 : Int32) < sx n) ↔ dg n = false) := by decide +kernel
theorem sx_lt : ∀ n, n < 256 → ((sx n < 97 ∨ (99 : Int32) < sx n) ↔ lt n = false) := by decide +kernel
theorem sx_sp : ∀ n, n < 256 → ((sx n = 32 ∨ sx n = 10) ↔ sp n = true) := by decide +kernel
theorem sx_sc : ∀ n, n < 256 → (sx n = 59 ↔ n = 59) := by decide +kernel
theorem sx_id : ∀ n, n < 128 → sx n = nI n := by decide +kernel
theorem nI_dg : ∀ n, n < 256 → (((nI n).toInt < (48 : Int32).toInt ∨ (57 : Int32).toInt < (nI n).toInt) ↔ dg n = false) := by decide +kernel
theorem nI_lt2 : ∀ n, n < 256 → (((nI n).toInt < (97 : Int32).toInt ∨ (99 : Int32).toInt < (nI n).toInt) ↔ lt n = false) := by decide +kernel
theorem isDigit7 {n : Nat} {s : St} (h : n < 256) : f_X7_isDigit (sx n) s = some (if dg n = true then 1 else 0, s) := by
  have := sx_dg n h
  unfold f_X7_isDigit
  by_cases c1 : sx n < 48
  · rw [if_pos c1, if_neg (by rw [this.mp (Or.inl c1)]; decide)]
  · rw [if_neg c1]
    by_cases c2 : (57 : Int32) < sx n
    · rw [if_pos c2, if_neg (by rw [this.mp (Or.inr c2)]; decide)]
    · rw [if_neg c2, if_pos]
      cases e : dg n
      · exact absurd (this.mpr e) (fun z => z.elim c1 c2)
      · rfl
theorem isLetter7 {n : Nat} {s : St} (h : n < 256) : f_X7_isLetter (sx n) s = some (if lt n = true then 1 else 0, s) := by
  have := sx_lt n h
  unfold f_X7_isLetter
  by_cases c1 : sx n < 97
  · rw [if_pos c1, if_neg (by rw [this.mp (Or.inl c1)]; decide)]
  · rw [if_neg c1]
    by_cases c2 : (99 : Int32) < sx n
    · rw [if_pos c2, if_neg (by rw [this.mp (Or.inr c2)]; decide)]
    · rw [if_neg c2, if_pos]
      cases e : lt n
      · exact absurd (this.mpr e) (fun z => z.elim c1 c2)
      · rfl
theorem isSpace7 {n : Nat} {s : St} (h : n < 256) : f_X7_isSpace (sx n) s = some (if sp n = true then 1 else 0, s) := by
  have := sx_sp n h
  unfold f_X7_isSpace
  by_cases c1 : sx n = 32
  · rw [if_pos c1, if_pos (this.mp (Or.inl c1))]
  · rw [if_neg c1]
    by_cases c2 : sx n = 10
    · rw [if_pos c2, if_pos (this.mp (Or.inr c2))]
    · rw [if_neg c2, if_neg (fun e => (this.mpr e).elim c1 c2)]
def Tx (s : St) (b : Nat → Nat) (N : Nat) : Prop := N ≤ 900 ∧ s.1 1 1 = nI N ∧ ∀ i, i < N → b i < 256 ∧ s.1 2 i = sx (b i)
theorem Tx.fr {s s' : St} {b : Nat → Nat} {N : Nat} (h : Tx s b N) (e1 : s'.1 1 = s.1 1) (e2 : s'.1 2 = s.1 2) : Tx s' b N := by
  unfold Tx
  rw [e1, e2]
  exact h
theorem Tx.at {s : St} {b : Nat → Nat} {N i : Nat} (h : Tx s b N) (hi : i < N) : f_X6_byteAt (nI i) s = some (sx (b i), s) := by
  obtain ⟨h1, h2, h3⟩ := h
  unfold f_X6_byteAt
  rw [if_neg (nI_pos (by omega)), h2, if_neg (nI_ge hi (by omega)), aB_nI rfl (by show i < 900; omega) (by decide), obs, (h3 i hi).2]
theorem Tx.end {s : St} {b : Nat → Nat} {N : Nat} (h : Tx s b N) : f_X6_byteAt (nI N) s = some (-1, s) := by
  obtain ⟨h1, h2, h3⟩ := h
  unfold f_X6_byteAt
  rw [if_neg (nI_pos (by omega)), h2, if_pos (nI_le (Nat.le_refl _) (by omega))]
/-! faults of cutting -/
def lxF (b : Nat → Nat) : Nat → Nat → Nat → Option Nat
  | 0, _, _ => none
  | m + 1, i, r => if dg (b i) = true then (if r + 1 ≤ 2 then lxF b m (i + 1) (r + 1) else some (i - 2)) else if lt (b i) = true ∨ sp (b i) = true ∨ b i = 59 then lxF b m (i + 1) 0 else some i
theorem cut4 {b : Nat → Nat} {N : Nat} : ∀ (m i r fu : Nat) (s : St), i + m = N → m < fu → r ≤ 2 → r ≤ i → Tx s b N → (lxF b m i r = none → f_X7_cutsClean_4 fu (nI r) (nI i) s = some (1, s)) ∧ (∀ p, lxF b m i r = some p → f_X7_cutsClean_4 fu (nI r) (nI i) s = some (0, sF (sF (sF s 11 5 (nI p)) 11 2 1) 11 3 (nI p)) ∧ p < N) := by
  intro m
  induction m with
  | zero =>
    intro i r fu s h1 h2 hr _ hT
    obtain ⟨fu, rfl⟩ : ∃ z, fu = z + 1 := ⟨fu - 1, by omega⟩
    refine ⟨fun _ => ?_, fun p hp => (by cases hp)⟩
    have := hT.1
    rw [f_X7_cutsClean_4, hT.2.1, if_pos (nI_le (by omega) (by omega))]
  | succ m ih =>
    intro i r fu s h1 h2 hr hri hT
    obtain ⟨fu, rfl⟩ : ∃ z, fu = z + 1 := ⟨fu - 1, by omega⟩
    have hN := hT.1
    have hi : i < N := by omega
    have hb := (hT.2.2 i hi).1
    have ref : ∀ p : Nat, f_X7_cutsClean_96 (nI p) s = some (0, sF (sF (sF s 11 5 (nI p)) 11 2 1) 11 3 (nI p)) := fun p => by
      unfold f_X7_cutsClean_96 f_X7_refuse
      rw [obs, obs, obs, obs, sF_nj (by decide), sF_at, if_pos (Or.inl rfl)]
    rw [f_X7_cutsClean_4, hT.2.1, if_neg (nI_ge hi (by omega)), hT.at hi, obs]
    show (_ → Option.bind (f_X7_isDigit (sx (b i)) s) _ = _) ∧ _
    rw [lxF]
    by_cases c1 : dg (b i) = true
    · rw [if_pos c1]
      have hx : f_X7_cutsClean_4 (fu + 1) (nI r) (nI i) s = if nI (r + 1) ≤ (2 : Int32) then f_X7_cutsClean_4 fu (nI (r + 1)) (nI (i + 1)) s else f_X7_cutsClean_96 (nI i - 2) s := by
        rw [f_X7_cutsClean_4, hT.2.1, if_neg (nI_ge hi (by omega)), hT.at hi, obs]
        show Option.bind (f_X7_isDigit (sx (b i)) s) _ = _
        rw [isDigit7 hb, if_pos c1, obs, if_neg nz, nI_1]
        show f_X7_cutsClean_38 (f_X7_cutsClean_4 fu) (nI i) (sx (b i)) (nI (r + 1)) s = _
        unfold f_X7_cutsClean_38
        rw [isDigit7 hb, if_pos c1, obs, if_neg nz]
        unfold f_X7_cutsClean_66 f_X7_cutsClean_71 f_X7_cutsClean_83
        rw [if_neg (show ¬ (1 : Int32) = 0 by decide), nI_1]
        rw [if_neg (show ¬ (1 : Int32) = 0 by decide)]
      have hx' := hx
      rw [f_X7_cutsClean_4, hT.2.1, if_neg (nI_ge hi (by omega)), hT.at hi, obs] at hx'
      by_cases c2 : r + 1 ≤ 2
      · rw [if_pos c2]
        rw [if_pos (show nI (r + 1) ≤ (2 : Int32) from nI_le (b := 2) c2 (by omega))] at hx'
        obtain ⟨i1, i2⟩ := ih (i + 1) (r + 1) fu s (by omega) (by omega) c2 (by omega) hT
        exact ⟨fun z => hx'.trans (i1 z), fun p z => ⟨hx'.trans (i2 p z).1, (i2 p z).2⟩⟩
      · rw [if_neg c2]
        rw [if_neg (show ¬ nI (r + 1) ≤ (2 : Int32) from nI_ge (a := 2) (by omega) (by omega))] at hx'
        refine ⟨fun z => (by cases z), fun p z => ?_⟩
        injection z with z
        rw [show nI i - (2 : Int32) = nI (i - 2) from pk_sub (b := 2) (by omega), z] at hx'
        exact ⟨hx'.trans (ref p), by omega⟩
    · rw [if_neg c1]
      have c1' : dg (b i) = false := by simpa using c1
      have hx : f_X7_cutsClean_4 (fu + 1) (nI r) (nI i) s = if lt (b i) = true ∨ sp (b i) = true ∨ b i = 59 then f_X7_cutsClean_4 fu (nI 0) (nI (i + 1)) s else f_X7_cutsClean_96 (nI i) s := by
        rw [f_X7_cutsClean_4, hT.2.1, if_neg (nI_ge hi (by omega)), hT.at hi, obs]
        show Option.bind (f_X7_isDigit (sx (b i)) s) _ = _
        rw [isDigit7 hb, if_neg c1, obs, if_pos rfl]
        show f_X7_cutsClean_38 (f_X7_cutsClean_4 fu) (nI i) (sx (b i)) (nI 0) s = _
        unfold f_X7_cutsClean_38
        rw [isDigit7 hb, if_neg c1, obs, if_pos rfl]
        show Option.bind (f_X7_isLetter (sx (b i)) s) _ = _
        rw [isLetter7 hb]
        have yes : f_X7_cutsClean_66 (f_X7_cutsClean_4 fu) (nI 0) (nI i) s = f_X7_cutsClean_4 fu (nI 0) (nI (i + 1)) s := by
          unfold f_X7_cutsClean_66 f_X7_cutsClean_71
          rw [if_neg (show ¬ (1 : Int32) = 0 by decide), if_pos (by decide), nI_1]
        by_cases d1 : lt (b i) = true
        · rw [if_pos d1, obs, if_neg nz, if_pos (Or.inl d1)]
          exact yes
        · rw [if_neg d1, obs, if_pos rfl]
          show Option.bind (f_X7_isSpace (sx (b i)) s) _ = _
          rw [isSpace7 hb]
          by_cases d2 : sp (b i) = true
          · rw [if_pos d2, obs, if_neg nz, if_pos (Or.inr (Or.inl d2))]
            exact yes
          · rw [if_neg d2, obs, if_pos rfl]
            by_cases d3 : b i = 59
            · rw [if_pos ((sx_sc _ hb).mpr d3), if_pos (Or.inr (Or.inr d3))]
              exact yes
            · rw [if_neg (fun e => d3 ((sx_sc _ hb).mp e)), if_neg (fun z => z.elim d1 (fun z => z.elim d2 d3))]
              unfold f_X7_cutsClean_71 f_X7_cutsClean_83
              rw [if_pos rfl, if_pos rfl]
      have hx' := hx
      rw [f_X7_cutsClean_4, hT.2.1, if_neg (nI_ge hi (by omega)), hT.at hi, obs] at hx'
      by_cases c2 : lt (b i) = true ∨ sp (b i) = true ∨ b i = 59
      · rw [if_pos c2] at hx' ⊢
        obtain ⟨i1, i2⟩ := ih (i + 1) 0 fu s (by omega) (by omega) (by omega) (by omega) hT
        exact ⟨fun z => hx'.trans (i1 z), fun p z => ⟨hx'.trans (i2 p z).1, (i2 p z).2⟩⟩
      · rw [if_neg c2] at hx' ⊢
        refine ⟨fun z => (by cases z), fun p z => ?_⟩
        injection z with z
        rw [← z]
        exact ⟨hx'.trans (ref i), hi⟩
/-- a clean text -/
def cln (b : Nat → Nat) (N : Nat) : Prop := (∀ i, i < N → dg (b i) = true ∨ lt (b i) = true ∨ sp (b i) = true ∨ b i = 59) ∧ ∀ i, i + 2 < N → ¬ (dg (b i) = true ∧ dg (b (i + 1)) = true ∧ dg (b (i + 2)) = true)
theorem lx_cln {b : Nat → Nat} {N : Nat} : ∀ (m i r : Nat), i + m = N → r ≤ 2 → lxF b m i r = none → (∀ j, i ≤ j → j < N → dg (b j) = true ∨ lt (b j) = true ∨ sp (b j) = true ∨ b j = 59) ∧ (∀ j, i ≤ j → j + 2 < N → ¬ (dg (b j) = true ∧ dg (b (j + 1)) = true ∧ dg (b (j + 2)) = true)) ∧ (r = 2 → i < N → ¬ dg (b i) = true) ∧ (r = 1 → i + 1 < N → ¬ (dg (b i) = true ∧ dg (b (i + 1)) = true)) := by
  intro m
  induction m with
  | zero => intro i r h1 _ _; exact ⟨fun j j1 j2 => absurd j1 (by omega), fun j j1 j2 => absurd j1 (by omega), fun _ h => absurd h (by omega), fun _ h => absurd h (by omega)⟩
  | succ m ih =>
    intro i r h1 hr h
    rw [lxF] at h
    by_cases c1 : dg (b i) = true
    · rw [if_pos c1] at h
      by_cases c2 : r + 1 ≤ 2
      · rw [if_pos c2] at h
        obtain ⟨a1, a2, a3, a4⟩ := ih (i + 1) (r + 1) (by omega) c2 h
        refine ⟨fun j j1 j2 => ?_, fun j j1 j2 z => ?_, fun e => absurd e (by omega), fun e hj z => ?_⟩
        · by_cases e : j = i
          · rw [e]; exact Or.inl c1
          · exact a1 j (by omega) j2
        · by_cases e : j = i
          · subst e
            rcases Nat.lt_or_ge r 1 with q | q
            · exact a4 (by omega) (by omega) ⟨z.2.1, z.2.2⟩
            · exact a3 (by omega) (by omega) z.2.1
          · exact a2 j (by omega) j2 z
        · exact a3 (by omega) hj z.2
      · rw [if_neg c2] at h
        cases h
    · rw [if_neg c1] at h
      by_cases c2 : lt (b i) = true ∨ sp (b i) = true ∨ b i = 59
      · rw [if_pos c2] at h
        obtain ⟨a1, a2, a3, a4⟩ := ih (i + 1) 0 (by omega) (by omega) h
        refine ⟨fun j j1 j2 => ?_, fun j j1 j2 z => ?_, fun _ _ => c1, fun _ _ z => c1 z.1⟩
        · by_cases e : j = i
          · rw [e]; exact Or.inr c2
          · exact a1 j (by omega) j2
        · by_cases e : j = i
          · rw [e] at z; exact c1 z.1
          · exact a2 j (by omega) j2 z
      · rw [if_neg c2] at h
        cases h
/-! tokens -/
def skp (b : Nat → Nat) : Nat → Nat → Nat
  | 0, i => i
  | m + 1, i => if sp (b i) = true then skp b m (i + 1) else i
/-- kind (0 number, 1 letter, 2 ;, 3 end), start, value, what follows -/
def tkAt (b : Nat → Nat) (N q : Nat) : Nat × Nat × Nat × Nat := if N ≤ q then (3, N, 0, N) else if dg (b q) = true then (if q + 1 < N ∧ dg (b (q + 1)) = true then (0, q, 10 * (b q - 48) + (b (q + 1) - 48), q + 2) else (0, q, b q - 48, q + 1)) else if lt (b q) = true then (1, q, b q - 96, q + 1) else (2, q, 0, q + 1)
def tk (b : Nat → Nat) (N i : Nat) : Nat × Nat × Nat × Nat := tkAt b N (skp b (N - i) i)
theorem skp_le {b : Nat → Nat} {N : Nat} : ∀ m i, i + m = N → i ≤ skp b m i ∧ skp b m i ≤ N ∧ (skp b m i < N → ¬ sp (b (skp b m i)) = true) := by
  intro m
  induction m with
  | zero => intro i h; exact ⟨Nat.le_refl _, by show i ≤ N; omega, fun z => absurd z (by show ¬ i < N; omega)⟩
  | succ m ih =>
    intro i h
    rw [skp]
    by_cases c : sp (b i) = true
    · rw [if_pos c]
      obtain ⟨a1, a2, a3⟩ := ih (i + 1) (by omega)
      exact ⟨by omega, a2, a3⟩
    · rw [if_neg c]
      exact ⟨Nat.le_refl _, by omega, fun _ => c⟩
theorem tk_sp {b : Nat → Nat} {N i : Nat} (hi : i < N) (h : sp (b i) = true) : tk b N i = tk b N (i + 1) := by
  unfold tk
  obtain ⟨m, hm⟩ : ∃ m, N - i = m + 1 := ⟨N - i - 1, by omega⟩
  rw [hm, skp, if_pos h, show N - (i + 1) = m by omega]
theorem tk_at {b : Nat → Nat} {N i : Nat} (hi : i < N) (h : ¬ sp (b i) = true) : tk b N i = tkAt b N i := by
  unfold tk
  obtain ⟨m, hm⟩ : ∃ m, N - i = m + 1 := ⟨N - i - 1, by omega⟩
  rw [hm, skp, if_neg h]
theorem tk_end {b : Nat → Nat} {N : Nat} : tk b N N = (3, N, 0, N) := by
  unfold tk tkAt
  rw [Nat.sub_self, skp, if_pos (Nat.le_refl _)]
theorem dg_b {n : Nat} (h : dg n = true) : 48 ≤ n ∧ n ≤ 57 := of_decide_eq_true h
theorem lt_b {n : Nat} (h : lt n = true) : 97 ≤ n ∧ n ≤ 99 := of_decide_eq_true h
theorem tkAt_ok {b : Nat → Nat} {N q : Nat} (hq : q ≤ N) : (tkAt b N q).1 ≤ 3 ∧ (tkAt b N q).2.1 ≤ N ∧ (tkAt b N q).2.2.1 ≤ 99 ∧ (tkAt b N q).2.2.2 ≤ N ∧ ((tkAt b N q).1 ≠ 3 → q < (tkAt b N q).2.2.2) ∧ ((tkAt b N q).1 = 1 → 1 ≤ (tkAt b N q).2.2.1 ∧ (tkAt b N q).2.2.1 ≤ 3) := by
  unfold tkAt
  by_cases c0 : N ≤ q
  · rw [if_pos c0]
    exact ⟨Nat.le_refl _, Nat.le_refl _, Nat.zero_le _, Nat.le_refl _, fun h => absurd rfl h, fun h => absurd (show (3 : Nat) = 1 from h) (by decide)⟩
  · rw [if_neg c0]
    by_cases c1 : dg (b q) = true
    · rw [if_pos c1]
      have b1 := dg_b c1
      by_cases c2 : q + 1 < N ∧ dg (b (q + 1)) = true
      · rw [if_pos c2]
        have b2 := dg_b c2.2
        exact ⟨by show 0 ≤ 3; omega, by show q ≤ N; omega, by show 10 * (b q - 48) + (b (q + 1) - 48) ≤ 99; omega, by show q + 2 ≤ N; omega, fun _ => by show q < q + 2; omega, fun h => absurd (show (0 : Nat) = 1 from h) (by decide)⟩
      · rw [if_neg c2]
        exact ⟨by show 0 ≤ 3; omega, by show q ≤ N; omega, by show b q - 48 ≤ 99; omega, by show q + 1 ≤ N; omega, fun _ => by show q < q + 1; omega, fun h => absurd (show (0 : Nat) = 1 from h) (by decide)⟩
    · rw [if_neg c1]
      by_cases c2 : lt (b q) = true
      · rw [if_pos c2]
        have b2 := lt_b c2
        exact ⟨by show 1 ≤ 3; omega, by show q ≤ N; omega, by show b q - 96 ≤ 99; omega, by show q + 1 ≤ N; omega, fun _ => by show q < q + 1; omega, fun _ => by show 1 ≤ b q - 96 ∧ b q - 96 ≤ 3; omega⟩
      · rw [if_neg c2]
        exact ⟨by show 2 ≤ 3; omega, by show q ≤ N; omega, by show 0 ≤ 99; omega, by show q + 1 ≤ N; omega, fun _ => by show q < q + 1; omega, fun h => absurd (show (2 : Nat) = 1 from h) (by decide)⟩
theorem tk_ok {b : Nat → Nat} {N i : Nat} (hi : i ≤ N) : (tk b N i).1 ≤ 3 ∧ (tk b N i).2.1 ≤ N ∧ (tk b N i).2.2.1 ≤ 99 ∧ (tk b N i).2.2.2 ≤ N ∧ ((tk b N i).1 ≠ 3 → i < (tk b N i).2.2.2) ∧ ((tk b N i).1 = 1 → 1 ≤ (tk b N i).2.2.1 ∧ (tk b N i).2.2.1 ≤ 3) := by
  obtain ⟨s1, s2, s3⟩ := skp_le (b := b) (N := N) (N - i) i (by omega)
  unfold tk
  obtain ⟨a1, a2, a3, a4, a5, a6⟩ := tkAt_ok (b := b) s2
  exact ⟨a1, a2, a3, a4, fun h => by have := a5 h; omega, a6⟩
def tp (b : Nat → Nat) (N : Nat) : Nat → Nat
  | 0 => 0
  | k + 1 => (tk b N (tp b N k)).2.2.2
def tK (b : Nat → Nat) (N k : Nat) : Nat := (tk b N (tp b N k)).1
def tS (b : Nat → Nat) (N k : Nat) : Nat := (tk b N (tp b N k)).2.1
def tV (b : Nat → Nat) (N k : Nat) : Nat := (tk b N (tp b N k)).2.2.1
theorem tp_le {b : Nat → Nat} {N : Nat} : ∀ k, tp b N k ≤ N := by
  intro k
  induction k with
  | zero => exact Nat.zero_le _
  | succ k ih => exact (tk_ok ih).2.2.2.1
theorem tok_ok {b : Nat → Nat} {N : Nat} (k : Nat) : tK b N k ≤ 3 ∧ tS b N k ≤ N ∧ tV b N k ≤ 99 ∧ (tK b N k = 1 → 1 ≤ tV b N k ∧ tV b N k ≤ 3) := by
  obtain ⟨a1, a2, a3, a4, a5, a6⟩ := tk_ok (b := b) (N := N) (tp_le k)
  exact ⟨a1, a2, a3, a6⟩
/-! the class's next token -/
def kC (k : Nat) : Nat := if k = 3 then 0 else k + 1
/-- the reader stands at token k -/
def cAt (s : St) (b : Nat → Nat) (N k : Nat) : Prop := s.1 11 4 = nI (kC (tK b N k)) ∧ s.1 11 5 = nI (tS b N k) ∧ s.1 11 6 = nI (tV b N k) ∧ s.1 11 7 = nI (tp b N (k + 1))
/-- only the reader's fields 4 to 7 change -/
def RFr (s s' : St) : Prop := (∀ a, a ≠ 11 → s'.1 a = s.1 a) ∧ (∀ j, (j < 4 ∨ 7 < j) → s'.1 11 j = s.1 11 j) ∧ s'.2 = s.2
theorem RFr.rfl' {s : St} : RFr s s := ⟨fun _ _ => rfl, fun _ _ => rfl, rfl⟩
theorem RFr.trans {s t u : St} (a : RFr s t) (c : RFr t u) : RFr s u := ⟨fun i hi => (c.1 i hi).trans (a.1 i hi), fun i hi => (c.2.1 i hi).trans (a.2.1 i hi), c.2.2.trans a.2.2⟩
theorem RFr.s {s : St} {j : Nat} {v : Int32} (h1 : 4 ≤ j) (h2 : j ≤ 7) : RFr s (sF s 11 j v) := ⟨fun a ha => sF_ne ha, fun i hi => sF_nj (by omega), rfl⟩
theorem Tx.r {s s' : St} {b : Nat → Nat} {N : Nat} (h : Tx s b N) (f : RFr s s') : Tx s' b N := h.fr (f.1 1 (by decide)) (f.1 2 (by decide))
theorem nI_48 {n : Nat} (h : 48 ≤ n) : nI n - (48 : Int32) = nI (n - 48) := pk_sub (b := 48) h
theorem adv8 {b : Nat → Nat} {N : Nat} : ∀ (m i fu : Nat) (s : St), i + m = N → m < fu → Tx s b N → s.1 11 5 = nI i → ∃ s', f_X7_advance_8 fu s = f_X7_advance_52 s' ∧ RFr s s' ∧ s'.1 11 5 = nI (skp b m i) := by
  intro m
  induction m with
  | zero =>
    intro i fu s h1 h2 hT h5
    obtain ⟨fu, rfl⟩ : ∃ z, fu = z + 1 := ⟨fu - 1, by omega⟩
    have := hT.1
    refine ⟨s, ?_, RFr.rfl', h5⟩
    rw [f_X7_advance_8, hT.2.1, h5, if_pos (nI_le (by omega) (by omega))]
  | succ m ih =>
    intro i fu s h1 h2 hT h5
    obtain ⟨fu, rfl⟩ : ∃ z, fu = z + 1 := ⟨fu - 1, by omega⟩
    have hN := hT.1
    have hi : i < N := by omega
    have hb := (hT.2.2 i hi).1
    rw [f_X7_advance_8, hT.2.1, h5, if_neg (nI_ge hi (by omega)), hT.at hi, obs, skp]
    show ∃ s', Option.bind (f_X7_isSpace (sx (b i)) s) _ = _ ∧ _
    rw [isSpace7 hb, obs]
    by_cases c : sp (b i) = true
    · rw [if_pos c, if_neg nz, if_pos c, obs, h5, nI_1]
      have f1 : RFr s (sF s 11 5 (nI (i + 1))) := RFr.s (by omega) (by omega)
      obtain ⟨s', e1, e2, e3⟩ := ih (i + 1) fu (sF s 11 5 (nI (i + 1))) (by omega) (by omega) (hT.r f1) sF_at
      exact ⟨s', e1, f1.trans e2, e3⟩
    · rw [if_neg c, if_pos rfl, if_neg c]
      exact ⟨s, rfl, RFr.rfl', h5⟩
theorem endD {b : Nat → Nat} {N : Nat} {s : St} (hT : Tx s b N) (hc : cln b N) {q : Nat} (hq : q < N) (hd : dg (b q) = true) : f_X7_endOfDigits (nI q) s = some (nI (if q + 1 < N ∧ dg (b (q + 1)) = true then q + 2 else q + 1), s) := by
  have hN := hT.1
  have one : ∀ n i, i < N → f_X7_endOfDigits_2 (n + 1) (nI i) s = if dg (b i) = true then f_X7_endOfDigits_2 n (nI (i + 1)) s else some (nI i, s) := by
    intro n i hi
    rw [f_X7_endOfDigits_2, hT.2.1, if_neg (nI_ge hi (by omega)), hT.at hi, obs]
    show Option.bind (f_X7_isDigit (sx (b i)) s) _ = _
    rw [isDigit7 (hT.2.2 i hi).1, obs]
    by_cases c : dg (b i) = true
    · rw [if_pos c, if_neg nz, if_pos c, nI_1]
    · rw [if_neg c, if_pos rfl, if_neg c]
  have last : ∀ n, f_X7_endOfDigits_2 (n + 1) (nI N) s = some (nI N, s) := by
    intro n
    rw [f_X7_endOfDigits_2, hT.2.1, if_pos (nI_le (Nat.le_refl _) (by omega))]
  unfold f_X7_endOfDigits
  rw [show FU = 4093 + 1 + 1 + 1 from rfl, one _ q hq, if_pos hd]
  by_cases c : q + 1 < N ∧ dg (b (q + 1)) = true
  · rw [if_pos c, one _ (q + 1) c.1, if_pos c.2]
    by_cases c2 : q + 2 < N
    · rw [one _ (q + 1 + 1) c2, if_neg (fun z => hc.2 q c2 ⟨hd, c.2, z⟩)]
    · rw [show q + 1 + 1 = N by omega, last]
  · rw [if_neg c]
    by_cases c2 : q + 1 < N
    · rw [one _ (q + 1) c2, if_neg (fun z => c ⟨c2, z⟩)]
    · rw [show q + 1 = N by omega, last]
theorem adv52 {b : Nat → Nat} {N : Nat} {s : St} (hT : Tx s b N) (hc : cln b N) {q : Nat} (hq : q ≤ N) (h5 : s.1 11 5 = nI q) (hsp : q < N → ¬ sp (b q) = true) : ∃ s', f_X7_advance_52 s = some s' ∧ RFr s s' ∧ s'.1 11 4 = nI (kC (tkAt b N q).1) ∧ s'.1 11 5 = nI (tkAt b N q).2.1 ∧ s'.1 11 6 = nI (tkAt b N q).2.2.1 ∧ s'.1 11 7 = nI (tkAt b N q).2.2.2 := by
  have hN := hT.1
  generalize hs3 : sF (sF s 11 6 0) 11 7 (nI (q + 1)) = s3
  have f3 : RFr s s3 := by
    rw [← hs3]
    exact (RFr.s (by omega) (by omega)).trans (RFr.s (by omega) (by omega))
  have r5 : s3.1 11 5 = nI q := by rw [← hs3, sF_nj (by decide), sF_nj (by decide)]; exact h5
  have r6 : s3.1 11 6 = 0 := by rw [← hs3, sF_nj (by decide), sF_at]
  have r7 : s3.1 11 7 = nI (q + 1) := by rw [← hs3, sF_at]
  have hT3 := hT.r f3
  by_cases c0 : q < N
  · have hb := (hT.2.2 q c0).1
    have hexp : f_X7_advance_52 s = Option.bind (f_X7_isDigit (sx (b q)) s3) fun r5 => if r5.1 = 0 then Option.bind (f_X7_isLetter (sx (b q)) r5.2) fun r7 => if r7.1 = 0 then Option.bind (some (sF r7.2 11 4 (3 : Int32))) fun s9 => some s9 else Option.bind (some (sF r7.2 11 4 (2 : Int32))) fun s10 => Option.bind (some (sF s10 11 6 ((sx (b q) - (97 : Int32)) + (1 : Int32)))) fun s11 => some s11 else Option.bind (some (sF r5.2 11 4 (1 : Int32))) fun s12 => Option.bind (f_X7_endOfDigits (s12.1 11 5) s12) fun r13 => Option.bind (some (sF r13.2 11 7 r13.1)) fun s14 => f_X7_advance_138 FU (s14.1 11 5) s14 := by
      unfold f_X7_advance_52
      rw [h5, hT.at c0, obs, obs]
      show Option.bind (some (sF (sF s 11 6 0) 11 7 ((sF s 11 6 0).1 11 5 + 1))) _ = _
      rw [sF_nj (by decide), h5, nI_1, hs3, obs, r5, hT3.2.1, if_pos (nI_lt c0 (by omega))]
    rw [hexp, isDigit7 hb, obs]
    unfold tkAt
    rw [if_neg (show ¬ N ≤ q by omega)]
    by_cases c1 : dg (b q) = true
    · rw [if_pos c1, if_neg nz, if_pos c1, obs]
      have b1 := dg_b c1
      have f12 : RFr s (sF s3 11 4 1) := f3.trans (RFr.s (by omega) (by omega))
      have hT12 := hT.r f12
      show ∃ s', Option.bind (f_X7_endOfDigits ((sF s3 11 4 1).1 11 5) (sF s3 11 4 1)) _ = _ ∧ _
      rw [sF_nj (by decide), r5, endD hT12 hc c0 c1, obs, obs]
      have adv : ∀ (n i v : Nat) (t : St), t.1 11 6 = nI v → RFr s t → (∀ e, t.1 11 7 = nI e → e ≤ 900 → (i < e → i < N ∧ dg (b i) = true ∧ v ≤ 9 → f_X7_advance_138 (n + 1) (nI i) t = f_X7_advance_138 n (nI (i + 1)) (sF t 11 6 (nI (10 * v + (b i - 48))))) ∧ (e ≤ i → i ≤ 900 → f_X7_advance_138 (n + 1) (nI i) t = some t)) := by
        intro n i v t h6 ft e h7 he
        refine ⟨fun hie ⟨hi, hd, hv⟩ => ?_, fun hei hi => ?_⟩
        · have hTt := hT.r ft
          have bi := dg_b hd
          rw [f_X7_advance_138, h7, if_neg (nI_ge hie (by omega)), hTt.at hi, obs, obs, h6, sx_id _ (by omega), show (10 : Int32) = nI 10 from rfl, pk_mul, nI_add, nI_48 (by omega), nI_1, show 10 * v + b i - 48 = 10 * v + (b i - 48) by omega]
        · rw [f_X7_advance_138, h7, if_pos (nI_le hei (by omega))]
      by_cases c2 : q + 1 < N ∧ dg (b (q + 1)) = true
      · rw [if_pos c2, if_pos c2]
        have b2 := dg_b c2.2
        generalize ht0 : sF (sF s3 11 4 1) 11 7 (nI (q + 2)) = t0
        have ft0 : RFr s t0 := by rw [← ht0]; exact f12.trans (RFr.s (by omega) (by omega))
        have t06 : t0.1 11 6 = nI 0 := by rw [← ht0, sF_nj (by decide), sF_nj (by decide)]; exact r6
        have t07 : t0.1 11 7 = nI (q + 2) := by rw [← ht0, sF_at]
        have t05 : t0.1 11 5 = nI q := by rw [← ht0, sF_nj (by decide), sF_nj (by decide)]; exact r5
        have t04 : t0.1 11 4 = 1 := by rw [← ht0, sF_nj (by decide), sF_at]
        show ∃ s', f_X7_advance_138 FU (t0.1 11 5) t0 = _ ∧ _
        rw [t05, show FU = 4093 + 1 + 1 + 1 from rfl, (adv _ q 0 t0 t06 ft0 (q + 2) t07 (by omega)).1 (by omega) ⟨c0, c1, by omega⟩]
        generalize ht1 : sF t0 11 6 (nI (10 * 0 + (b q - 48))) = t1
        have ft1 : RFr s t1 := by rw [← ht1]; exact ft0.trans (RFr.s (by omega) (by omega))
        have t16 : t1.1 11 6 = nI (10 * 0 + (b q - 48)) := by rw [← ht1, sF_at]
        have t17 : t1.1 11 7 = nI (q + 2) := by rw [← ht1, sF_nj (by decide)]; exact t07
        rw [(adv _ (q + 1) _ t1 t16 ft1 (q + 2) t17 (by omega)).1 (by omega) ⟨c2.1, c2.2, by omega⟩]
        generalize ht2 : sF t1 11 6 (nI (10 * (10 * 0 + (b q - 48)) + (b (q + 1) - 48))) = t2
        have ft2 : RFr s t2 := by rw [← ht2]; exact ft1.trans (RFr.s (by omega) (by omega))
        have t26 : t2.1 11 6 = nI (10 * (10 * 0 + (b q - 48)) + (b (q + 1) - 48)) := by rw [← ht2, sF_at]
        have t27 : t2.1 11 7 = nI (q + 2) := by rw [← ht2, sF_nj (by decide)]; exact t17
        rw [(adv _ (q + 1 + 1) _ t2 t26 ft2 (q + 2) t27 (by omega)).2 (by omega) (by omega)]
        refine ⟨t2, rfl, ft2, ?_, ?_, ?_, t27⟩
        · rw [← ht2, sF_nj (by decide), ← ht1, sF_nj (by decide), t04]
          rfl
        · rw [← ht2, sF_nj (by decide), ← ht1, sF_nj (by decide), t05]
        · rw [t26]
          congr 1
          show 10 * (10 * 0 + (b q - 48)) + (b (q + 1) - 48) = 10 * (b q - 48) + (b (q + 1) - 48)
          omega
      · rw [if_neg c2, if_neg c2]
        generalize ht0 : sF (sF s3 11 4 1) 11 7 (nI (q + 1)) = t0
        have ft0 : RFr s t0 := by rw [← ht0]; exact f12.trans (RFr.s (by omega) (by omega))
        have t06 : t0.1 11 6 = nI 0 := by rw [← ht0, sF_nj (by decide), sF_nj (by decide)]; exact r6
        have t07 : t0.1 11 7 = nI (q + 1) := by rw [← ht0, sF_at]
        have t05 : t0.1 11 5 = nI q := by rw [← ht0, sF_nj (by decide), sF_nj (by decide)]; exact r5
        have t04 : t0.1 11 4 = 1 := by rw [← ht0, sF_nj (by decide), sF_at]
        show ∃ s', f_X7_advance_138 FU (t0.1 11 5) t0 = _ ∧ _
        rw [t05, show FU = 4094 + 1 + 1 from rfl, (adv _ q 0 t0 t06 ft0 (q + 1) t07 (by omega)).1 (by omega) ⟨c0, c1, by omega⟩]
        generalize ht1 : sF t0 11 6 (nI (10 * 0 + (b q - 48))) = t1
        have ft1 : RFr s t1 := by rw [← ht1]; exact ft0.trans (RFr.s (by omega) (by omega))
        have t16 : t1.1 11 6 = nI (10 * 0 + (b q - 48)) := by rw [← ht1, sF_at]
        have t17 : t1.1 11 7 = nI (q + 1) := by rw [← ht1, sF_nj (by decide)]; exact t07
        rw [(adv _ (q + 1) _ t1 t16 ft1 (q + 1) t17 (by omega)).2 (by omega) (by omega)]
        refine ⟨t1, rfl, ft1, ?_, ?_, ?_, t17⟩
        · rw [← ht1, sF_nj (by decide), t04]
          rfl
        · rw [← ht1, sF_nj (by decide), t05]
        · rw [t16]
          congr 1
          show 10 * 0 + (b q - 48) = b q - 48
          omega
    · rw [if_neg c1, if_pos rfl, if_neg c1]
      show ∃ s', Option.bind (f_X7_isLetter (sx (b q)) s3) _ = _ ∧ _
      rw [isLetter7 hb, obs]
      by_cases c2 : lt (b q) = true
      · rw [if_pos c2, if_neg nz, if_pos c2, obs, obs]
        have b2 := lt_b c2
        refine ⟨_, rfl, f3.trans ((RFr.s (by omega) (by omega)).trans (RFr.s (by omega) (by omega))), ?_, ?_, ?_, ?_⟩
        · rw [sF_nj (by decide), sF_at]
          rfl
        · rw [sF_nj (by decide), sF_nj (by decide)]
          exact r5
        · rw [sF_at, sx_id _ (by omega), show nI (b q) - (97 : Int32) = nI (b q - 97) from pk_sub (b := 97) (by omega), nI_1]
          show nI (b q - 97 + 1) = nI (b q - 96)
          congr 1
          omega
        · rw [sF_nj (by decide), sF_nj (by decide)]
          exact r7
      · rw [if_neg c2, if_pos rfl, if_neg c2, obs]
        refine ⟨_, rfl, f3.trans (RFr.s (by omega) (by omega)), ?_, ?_, ?_, ?_⟩
        · rw [sF_at]
          rfl
        · rw [sF_nj (by decide)]
          exact r5
        · rw [sF_nj (by decide)]
          exact r6
        · rw [sF_nj (by decide)]
          exact r7
  · obtain rfl : q = N := by omega
    have hexp : f_X7_advance_52 s = some (sF (sF s3 11 4 0) 11 7 (nI q)) := by
      unfold f_X7_advance_52
      rw [h5, hT.end, obs, obs]
      show Option.bind (some (sF (sF s 11 6 0) 11 7 ((sF s 11 6 0).1 11 5 + 1))) _ = _
      rw [sF_nj (by decide), h5, nI_1, hs3, obs, r5, hT3.2.1, if_neg (nI_nlt (Nat.le_refl _) (by omega)), obs, obs, sF_nj (by decide), r5]
    unfold tkAt
    rw [if_pos (Nat.le_refl q)]
    refine ⟨_, hexp, f3.trans ((RFr.s (by omega) (by omega)).trans (RFr.s (by omega) (by omega))), ?_, ?_, ?_, ?_⟩
    · rw [sF_nj (by decide), sF_at]
      rfl
    · rw [sF_nj (by decide), sF_nj (by decide)]
      exact r5
    · rw [sF_nj (by decide), sF_nj (by decide)]
      exact r6
    · rw [sF_at]
theorem adv7 {b : Nat → Nat} {N : Nat} {s : St} (hT : Tx s b N) (hc : cln b N) {k : Nat} (h7 : s.1 11 7 = nI (tp b N k)) : ∃ s', f_X7_advance s = some s' ∧ RFr s s' ∧ cAt s' b N k := by
  have hN := hT.1
  have hp := tp_le (b := b) (N := N) k
  have f0 : RFr s (sF s 11 5 (nI (tp b N k))) := RFr.s (by omega) (by omega)
  obtain ⟨t, e1, e2, e3⟩ := adv8 (b := b) (N - tp b N k) (tp b N k) FU (sF s 11 5 (nI (tp b N k))) (by omega) (by unfold FU; omega) (hT.r f0) sF_at
  obtain ⟨s1, s2, s3⟩ := skp_le (b := b) (N := N) (N - tp b N k) (tp b N k) (by omega)
  obtain ⟨s', g1, g2, g3, g4, g5, g6⟩ := adv52 (hT.r (f0.trans e2)) hc s2 e3 s3
  refine ⟨s', ?_, f0.trans (e2.trans g2), g3, g4, g5, g6⟩
  unfold f_X7_advance
  rw [obs, h7, e1, g1]
