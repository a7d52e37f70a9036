/-! keptOf: the LINE RULE of the class -/
section Kept
variable {W H C l n R : Nat} {len col mk : Nat → Nat} {x : Int64}
theorem canM_bits {y : Int32} {v : Nat} (hv : v < 4) (hn : n ≤ 12) (hx : ∀ i, i < 64 → jb x i = wbit mk n i) (hy : ∀ i, bt y i = (decide (i < 12) && jb x (12 * v + i))) (c : Nat) : bt y c = canM n mk c v := by
  rw [hy c]
  by_cases h : c < 12
  · rw [hx _ (by omega)]
    unfold wbit canM
    rw [show (12 * v + c) % 12 = c by omega, show (12 * v + c) / 12 = v by omega]
    simp [h]
  · have : ¬ c < n := by omega
    simp [h, canM, this]
theorem canM_n {c v : Nat} (h : canM n mk c v = true) : c < n := by
  unfold canM at h
  simp only [Bool.and_eq_true, decide_eq_true_eq] at h
  exact h.1.1
theorem Bp_le {k i : Nat} (hlen : ∀ k, k < R → 1 ≤ len k) (hk : k ≤ R) (h : Bp len col (canM n mk) k i) : i ≤ n := by
  obtain ⟨e, e1, e2, e3⟩ := (Bp_En k i).mp h
  have hen : e ≤ n := by
    cases k with
    | zero =>
      have : e = 0 := e2
      omega
    | succ k =>
      obtain ⟨a, q1, q2⟩ := e2
      have := hlen k (by omega)
      have := canM_n (q1.2 (a + len k - 1) (by omega) (by omega))
      omega
  by_cases z : e = i
  · omega
  · have := canM_n (e3 (i - 1) (by omega) (by omega))
    omega
theorem Sp_le {k a : Nat} (hlen : ∀ k, k < R → 1 ≤ len k) (hk : k < R) (h : Sp len col (canM n mk) k a) : a + len k ≤ n := by
  have := hlen k hk
  have := canM_n (h.2 (a + len k - 1) (by omega) (by omega))
  omega
/-- the rows before and starts up to k -/
def fwd (n R : Nat) (len col mk : Nat → Nat) (s : St) (k : Nat) : Prop := (∀ j, j ≤ k → ∀ i, i < 32 → (bt (s.1 17 j) i = true ↔ Bp len col (canM n mk) j i)) ∧ ∀ j, j < k → ∀ a, a < 32 → (bt (s.1 18 j) a = true ↔ Sp len col (canM n mk) j a)
theorem kept43 {y : Int32} (hx : ∀ i, i < 64 → jb x i = wbit mk n i) (hy : ∀ c, bt y c = canM n mk c 0) : ∀ (m k fu : Nat) (s : St), Kc s W H C l n R len col → R - k = m → k ≤ R → m < fu → fwd n R len col mk s k → ∃ s' fu', f_X3_keptOf_43 fu (nI l) x (nI n) (nI R) y (nI k) s = f_X3_keptOf_43 (fu' + 1) (nI l) x (nI n) (nI R) y (nI R) s' ∧ KFr s s' ∧ fwd n R len col mk s' R := by
  intro m
  induction m with
  | zero =>
    intro k fu s hK h1 h2 h3 h4
    obtain ⟨fu, rfl⟩ : ∃ z, fu = z + 1 := ⟨fu - 1, by omega⟩
    obtain rfl : k = R := by omega
    exact ⟨s, fu, rfl, KFr.rfl', h4⟩
  | succ m ih =>
    intro k fu s hK h1 h2 h3 h4
    obtain ⟨fu, rfl⟩ : ∃ z, fu = z + 1 := ⟨fu - 1, by omega⟩
    have hn := hK.le12
    have hK' := hK
    obtain ⟨hz, hl, hnn, hR, k4, k5⟩ := hK'
    have hk : k < R := by omega
    obtain ⟨q1, q2, q3, q4⟩ := k5 k hk
    have hlen : ∀ k, k < R → 1 ≤ len k := fun k hk => (k5 k hk).1.1
    have hy12 : ∀ i, 12 ≤ i → bt y i = false := fun i hi => by
      rw [hy i]
      have : ¬ i < n := by omega
      simp [canM, this]
    have go : ∀ t0 : Int32, (∀ a, a < 32 → (bt t0 a = true ↔ (if gapR col k = 1 then 1 ≤ a ∧ Bp len col (canM n mk) k (a - 1) ∧ canM n mk (a - 1) 0 = true else Bp len col (canM n mk) k a))) → ∃ s' fu', f_X3_keptOf_97 (f_X3_keptOf_43 fu) (nI l) x (nI n) (nI R) y (nI k) (nI (len k)) t0 s = f_X3_keptOf_43 (fu' + 1) (nI l) x (nI n) (nI R) y (nI R) s' ∧ KFr s s' ∧ fwd n R len col mk s' R := by
      intro t0 ht0
      obtain ⟨y1, e1, e2⟩ := cellsW (x := x) (v := col k) (s := s) (by omega)
      obtain ⟨y2, e3, e4⟩ := stretch (x := y1) (z := len k) (s := s) q1.1 q1.2
      have hst : ∀ a, a < 32 → (bt (t0 &&& y2) a = true ↔ Sp len col (canM n mk) k a) := by
        intro a ha
        rw [b_and, Bool.and_eq_true, ht0 a ha, e4 a]
        constructor
        · rintro ⟨w1, w2⟩
          exact ⟨w1, fun c c1 c2 => by rw [← canM_bits (by omega) hn.2.1 hx e2 c]; exact w2 c c1 c2⟩
        · rintro ⟨w1, w2⟩
          exact ⟨w1, fun c c1 c2 => by rw [canM_bits (by omega) hn.2.1 hx e2 c]; exact w2 c c1 c2⟩
      obtain ⟨y3, e5, e6⟩ := spUp (x := (t0 &&& y2) <<< (nI (len k) &&& 31)) (y := y) (s := sF s 18 k (t0 &&& y2)) hy12
      unfold f_X3_keptOf_97
      rw [colourOf0 rfl rfl rfl (by omega), obs, show rf 3 2 = 6 from rfl, q4]
      show ∃ s' fu', Option.bind (f_X3_cellsWith x (nI (col k)) s) _ = _ ∧ _
      rw [e1, obs]
      show ∃ s' fu', Option.bind (f_X3_stretches y1 (nI (len k)) s) _ = _ ∧ _
      rw [e3, obs]
      show ∃ s' fu', Option.bind (pI s 18 (nI k) (t0 &&& y2)) _ = _ ∧ _
      rw [pI_nI rfl (by show k < 12; omega) (by decide), obs, aI_nI rfl (by show k < 12; omega) (by decide), obs, sF_at, e5, obs]
      show ∃ s' fu', Option.bind (pI (sF s 18 k (t0 &&& y2)) 17 (nI k + 1) y3) _ = _ ∧ _
      rw [nI_1, pI_nI rfl (by show k + 1 < 13; omega) (by decide), obs]
      have fr : KFr s (sF (sF s 18 k (t0 &&& y2)) 17 (k + 1) y3) := KFr.s18.trans KFr.s17
      have inv : fwd n R len col mk (sF (sF s 18 k (t0 &&& y2)) 17 (k + 1) y3) (k + 1) := by
       refine ⟨fun j hj i hi => ?_, fun j hj a ha => ?_⟩
       · by_cases e : j = k + 1
         · subst e
           rw [sF_at, e6 i hi]
           constructor
           · rintro ⟨b, b1, b2, b3⟩
             have hb : len k ≤ b := by
               rw [b_shl (len k) (by omega) _ (by omega), Bool.and_eq_true, decide_eq_true_eq] at b2
               exact b2.1
             rw [b_shl (len k) (by omega) _ (by omega), Bool.and_eq_true] at b2
             refine ⟨b - len k, (hst _ (by omega)).mp b2.2, by omega, fun c c1 c2 => ?_⟩
             rw [← hy c]
             exact b3 c (by omega) c2
           · rintro ⟨a, a1, a2, a3⟩
             refine ⟨a + len k, a2, ?_, fun c c1 c2 => by rw [hy c]; exact a3 c c1 c2⟩
             rw [b_shl (len k) (by omega) _ (by omega), Bool.and_eq_true, decide_eq_true_eq, show a + len k - len k = a by omega]
             exact ⟨by omega, (hst a (by omega)).mpr a1⟩
         · rw [sF_nj e, sF_ne (by decide)]
           exact h4.1 j (by omega) i hi
       · rw [sF_ne (by decide)]
         by_cases e : j = k
         · subst e
           rw [sF_at]
           exact hst a ha
         · rw [sF_nj e]
           exact h4.2 j (by omega) a ha
      obtain ⟨s', fu', f1, f2, f3⟩ := ih (k + 1) fu (sF (sF s 18 k (t0 &&& y2)) 17 (k + 1) y3) (hK.fr fr) (by omega) (by omega) (by omega) inv
      exact ⟨s', fu', f1, fr.trans f2, f3⟩
    rw [f_X3_keptOf_43, if_neg (nI_ge hk (by omega)), lengthOf0 rfl rfl rfl (by omega), obs, show rf 3 1 = 5 from rfl, q3]
    show ∃ s' fu', Option.bind (f_X0_needsGapAhead 3 (nI l) (nI k) s) _ = _ ∧ _
    rw [gap0 hK h2, obs]
    by_cases g : gapR col k = 1
    · have gg : k < R ∧ gapR col k = 1 := ⟨hk, g⟩
      rw [if_pos gg, if_neg nz]
      show ∃ s' fu', Option.bind (aI s 17 (nI k)) _ = _ ∧ _
      rw [aI_nI rfl (by show k < 13; omega) (by decide), obs]
      refine go _ (fun a ha => ?_)
      rw [if_pos g, show ((1 : Int32) &&& 31) = (nI 1 &&& 31) from rfl, b_shl 1 (by omega) _ ha, b_and, Bool.and_eq_true, Bool.and_eq_true, decide_eq_true_eq, h4.1 k (Nat.le_refl _) (a - 1) (by omega), hy]
    · have gg : ¬ (k < R ∧ gapR col k = 1) := fun q => g q.2
      rw [if_neg gg, if_pos rfl]
      show ∃ s' fu', Option.bind (aI s 17 (nI k)) _ = _ ∧ _
      rw [aI_nI rfl (by show k < 13; omega) (by decide), obs]
      refine go _ (fun a ha => ?_)
      rw [if_neg g]
      exact h4.1 k (Nat.le_refl _) a ha
/-- the word 'after' behind the runs from k on -/
def Aft (n R : Nat) (len col mk : Nat → Nat) (k : Nat) (y : Int32) : Prop := (∀ i, 13 ≤ i → bt y i = false) ∧ (∀ e, e ≤ n → En len col (canM n mk) k e → ((if k < R ∧ gapR col k = 1 then canM n mk e 0 = true ∧ bt y (e + 1) = true else bt y e = true) ↔ Tq n R len col (canM n mk) k e)) ∧ ∀ c, c < n → Bp len col (canM n mk) k c → canM n mk c 0 = true → (bt y (c + 1) = true ↔ Tn n R len col (canM n mk) k (c + 1))
def kBl (n R : Nat) (len col mk : Nat → Nat) (k c : Nat) : Prop := ∃ j, k ≤ j ∧ j ≤ R ∧ Bp len col (canM n mk) j c ∧ canM n mk c 0 = true ∧ Tn n R len col (canM n mk) j (c + 1)
def kCo (n R : Nat) (len col mk : Nat → Nat) (k v c : Nat) : Prop := ∃ j, k ≤ j ∧ j < R ∧ col j = v ∧ ∃ a, Sp len col (canM n mk) j a ∧ a ≤ c ∧ c < a + len j ∧ Tq n R len col (canM n mk) (j + 1) (a + len j)
def kpt (n R : Nat) (len col mk : Nat → Nat) (k : Nat) (kp : Int64) : Prop := ∀ i, i < 64 → (jb kp i = true ↔ (i < 48 ∧ ((i / 12 = 0 ∧ kBl n R len col mk k (i % 12)) ∨ (1 ≤ i / 12 ∧ kCo n R len col mk k (i / 12) (i % 12)))))
theorem Aft_R {y z : Int32} (hn : n ≤ 12) (hy : ∀ c, bt y c = canM n mk c 0) (hz : ∀ i, (bt z i = true ↔ dnP (bt ((1 : Int32) <<< (nI n &&& 31))) (bt y) i)) : Aft n R len col mk R z := by
  have h1 : ∀ j, bt ((1 : Int32) <<< (nI n &&& 31)) j = decide (j = n) := by
    intro j
    rcases Nat.lt_or_ge j 32 with h | h
    · rw [b_shl n (by omega) _ h, b_1]
      by_cases e : j = n
      · simp [e]
      · by_cases e2 : n ≤ j
        · have : ¬ j - n = 0 := by omega
          simp [e, this]
        · simp [e, e2]
    · rw [b_big h, decide_eq_false (by omega)]
  have key : ∀ i, bt z i = true ↔ (i ≤ n ∧ blk (canM n mk) i n) := by
    intro i
    rw [hz i]
    constructor
    · rintro ⟨j, q1, q2, q3⟩
      rw [h1, decide_eq_true_eq] at q2
      subst q2
      exact ⟨q1, fun c c1 c2 => by rw [← hy c]; exact q3 c c1 c2⟩
    · rintro ⟨q1, q2⟩
      exact ⟨n, q1, by rw [h1]; simp, fun c c1 c2 => by rw [hy c]; exact q2 c c1 c2⟩
  refine ⟨fun i hi => ?_, fun e he hE => ?_, fun c hc hB hb => ?_⟩
  · cases hb : bt z i
    · rfl
    · have := (key i).mp hb
      omega
  · rw [if_neg (fun q => by omega), key e]
    unfold Tq
    rw [Nat.sub_self]
    exact ⟨fun q => ⟨_, mem_wys0.mpr ⟨q.2, rfl⟩⟩, fun ⟨w, q⟩ => ⟨he, (mem_wys0.mp q).1⟩⟩
  · rw [key (c + 1)]
    exact ⟨fun q => Or.inl ⟨rfl, q.2⟩, fun q => ⟨by omega, by rcases q with q | q; exact q.2; omega⟩⟩
theorem Aft_step {k : Nat} {y x2 z : Int32} (hk : k < R) (hn : n ≤ 12) (hl : ∀ k, k < R → len k ≤ 12) (hlen : ∀ k, k < R → 1 ≤ len k) (hy : ∀ c, bt y c = canM n mk c 0) (hx2 : ∀ a, bt x2 a = true ↔ (Sp len col (canM n mk) k a ∧ Tq n R len col (canM n mk) (k + 1) (a + len k))) (hz : ∀ i, (bt z i = true ↔ dnP (bt x2) (bt y) i)) : Aft n R len col mk k z := by
  have key : ∀ i, bt z i = true ↔ ∃ a, i ≤ a ∧ Sp len col (canM n mk) k a ∧ Tq n R len col (canM n mk) (k + 1) (a + len k) ∧ blk (canM n mk) i a := by
    intro i
    rw [hz i]
    constructor
    · rintro ⟨a, q1, q2, q3⟩
      obtain ⟨w1, w2⟩ := (hx2 a).mp q2
      exact ⟨a, q1, w1, w2, fun c c1 c2 => by rw [← hy c]; exact q3 c c1 c2⟩
    · rintro ⟨a, q1, w1, w2, q3⟩
      exact ⟨a, q1, (hx2 a).mpr ⟨w1, w2⟩, fun c c1 c2 => by rw [hy c]; exact q3 c c1 c2⟩
  have hR : R - k = (R - (k + 1)) + 1 := by omega
  have hl1 := hlen k hk
  refine ⟨fun i hi => ?_, fun e he hE => ?_, fun c hc hB hb => ?_⟩
  · cases hb : bt z i
    · rfl
    · obtain ⟨a, q1, q2, -⟩ := (key i).mp hb
      have := Sp_le hlen hk q2
      omega
  · unfold Tq
    rw [hR]
    simp only [mem_wysS (r := k) (show R - (R - (k + 1) + 1) = k by omega) (hl k hk)]
    by_cases g : gapR col k = 1
    · rw [if_pos ⟨hk, g⟩, key (e + 1)]
      constructor
      · rintro ⟨q0, a, q1, q2, ⟨w', q3⟩, q4⟩
        exact ⟨_, a, by omega, Sp_le hlen hk q2, fun c c1 c2 => by
          by_cases z1 : c = e
          · rw [z1]; exact q0
          · exact q4 c (by omega) c2, Or.inr (by omega), q2.2, w', q3, rfl⟩
      · rintro ⟨w, b, q1, q2, q3, q4, q5, w', q6, q7⟩
        have : e < b := by omega
        exact ⟨q3 e (Nat.le_refl _) this, b, by omega, Sp_of hE q1 q3 q4 q5, ⟨w', q6⟩, fun c c1 c2 => q3 c (by omega) c2⟩
    · rw [if_neg (fun q => g q.2), key e]
      have g0 := (gap01 (col := col) k).resolve_right g
      constructor
      · rintro ⟨a, q1, q2, ⟨w', q3⟩, q4⟩
        exact ⟨_, a, q1, Sp_le hlen hk q2, q4, Or.inl g0, q2.2, w', q3, rfl⟩
      · rintro ⟨w, b, q1, q2, q3, q4, q5, w', q6, q7⟩
        exact ⟨b, q1, Sp_of hE q1 q3 q4 q5, ⟨w', q6⟩, q3⟩
  · rw [key (c + 1)]
    constructor
    · rintro ⟨a, q1, q2, q3, q4⟩
      exact Or.inr ⟨hk, a, q1, Sp_le hlen hk q2, q4, q2.2, q3⟩
    · intro q
      rcases q with ⟨q, -⟩ | ⟨-, b, q1, q2, q3, q4, q5⟩
      · omega
      · obtain ⟨e, e1, e2, e3⟩ := (Bp_En k c).mp hB
        refine ⟨b, q1, Sp_of e2 (by omega) (fun x x1 x2 => ?_) (Or.inr (by omega)) q4, q5, q3⟩
        by_cases z1 : x < c
        · exact e3 x x1 z1
        · by_cases z2 : x = c
          · rw [z2]; exact hb
          · exact q3 x (by omega) x2
end Kept
