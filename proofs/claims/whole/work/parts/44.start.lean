/-! THE START: from the law's entry to its loop (written with wip/gen/start.py's help) -/
def st0F (k j : Nat) : Int32 := if k = 13 ∨ k = 15 ∨ k = 35 ∨ k = 37 ∨ k = 40 ∨ k = 42 then -1 else if (k = 33 ∨ k = 38) ∧ j = 3 then -1 else if k = 43 ∧ j = 12 then -1 else 0
def st0 : St := (st0F, fun _ _ => 0, none)
def adL (q0 m0 b : Nat) (f h : Nat → Nat) (i : Nat) : Nat := ([q0, f 0, f 1, f 2, f 3, f 4, f 5, f 6, f 7, f 8, f 9, f 10, f 11, f 12, f 13, f 14, f 15, f 16, f 17, f 18, f 19, f 20, f 21, f 22, f 23, f 24, f 25, f 26, f 27, f 28, f 29, f 30, f 31, f 32, f 33, f 34, f 35, f 36, f 37, f 38, f 39, f 40, f 41, m0, h 0, h 1, h 2, h 3, h 4, h 5, h 6, h 7, h 8, h 9, h 10, h 11, h 12, h 13, h 14, h 15, h 16, h 17, h 18, h 19, h 20, h 21, b]).getD i 0
def caL (c : C3) (k : Nat) : ClassId := match arT k with
  | 1 => c.1
  | 2 => c.2.1
  | _ => c.2.2
def mapI {α β : Type} (f : Nat → α → β) : Nat → List α → List β
  | _, [] => []
  | i, a :: l => f i a :: mapI f (i + 1) l
theorem mapI_get {α β : Type} (f : Nat → α → β) (l : List α) : ∀ (k i : Nat), (mapI f k l)[i]? = (l[i]?).map (f (k + i)) := by
  induction l with
  | nil => intro k i; rfl
  | cons a l ih =>
    intro k i
    cases i with
    | zero => rfl
    | succ i =>
      show (mapI f (k + 1) l)[i]? = (l[i]?).map (f (k + (i + 1)))
      rw [ih, show k + 1 + i = k + (i + 1) by omega]
theorem mapIdx_eq {α β : Type} (f : Nat → α → β) (l : List α) : l.mapIdx f = mapI f 0 l := by
  apply List.ext_getElem?
  intro i
  rw [List.getElem?_mapIdx, mapI_get, Nat.zero_add]
section St0
variable (c : C3) (q0 m0 b : Nat) (f h : Nat → Nat)
set_option maxRecDepth 100000 in
theorem ws0_0 : (wld (adL q0 m0 b f h) (caL c) st0)[0]? = (post_X8_init c q0 f ++ post_X9_init c m0 h)[0]? := by
  rw [wld_get (s := (0, 8, [4, 6, 10, 14, 15, 17, 19, 24, 32, 34, 36, 41, 0, 0])) rfl]
  show some (_, Sum.inr (_, List.mapIdx _ _)) = _
  rw [mapIdx_eq]
  rfl
set_option maxRecDepth 100000 in
theorem ws0_1 : (wld (adL q0 m0 b f h) (caL c) st0)[1]? = (post_X8_init c q0 f ++ post_X9_init c m0 h)[1]? := by
  rw [wld_get (s := (0, 6, [5, 0])) rfl]
  show some (_, Sum.inr (_, List.mapIdx _ _)) = _
  rw [mapIdx_eq]
  rfl
set_option maxRecDepth 100000 in
theorem ws0_2 : (wld (adL q0 m0 b f h) (caL c) st0)[2]? = (post_X8_init c q0 f ++ post_X9_init c m0 h)[2]? := by
  rw [wld_get (s := (2, 900, [])) rfl]
  rfl
set_option maxRecDepth 100000 in
theorem ws0_3 : (wld (adL q0 m0 b f h) (caL c) st0)[3]? = (post_X8_init c q0 f ++ post_X9_init c m0 h)[3]? := by
  rw [wld_get (s := (0, 0, [7, 8, 9, 0, 0, 0, 0])) rfl]
  show some (_, Sum.inr (_, List.mapIdx _ _)) = _
  rw [mapIdx_eq]
  rfl
set_option maxRecDepth 100000 in
theorem ws0_4 : (wld (adL q0 m0 b f h) (caL c) st0)[4]? = (post_X8_init c q0 f ++ post_X9_init c m0 h)[4]? := by
  rw [wld_get (s := (1, 24, [])) rfl]
  rfl
set_option maxRecDepth 100000 in
theorem ws0_5 : (wld (adL q0 m0 b f h) (caL c) st0)[5]? = (post_X8_init c q0 f ++ post_X9_init c m0 h)[5]? := by
  rw [wld_get (s := (1, 288, [])) rfl]
  rfl
set_option maxRecDepth 100000 in
theorem ws0_6 : (wld (adL q0 m0 b f h) (caL c) st0)[6]? = (post_X8_init c q0 f ++ post_X9_init c m0 h)[6]? := by
  rw [wld_get (s := (1, 288, [])) rfl]
  rfl
set_option maxRecDepth 100000 in
theorem ws0_7 : (wld (adL q0 m0 b f h) (caL c) st0)[7]? = (post_X8_init c q0 f ++ post_X9_init c m0 h)[7]? := by
  rw [wld_get (s := (0, 0, [11, 12, 13, 0, 0, 0, 0])) rfl]
  show some (_, Sum.inr (_, List.mapIdx _ _)) = _
  rw [mapIdx_eq]
  rfl
set_option maxRecDepth 100000 in
theorem ws0_8 : (wld (adL q0 m0 b f h) (caL c) st0)[8]? = (post_X8_init c q0 f ++ post_X9_init c m0 h)[8]? := by
  rw [wld_get (s := (1, 24, [])) rfl]
  rfl
set_option maxRecDepth 100000 in
theorem ws0_9 : (wld (adL q0 m0 b f h) (caL c) st0)[9]? = (post_X8_init c q0 f ++ post_X9_init c m0 h)[9]? := by
  rw [wld_get (s := (1, 288, [])) rfl]
  rfl
set_option maxRecDepth 100000 in
theorem ws0_10 : (wld (adL q0 m0 b f h) (caL c) st0)[10]? = (post_X8_init c q0 f ++ post_X9_init c m0 h)[10]? := by
  rw [wld_get (s := (1, 288, [])) rfl]
  rfl
set_option maxRecDepth 100000 in
theorem ws0_11 : (wld (adL q0 m0 b f h) (caL c) st0)[11]? = (post_X8_init c q0 f ++ post_X9_init c m0 h)[11]? := by
  rw [wld_get (s := (0, 7, [4, 10, 0, 0, 0, 0, 0, 0])) rfl]
  show some (_, Sum.inr (_, List.mapIdx _ _)) = _
  rw [mapIdx_eq]
  rfl
set_option maxRecDepth 100000 in
theorem ws0_12 : (wld (adL q0 m0 b f h) (caL c) st0)[12]? = (post_X8_init c q0 f ++ post_X9_init c m0 h)[12]? := by
  rw [wld_get (s := (0, 2, [16, 0])) rfl]
  show some (_, Sum.inr (_, List.mapIdx _ _)) = _
  rw [mapIdx_eq]
  rfl
set_option maxRecDepth 100000 in
theorem ws0_13 : (wld (adL q0 m0 b f h) (caL c) st0)[13]? = (post_X8_init c q0 f ++ post_X9_init c m0 h)[13]? := by
  rw [wld_get (s := (1, 144, [])) rfl]
  rfl
set_option maxRecDepth 100000 in
theorem ws0_14 : (wld (adL q0 m0 b f h) (caL c) st0)[14]? = (post_X8_init c q0 f ++ post_X9_init c m0 h)[14]? := by
  rw [wld_get (s := (0, 2, [18, 0])) rfl]
  show some (_, Sum.inr (_, List.mapIdx _ _)) = _
  rw [mapIdx_eq]
  rfl
set_option maxRecDepth 100000 in
theorem ws0_15 : (wld (adL q0 m0 b f h) (caL c) st0)[15]? = (post_X8_init c q0 f ++ post_X9_init c m0 h)[15]? := by
  rw [wld_get (s := (1, 144, [])) rfl]
  rfl
set_option maxRecDepth 100000 in
theorem ws0_16 : (wld (adL q0 m0 b f h) (caL c) st0)[16]? = (post_X8_init c q0 f ++ post_X9_init c m0 h)[16]? := by
  rw [wld_get (s := (0, 3, [6, 20, 21, 22, 23])) rfl]
  show some (_, Sum.inr (_, List.mapIdx _ _)) = _
  rw [mapIdx_eq]
  rfl
set_option maxRecDepth 100000 in
theorem ws0_17 : (wld (adL q0 m0 b f h) (caL c) st0)[17]? = (post_X8_init c q0 f ++ post_X9_init c m0 h)[17]? := by
  rw [wld_get (s := (1, 13, [])) rfl]
  rfl
set_option maxRecDepth 100000 in
theorem ws0_18 : (wld (adL q0 m0 b f h) (caL c) st0)[18]? = (post_X8_init c q0 f ++ post_X9_init c m0 h)[18]? := by
  rw [wld_get (s := (1, 12, [])) rfl]
  rfl
set_option maxRecDepth 100000 in
theorem ws0_19 : (wld (adL q0 m0 b f h) (caL c) st0)[19]? = (post_X8_init c q0 f ++ post_X9_init c m0 h)[19]? := by
  rw [wld_get (s := (3, 13, [])) rfl]
  rfl
set_option maxRecDepth 100000 in
theorem ws0_20 : (wld (adL q0 m0 b f h) (caL c) st0)[20]? = (post_X8_init c q0 f ++ post_X9_init c m0 h)[20]? := by
  rw [wld_get (s := (3, 13, [])) rfl]
  rfl
set_option maxRecDepth 100000 in
theorem ws0_21 : (wld (adL q0 m0 b f h) (caL c) st0)[21]? = (post_X8_init c q0 f ++ post_X9_init c m0 h)[21]? := by
  rw [wld_get (s := (0, 5, [6, 19, 28, 30, 25, 26, 27, 0])) rfl]
  show some (_, Sum.inr (_, List.mapIdx _ _)) = _
  rw [mapIdx_eq]
  rfl
set_option maxRecDepth 100000 in
theorem ws0_22 : (wld (adL q0 m0 b f h) (caL c) st0)[22]? = (post_X8_init c q0 f ++ post_X9_init c m0 h)[22]? := by
  rw [wld_get (s := (3, 3456, [])) rfl]
  rfl
set_option maxRecDepth 100000 in
theorem ws0_23 : (wld (adL q0 m0 b f h) (caL c) st0)[23]? = (post_X8_init c q0 f ++ post_X9_init c m0 h)[23]? := by
  rw [wld_get (s := (1, 144, [])) rfl]
  rfl
set_option maxRecDepth 100000 in
theorem ws0_24 : (wld (adL q0 m0 b f h) (caL c) st0)[24]? = (post_X8_init c q0 f ++ post_X9_init c m0 h)[24]? := by
  rw [wld_get (s := (1, 144, [])) rfl]
  rfl
set_option maxRecDepth 100000 in
theorem ws0_25 : (wld (adL q0 m0 b f h) (caL c) st0)[25]? = (post_X8_init c q0 f ++ post_X9_init c m0 h)[25]? := by
  rw [wld_get (s := (0, 4, [6, 29])) rfl]
  show some (_, Sum.inr (_, List.mapIdx _ _)) = _
  rw [mapIdx_eq]
  rfl
set_option maxRecDepth 100000 in
theorem ws0_26 : (wld (adL q0 m0 b f h) (caL c) st0)[26]? = (post_X8_init c q0 f ++ post_X9_init c m0 h)[26]? := by
  rw [wld_get (s := (3, 24, [])) rfl]
  rfl
set_option maxRecDepth 100000 in
theorem ws0_27 : (wld (adL q0 m0 b f h) (caL c) st0)[27]? = (post_X8_init c q0 f ++ post_X9_init c m0 h)[27]? := by
  rw [wld_get (s := (0, 4, [6, 31])) rfl]
  show some (_, Sum.inr (_, List.mapIdx _ _)) = _
  rw [mapIdx_eq]
  rfl
set_option maxRecDepth 100000 in
theorem ws0_28 : (wld (adL q0 m0 b f h) (caL c) st0)[28]? = (post_X8_init c q0 f ++ post_X9_init c m0 h)[28]? := by
  rw [wld_get (s := (3, 24, [])) rfl]
  rfl
set_option maxRecDepth 100000 in
theorem ws0_29 : (wld (adL q0 m0 b f h) (caL c) st0)[29]? = (post_X8_init c q0 f ++ post_X9_init c m0 h)[29]? := by
  rw [wld_get (s := (0, 4, [6, 33])) rfl]
  show some (_, Sum.inr (_, List.mapIdx _ _)) = _
  rw [mapIdx_eq]
  rfl
set_option maxRecDepth 100000 in
theorem ws0_30 : (wld (adL q0 m0 b f h) (caL c) st0)[30]? = (post_X8_init c q0 f ++ post_X9_init c m0 h)[30]? := by
  rw [wld_get (s := (3, 24, [])) rfl]
  rfl
set_option maxRecDepth 100000 in
theorem ws0_31 : (wld (adL q0 m0 b f h) (caL c) st0)[31]? = (post_X8_init c q0 f ++ post_X9_init c m0 h)[31]? := by
  rw [wld_get (s := (0, 4, [6, 35])) rfl]
  show some (_, Sum.inr (_, List.mapIdx _ _)) = _
  rw [mapIdx_eq]
  rfl
set_option maxRecDepth 100000 in
theorem ws0_32 : (wld (adL q0 m0 b f h) (caL c) st0)[32]? = (post_X8_init c q0 f ++ post_X9_init c m0 h)[32]? := by
  rw [wld_get (s := (3, 24, [])) rfl]
  rfl
set_option maxRecDepth 100000 in
theorem ws0_33 : (wld (adL q0 m0 b f h) (caL c) st0)[33]? = (post_X8_init c q0 f ++ post_X9_init c m0 h)[33]? := by
  rw [wld_get (s := (0, 1, [37, 39, 0, 0, 0])) rfl]
  show some (_, Sum.inr (_, List.mapIdx _ _)) = _
  rw [mapIdx_eq]
  rfl
set_option maxRecDepth 100000 in
theorem ws0_34 : (wld (adL q0 m0 b f h) (caL c) st0)[34]? = (post_X8_init c q0 f ++ post_X9_init c m0 h)[34]? := by
  rw [wld_get (s := (0, 2, [38, 0])) rfl]
  show some (_, Sum.inr (_, List.mapIdx _ _)) = _
  rw [mapIdx_eq]
  rfl
set_option maxRecDepth 100000 in
theorem ws0_35 : (wld (adL q0 m0 b f h) (caL c) st0)[35]? = (post_X8_init c q0 f ++ post_X9_init c m0 h)[35]? := by
  rw [wld_get (s := (1, 144, [])) rfl]
  rfl
set_option maxRecDepth 100000 in
theorem ws0_36 : (wld (adL q0 m0 b f h) (caL c) st0)[36]? = (post_X8_init c q0 f ++ post_X9_init c m0 h)[36]? := by
  rw [wld_get (s := (0, 2, [40, 0])) rfl]
  show some (_, Sum.inr (_, List.mapIdx _ _)) = _
  rw [mapIdx_eq]
  rfl
set_option maxRecDepth 100000 in
theorem ws0_37 : (wld (adL q0 m0 b f h) (caL c) st0)[37]? = (post_X8_init c q0 f ++ post_X9_init c m0 h)[37]? := by
  rw [wld_get (s := (1, 144, [])) rfl]
  rfl
set_option maxRecDepth 100000 in
theorem ws0_38 : (wld (adL q0 m0 b f h) (caL c) st0)[38]? = (post_X8_init c q0 f ++ post_X9_init c m0 h)[38]? := by
  rw [wld_get (s := (0, 1, [42, 44, 0, 0, 0])) rfl]
  show some (_, Sum.inr (_, List.mapIdx _ _)) = _
  rw [mapIdx_eq]
  rfl
set_option maxRecDepth 100000 in
theorem ws0_39 : (wld (adL q0 m0 b f h) (caL c) st0)[39]? = (post_X8_init c q0 f ++ post_X9_init c m0 h)[39]? := by
  rw [wld_get (s := (0, 2, [43, 0])) rfl]
  show some (_, Sum.inr (_, List.mapIdx _ _)) = _
  rw [mapIdx_eq]
  rfl
set_option maxRecDepth 100000 in
theorem ws0_40 : (wld (adL q0 m0 b f h) (caL c) st0)[40]? = (post_X8_init c q0 f ++ post_X9_init c m0 h)[40]? := by
  rw [wld_get (s := (1, 144, [])) rfl]
  rfl
set_option maxRecDepth 100000 in
theorem ws0_41 : (wld (adL q0 m0 b f h) (caL c) st0)[41]? = (post_X8_init c q0 f ++ post_X9_init c m0 h)[41]? := by
  rw [wld_get (s := (0, 2, [45, 0])) rfl]
  show some (_, Sum.inr (_, List.mapIdx _ _)) = _
  rw [mapIdx_eq]
  rfl
set_option maxRecDepth 100000 in
theorem ws0_42 : (wld (adL q0 m0 b f h) (caL c) st0)[42]? = (post_X8_init c q0 f ++ post_X9_init c m0 h)[42]? := by
  rw [wld_get (s := (1, 144, [])) rfl]
  rfl
set_option maxRecDepth 100000 in
theorem ws0_43 : (wld (adL q0 m0 b f h) (caL c) st0)[43]? = (post_X8_init c q0 f ++ post_X9_init c m0 h)[43]? := by
  rw [wld_get (s := (0, 9, [0, 0, 0, 0, 47, 48, 49, 50, 51, 52, 0, 0, 0, 0, 53, 54, 0, 0, 0, 0, 55, 56, 57, 0, 0, 0, 0, 0, 58, 59, 60, 2, 0, 0, 61, 62, 1, 0, 63, 0, 64, 0, 0, 0, 0, 0, 65, 66, 67, 68])) rfl]
  show some (_, Sum.inr (_, List.mapIdx _ _)) = _
  rw [mapIdx_eq]
  rfl
set_option maxRecDepth 100000 in
theorem ws0_44 : (wld (adL q0 m0 b f h) (caL c) st0)[44]? = (post_X8_init c q0 f ++ post_X9_init c m0 h)[44]? := by
  rw [wld_get (s := (1, 24, [])) rfl]
  rfl
set_option maxRecDepth 100000 in
theorem ws0_45 : (wld (adL q0 m0 b f h) (caL c) st0)[45]? = (post_X8_init c q0 f ++ post_X9_init c m0 h)[45]? := by
  rw [wld_get (s := (1, 288, [])) rfl]
  rfl
set_option maxRecDepth 100000 in
theorem ws0_46 : (wld (adL q0 m0 b f h) (caL c) st0)[46]? = (post_X8_init c q0 f ++ post_X9_init c m0 h)[46]? := by
  rw [wld_get (s := (1, 288, [])) rfl]
  rfl
set_option maxRecDepth 100000 in
theorem ws0_47 : (wld (adL q0 m0 b f h) (caL c) st0)[47]? = (post_X8_init c q0 f ++ post_X9_init c m0 h)[47]? := by
  rw [wld_get (s := (1, 144, [])) rfl]
  rfl
set_option maxRecDepth 100000 in
theorem ws0_48 : (wld (adL q0 m0 b f h) (caL c) st0)[48]? = (post_X8_init c q0 f ++ post_X9_init c m0 h)[48]? := by
  rw [wld_get (s := (1, 144, [])) rfl]
  rfl
set_option maxRecDepth 100000 in
theorem ws0_49 : (wld (adL q0 m0 b f h) (caL c) st0)[49]? = (post_X8_init c q0 f ++ post_X9_init c m0 h)[49]? := by
  rw [wld_get (s := (1, 144, [])) rfl]
  rfl
set_option maxRecDepth 100000 in
theorem ws0_50 : (wld (adL q0 m0 b f h) (caL c) st0)[50]? = (post_X8_init c q0 f ++ post_X9_init c m0 h)[50]? := by
  rw [wld_get (s := (1, 288, [])) rfl]
  rfl
set_option maxRecDepth 100000 in
theorem ws0_51 : (wld (adL q0 m0 b f h) (caL c) st0)[51]? = (post_X8_init c q0 f ++ post_X9_init c m0 h)[51]? := by
  rw [wld_get (s := (1, 900, [])) rfl]
  rfl
set_option maxRecDepth 100000 in
theorem ws0_52 : (wld (adL q0 m0 b f h) (caL c) st0)[52]? = (post_X8_init c q0 f ++ post_X9_init c m0 h)[52]? := by
  rw [wld_get (s := (1, 901, [])) rfl]
  rfl
set_option maxRecDepth 100000 in
theorem ws0_53 : (wld (adL q0 m0 b f h) (caL c) st0)[53]? = (post_X8_init c q0 f ++ post_X9_init c m0 h)[53]? := by
  rw [wld_get (s := (1, 901, [])) rfl]
  rfl
set_option maxRecDepth 100000 in
theorem ws0_54 : (wld (adL q0 m0 b f h) (caL c) st0)[54]? = (post_X8_init c q0 f ++ post_X9_init c m0 h)[54]? := by
  rw [wld_get (s := (1, 901, [])) rfl]
  rfl
set_option maxRecDepth 100000 in
theorem ws0_55 : (wld (adL q0 m0 b f h) (caL c) st0)[55]? = (post_X8_init c q0 f ++ post_X9_init c m0 h)[55]? := by
  rw [wld_get (s := (1, 24, [])) rfl]
  rfl
set_option maxRecDepth 100000 in
theorem ws0_56 : (wld (adL q0 m0 b f h) (caL c) st0)[56]? = (post_X8_init c q0 f ++ post_X9_init c m0 h)[56]? := by
  rw [wld_get (s := (1, 288, [])) rfl]
  rfl
set_option maxRecDepth 100000 in
theorem ws0_57 : (wld (adL q0 m0 b f h) (caL c) st0)[57]? = (post_X8_init c q0 f ++ post_X9_init c m0 h)[57]? := by
  rw [wld_get (s := (1, 288, [])) rfl]
  rfl
set_option maxRecDepth 100000 in
theorem ws0_58 : (wld (adL q0 m0 b f h) (caL c) st0)[58]? = (post_X8_init c q0 f ++ post_X9_init c m0 h)[58]? := by
  rw [wld_get (s := (1, 12, [])) rfl]
  rfl
set_option maxRecDepth 100000 in
theorem ws0_59 : (wld (adL q0 m0 b f h) (caL c) st0)[59]? = (post_X8_init c q0 f ++ post_X9_init c m0 h)[59]? := by
  rw [wld_get (s := (1, 12, [])) rfl]
  rfl
set_option maxRecDepth 100000 in
theorem ws0_60 : (wld (adL q0 m0 b f h) (caL c) st0)[60]? = (post_X8_init c q0 f ++ post_X9_init c m0 h)[60]? := by
  rw [wld_get (s := (1, 144, [])) rfl]
  rfl
set_option maxRecDepth 100000 in
theorem ws0_61 : (wld (adL q0 m0 b f h) (caL c) st0)[61]? = (post_X8_init c q0 f ++ post_X9_init c m0 h)[61]? := by
  rw [wld_get (s := (1, 21024, [])) rfl]
  rfl
set_option maxRecDepth 100000 in
theorem ws0_62 : (wld (adL q0 m0 b f h) (caL c) st0)[62]? = (post_X8_init c q0 f ++ post_X9_init c m0 h)[62]? := by
  rw [wld_get (s := (1, 288, [])) rfl]
  rfl
set_option maxRecDepth 100000 in
theorem ws0_63 : (wld (adL q0 m0 b f h) (caL c) st0)[63]? = (post_X8_init c q0 f ++ post_X9_init c m0 h)[63]? := by
  rw [wld_get (s := (1, 144, [])) rfl]
  rfl
set_option maxRecDepth 100000 in
theorem ws0_64 : (wld (adL q0 m0 b f h) (caL c) st0)[64]? = (post_X8_init c q0 f ++ post_X9_init c m0 h)[64]? := by
  rw [wld_get (s := (1, 12, [])) rfl]
  rfl
set_option maxRecDepth 100000 in
theorem ws0_65 : (wld (adL q0 m0 b f h) (caL c) st0)[65]? = (post_X8_init c q0 f ++ post_X9_init c m0 h)[65]? := by
  rw [wld_get (s := (1, 12, [])) rfl]
  rfl
set_option maxRecDepth 100000 in
theorem wld_st0 : post_X8_init c q0 f ++ post_X9_init c m0 h = wld (adL q0 m0 b f h) (caL c) st0 := by
  apply List.ext_getElem?
  intro i
  match i with
  | 0 => exact (ws0_0 c q0 m0 b f h).symm
  | 1 => exact (ws0_1 c q0 m0 b f h).symm
  | 2 => exact (ws0_2 c q0 m0 b f h).symm
  | 3 => exact (ws0_3 c q0 m0 b f h).symm
  | 4 => exact (ws0_4 c q0 m0 b f h).symm
  | 5 => exact (ws0_5 c q0 m0 b f h).symm
  | 6 => exact (ws0_6 c q0 m0 b f h).symm
  | 7 => exact (ws0_7 c q0 m0 b f h).symm
  | 8 => exact (ws0_8 c q0 m0 b f h).symm
  | 9 => exact (ws0_9 c q0 m0 b f h).symm
  | 10 => exact (ws0_10 c q0 m0 b f h).symm
  | 11 => exact (ws0_11 c q0 m0 b f h).symm
  | 12 => exact (ws0_12 c q0 m0 b f h).symm
  | 13 => exact (ws0_13 c q0 m0 b f h).symm
  | 14 => exact (ws0_14 c q0 m0 b f h).symm
  | 15 => exact (ws0_15 c q0 m0 b f h).symm
  | 16 => exact (ws0_16 c q0 m0 b f h).symm
  | 17 => exact (ws0_17 c q0 m0 b f h).symm
  | 18 => exact (ws0_18 c q0 m0 b f h).symm
  | 19 => exact (ws0_19 c q0 m0 b f h).symm
  | 20 => exact (ws0_20 c q0 m0 b f h).symm
  | 21 => exact (ws0_21 c q0 m0 b f h).symm
  | 22 => exact (ws0_22 c q0 m0 b f h).symm
  | 23 => exact (ws0_23 c q0 m0 b f h).symm
  | 24 => exact (ws0_24 c q0 m0 b f h).symm
  | 25 => exact (ws0_25 c q0 m0 b f h).symm
  | 26 => exact (ws0_26 c q0 m0 b f h).symm
  | 27 => exact (ws0_27 c q0 m0 b f h).symm
  | 28 => exact (ws0_28 c q0 m0 b f h).symm
  | 29 => exact (ws0_29 c q0 m0 b f h).symm
  | 30 => exact (ws0_30 c q0 m0 b f h).symm
  | 31 => exact (ws0_31 c q0 m0 b f h).symm
  | 32 => exact (ws0_32 c q0 m0 b f h).symm
  | 33 => exact (ws0_33 c q0 m0 b f h).symm
  | 34 => exact (ws0_34 c q0 m0 b f h).symm
  | 35 => exact (ws0_35 c q0 m0 b f h).symm
  | 36 => exact (ws0_36 c q0 m0 b f h).symm
  | 37 => exact (ws0_37 c q0 m0 b f h).symm
  | 38 => exact (ws0_38 c q0 m0 b f h).symm
  | 39 => exact (ws0_39 c q0 m0 b f h).symm
  | 40 => exact (ws0_40 c q0 m0 b f h).symm
  | 41 => exact (ws0_41 c q0 m0 b f h).symm
  | 42 => exact (ws0_42 c q0 m0 b f h).symm
  | 43 => exact (ws0_43 c q0 m0 b f h).symm
  | 44 => exact (ws0_44 c q0 m0 b f h).symm
  | 45 => exact (ws0_45 c q0 m0 b f h).symm
  | 46 => exact (ws0_46 c q0 m0 b f h).symm
  | 47 => exact (ws0_47 c q0 m0 b f h).symm
  | 48 => exact (ws0_48 c q0 m0 b f h).symm
  | 49 => exact (ws0_49 c q0 m0 b f h).symm
  | 50 => exact (ws0_50 c q0 m0 b f h).symm
  | 51 => exact (ws0_51 c q0 m0 b f h).symm
  | 52 => exact (ws0_52 c q0 m0 b f h).symm
  | 53 => exact (ws0_53 c q0 m0 b f h).symm
  | 54 => exact (ws0_54 c q0 m0 b f h).symm
  | 55 => exact (ws0_55 c q0 m0 b f h).symm
  | 56 => exact (ws0_56 c q0 m0 b f h).symm
  | 57 => exact (ws0_57 c q0 m0 b f h).symm
  | 58 => exact (ws0_58 c q0 m0 b f h).symm
  | 59 => exact (ws0_59 c q0 m0 b f h).symm
  | 60 => exact (ws0_60 c q0 m0 b f h).symm
  | 61 => exact (ws0_61 c q0 m0 b f h).symm
  | 62 => exact (ws0_62 c q0 m0 b f h).symm
  | 63 => exact (ws0_63 c q0 m0 b f h).symm
  | 64 => exact (ws0_64 c q0 m0 b f h).symm
  | 65 => exact (ws0_65 c q0 m0 b f h).symm
  | i + 66 =>
    rw [List.getElem?_eq_none (by show 66 ≤ i + 66; omega), List.getElem?_eq_none (by rw [wld_len]; show 66 ≤ i + 66; omega)]
end St0
theorem tyOK_T3 (c : C3) : tyOK (caL c) (T3 c) := by
  intro k hk
  have h4 : ∀ k, k < 66 → arT k = 0 ∨ arT k = 1 ∨ arT k = 2 ∨ arT k = 3 := by decide +kernel
  have hk66 : k < 66 := by
    rcases Nat.lt_or_ge k 66 with z | z
    · exact z
    · exfalso
      have h1 : shp[k]? = none := List.getElem?_eq_none (by show 66 ≤ k; exact z)
      exact hk (by simp [arT, h1])
  rcases h4 k hk66 with e | e | e | e
  · exact absurd e hk
  · exact ⟨0, by simp [T3, caL, e, tyc]⟩
  · exact ⟨1, by simp [T3, caL, e, tyc]⟩
  · exact ⟨2, by simp [T3, caL, e, tyc]⟩
theorem wld_D {A : Nat → Prop} {ad : Nat → Nat} {ca : Nat → ClassId} {σ : St} (h : va_D A (wld ad ca σ)) : injA ad ∧ ∀ k, k < shp.length → A (ad k) := by
  have at' : ∀ i, i < shp.length → ∃ e, (wld ad ca σ)[i]? = some (ad i, e) := fun i hi => ⟨_, wld_get (List.getElem?_eq_getElem hi)⟩
  refine ⟨fun i j hi hj e => ?_, fun k hk => ?_⟩
  · obtain ⟨x, hx⟩ := at' i hi
    obtain ⟨y, hy⟩ := at' j hj
    exact h.1 i j _ _ hx hy e
  · obtain ⟨x, hx⟩ := at' k hk
    exact h.2 k _ hx
/-- the ambient of the law -/
def PLn (b N : Nat) (xs : Nat → Int32) (a : Am) : Prop := a_Q a = lw_Z (a_below a) #[Value.ref b] (a_s a) ∧ a_args a = #[Value.ref b] ∧ a_R a = room_1 ∧ (a_A a = fun q => (a_s a).heap.size ≤ q) ∧ a_H0 a = (a_s a).heap ∧ va_X b N xs (a_s a) (a_s a).heap ∧ b < (a_s a).heap.size ∧ N < 2 ^ 31
theorem to_wp {b N q0 m0 : Nat} {xs : Nat → Int32} {c : C3} {f h : Nat → Nat} {pc k n : Nat} {x : Int32} (hk : k ≤ 600000) (hn : n ≤ 7302250) (w : Wp m_L_law 1000 (PL b N xs) pc [some (.ref 66), some (.ref 0), some (.ref 43), some (.int x)] [] st0) : Wn m_L_law 1000 600000 7302250 c (PLn b N xs) [] pc [some (.ref b), some (.ref q0), some (.ref m0), some (.int x)] [] (post_X8_init c q0 f ++ post_X9_init c m0 h) k n := by
  intro a X hP H locs lsA hW hD hS hlo
  obtain ⟨hQ, hargs, hR, hA, hH0, hX, hbl, hNb⟩ := hP
  obtain ⟨hx, hb, hml, hown, hts, hN, hK, hAs, hf1, hf2, hf3, hf4, hret, hlocks, -⟩ := X
  rw [List.nil_append, wld_st0 c q0 m0 b f h] at hW hD
  obtain ⟨hinj, hAk⟩ := wld_D hD
  refine W.widen hk hn ?_
  refine w (a_p a, a_l a, a_e a, a_R a, a_s a, a_m a, a_args a, a_below a, a_meth a, a_c a, 600000, 7302250, a_Q a, adL q0 m0 b f h, caL c, a_D a, T3 c, a_A a, a_H0 a) ⟨hx, hb, hml, hown, hts, hN, hK, tyOK_T3 c, hinj, hAk, hAs, hf1, hf2, hf3, hf4, hret, hlocks⟩ ⟨hQ, hargs, hR, rfl, rfl, hA, hH0, rfl, hX, hbl, hNb⟩ H locs lsA hW hS ⟨hlo.1, hlo.2.1, fun i v hv => ?_⟩
  have h2 := hlo.2.2
  match i, hv with
  | 0, hv => cases hv; exact h2 0 (.ref b) rfl
  | 1, hv => cases hv; exact h2 1 (.ref q0) rfl
  | 2, hv => cases hv; exact h2 2 (.ref m0) rfl
  | 3, hv => cases hv; exact h2 3 (.int x) rfl
  | i + 4, hv => simp at hv
set_option maxRecDepth 100000 in
set_option maxHeartbeats 4000000 in
theorem law_wn {b N : Nat} {xs : Nat → Int32} (c : C3) (hpure : ∃ s', f_L_law_18 N xs FU 0 st0 = some (1, s')) : Wn m_L_law 1000 600000 7302250 c (PLn b N xs) [] 0 [some (.ref b), none, none, none] [] [] 0 0 := by
  obtain ⟨s', hp⟩ := hpure
  refine wn_new (ci := 8) (fs := [.null, .null, .null, .null, .null, .null, .null, .null, .null, .null, .null, .null, .int 0, .int 0]) (N := 14) dL_law_0 (by decide) rfl ⟨mem_t1 15 rfl rfl, mem_t1 16 rfl rfl, mem_t1 1 rfl rfl⟩ (by decide +kernel) (by decide) (by decide) (fun q0 => ?_)
  refine wn_dup dL_law_3 ?_
  refine wn_ctor (N := m_X8_init) (As := []) (rest := [.ref q0]) (l1 := []) dL_law_4 (Or.inl (mem_t1 17 rfl rfl)) mo_X8_init ⟨ic_X8_init, rfl⟩ rfl rfl rfl (cc_X8_init c q0) (by decide) (Nat.le_of_ble_eq_true rfl) (by decide) (by decide) (fun f => ?_)
  refine wn_astore_n (i := 1) (ls' := [some (.ref b), some (.ref q0), none, none]) dL_law_7 rfl (by decide) rfl rfl ?_
  refine wn_new (ci := 9) (fs := [.int 0, .int 0, .int 0, .int 0, .null, .null, .null, .null, .null, .null, .int 0, .int 0, .int 0, .int 0, .null, .null, .int 0, .int 0, .int 0, .int 0, .null, .null, .null, .int 0, .int 0, .int 0, .int 0, .int 0, .null, .null, .null, .null, .int 0, .int 0, .null, .null, .long 0, .int 0, .null, .int 0, .null, .int 0, .int 0, .int 0, .int 0, .int 0, .null, .null, .null, .null]) (N := 50) dL_law_8 (by decide) rfl ⟨mem_t4 47 rfl rfl, mem_t4 48 rfl rfl, mem_t1 11 rfl rfl⟩ (by decide +kernel) (by decide) (by decide) (fun m0 => ?_)
  refine wn_dup dL_law_11 ?_
  refine wn_ctor (N := m_X9_init) (As := []) (rest := [.ref m0]) (l1 := post_X8_init c q0 f) dL_law_12 (Or.inl (mem_t4 49 rfl rfl)) mo_X9_init ⟨ic_X9_init, rfl⟩ rfl rfl rfl (cc_X9_init c m0) (by decide) (Nat.le_of_ble_eq_true rfl) (by decide) (by decide) (fun h => ?_)
  refine wn_astore_n (i := 2) (ls' := [some (.ref b), some (.ref q0), some (.ref m0), none]) dL_law_15 rfl (by decide) rfl rfl ?_
  refine wn_iconst (v := 0) dL_law_16 (by decide +kernel) ?_
  refine wn_istore_n (i := 3) (ls' := [some (.ref b), some (.ref q0), some (.ref m0), some (.int 0)]) dL_law_17 rfl (by decide) rfl rfl ?_
  exact to_wp (by decide) (by decide) (w_L_law_18 (r := (1, s')) rfl FU 0 st0 hp)
set_option maxRecDepth 100000 in
set_option maxHeartbeats 4000000 in
/-- THE LAW, from its entry, out of the pure theorem -/
theorem start_open {p : Program} {e : Env} {s : State} {m : MethodId} {below : List Frame} {meth : Method} {c : Code} (l : Launch) {b L : Nat} {xs : Nat → Int32} (hL : L ≤ 3072) (C0 : lw_At p s m meth c b L xs) (hpure : ∃ s', f_L_law_18 L xs FU 0 st0 = some (1, s')) : W p l e room_1 s m #[Value.ref b] below meth c s.heap [] 0 0 (lw_Z below #[Value.ref b] s) (entryFrame m ([Value.ref b] : List Value).toArray 4) := by
  obtain ⟨hx, hb, hr, hml, hown, hts, hX, hbl, hlocks, hgv⟩ := id C0
  have hg : ∀ w ∈ gtb, w.before #[Value.ref b] s = true := fun w hw => hts w (gtb_lw hw)
  have hN : nOK s := by
    intro w hw
    have h1 := hts w (ntb_lw hw)
    have h2 := nest_of hw
    cases w <;> first | (simp [isNest] at h2; done) | exact va_Nw.of rfl h1
  obtain ⟨c0, iS0, hKn0⟩ := u_known (C := RX0) (T := TX0) (N := 7) (n := 7) hg inX0 (hg (.instantiable RX0 7) (mem_t1 40 rfl rfl))
  obtain ⟨c1, iS1, hKn1⟩ := u_known (C := RX1) (T := TX1) (N := 5) (n := 5) hg inX1 (hg (.instantiable RX1 5) (mem_t1 206 rfl rfl))
  obtain ⟨c2, iS2, hKn2⟩ := u_known (C := RX2) (T := TX2) (N := 2) (n := 2) hg inX2 (hg (.instantiable RX2 2) (mem_t1 117 rfl rfl))
  obtain ⟨c3, iS3, hKn3⟩ := u_known (C := RX3) (T := TX3) (N := 5) (n := 5) hg inX3 (hg (.instantiable RX3 5) (mem_t1 134 rfl rfl))
  obtain ⟨c4, iS4, hKn4⟩ := u_known (C := RX4) (T := TX4) (N := 2) (n := 2) hg inX4 (hg (.instantiable RX4 2) (mem_t1 163 rfl rfl))
  obtain ⟨c5, iS5, hKn5⟩ := u_known (C := RX5) (T := TX5) (N := 8) (n := 8) hg inX5 (hg (.instantiable RX5 8) (mem_t1 157 rfl rfl))
  obtain ⟨c6, iS6, hKn6⟩ := u_known (C := RX6) (T := TX6) (N := 2) (n := 2) hg inX6 (hg (.instantiable RX6 2) (mem_t1 24 rfl rfl))
  obtain ⟨c7, iS7, hKn7⟩ := u_known (C := RX7) (T := TX7) (N := 8) (n := 8) hg inX7 (hg (.instantiable RX7 8) (mem_t1 84 rfl rfl))
  obtain ⟨c8, iS8, hKn8⟩ := u_known (C := RX8) (T := TX8) (N := 14) (n := 14) hg inX8 (hg (.instantiable RX8 14) (mem_t1 16 rfl rfl))
  obtain ⟨c9, iS9, hKn9⟩ := u_known (C := RX9) (T := TX9) (N := 50) (n := 50) hg inX9 (hg (.instantiable RX9 50) (mem_t4 48 rfl rfl))
  obtain ⟨dC, dI, hKc⟩ : ∃ (dC : Nat → ClassId) (dI : Nat → Nat → Nat), ∀ (k : Nat) (q : vw_C), vwCl[k]? = some q → u_Kn s q.1 q.2.1 q.2.2 (dC k) (dI k) := by
    refine ⟨fun k => [c0, c1, c2, c3, c4, c5, c6, c7, c8, c9].getD k c0, fun k => [iS0, iS1, iS2, iS3, iS4, iS5, iS6, iS7, iS8, iS9].getD k iS0, ?_⟩
    intro k q hq
    match k, hq with
    | 0, hq => cases hq; exact hKn0
    | 1, hq => cases hq; exact hKn1
    | 2, hq => cases hq; exact hKn2
    | 3, hq => cases hq; exact hKn3
    | 4, hq => cases hq; exact hKn4
    | 5, hq => cases hq; exact hKn5
    | 6, hq => cases hq; exact hKn6
    | 7, hq => cases hq; exact hKn7
    | 8, hq => cases hq; exact hKn8
    | 9, hq => cases hq; exact hKn9
    | k + 10, hq => simp [vwCl] at hq
  obtain ⟨cI, kI, pI', h1, h2, h3⟩ := Cond.arrayClass_spec (hg _ arr_w.1)
  obtain ⟨cB, kB, pB', h4, h5, h6⟩ := Cond.arrayClass_spec (hg _ arr_w.2.1)
  obtain ⟨cJ, kJ, pJ', h7, h8, h9⟩ := Cond.arrayClass_spec (hg _ arr_w.2.2)
  have hK : va_K (dC, dI) vwCl (T3 (cI, cB, cJ)) s := by
    refine ⟨hKc, fun k q h => ?_⟩
    match k, h with
    | 0, h => cases h; exact ⟨fun n z => ⟨fun k h => (by cases h), kI, h2, pI', h3⟩, h1⟩
    | 1, h => cases h; exact ⟨fun n z => ⟨fun k h => (by cases h), kB, h5, pB', h6⟩, h4⟩
    | 2, h => cases h; exact ⟨fun n z => ⟨fun k h => (by cases h), kJ, h8, pJ', h9⟩, h7⟩
    | k + 3, h => simp [T3] at h
  have hl := lv_entry ([.ref b]) (n := 4) (Nat.le_of_ble_eq_true rfl)
  rw [lg_entry_eq]
  generalize (lg_sl ([.ref b]) ++ List.replicate (4 - (lg_sl ([.ref b])).length) Slot.unset).toArray = lsA at hl ⊢
  refine law_wn (cI, cB, cJ) hpure (p, l, e, room_1, s, m, #[Value.ref b], below, meth, c, 0, 0, lw_Z below #[Value.ref b] s, (fun q => q), (fun _ => cI), (dC, dI), T3 (cI, cB, cJ), (fun q => s.heap.size ≤ q), s.heap) ⟨hx, hb, hml, hown, hg, hN, hK, fun q h => h, show 1000 ≤ room_1.frames by decide, show 60 * 1000 ≤ room_1.locals by decide, show 600000 ≤ room_1.cells by decide, show 7302250 ≤ room_1.slots by decide, hr, hlocks, fun z => absurd z (by decide)⟩ ⟨rfl, rfl, rfl, rfl, rfl, hX, hbl, by omega⟩ s.heap [] lsA (fun k q h => by simp at h) ⟨fun i j p q h => by simp at h, fun k q h => by simp at h⟩ va_S.rf ⟨hl.1, hl.2.1, fun i v h => ?_⟩
  match i, h with
  | 0, h => cases h; exact hl.2.2 (0, .ref b) (by simp [lv_args])
  | 1, h => simp at h
  | 2, h => simp at h
  | 3, h => simp at h
  | i + 4, h => simp at h
