/-! the plain machine, goal first -/
theorem zRun_mono {M : Nat → Option xMt} {Lz : Nat} {zs : Nat → Int32} : ∀ (f d k pc : Nat) (L S : List zV) (m : zM) (r : zV × zM), zRun M Lz zs f d k pc L S m = some r → zRun M Lz zs (f + 1) d k pc L S m = some r := by
  intro f
  induction f with
  | zero => intro d k pc L S m r h; cases h
  | succ f ih =>
    intro d k pc L S m r h
    unfold zRun at h ⊢
    cases hrow : zRow M k pc with
    | none => rw [hrow] at h; cases h
    | some row =>
      obtain ⟨o, i, q, a1, a2⟩ := row
      rw [hrow] at h
      dsimp only at h ⊢
      by_cases hc : o = 105 ∨ o = 107
      · rw [if_pos hc] at h ⊢
        cases hm : zMt M a1 with
        | none => rw [hm] at h; cases h
        | some mt =>
          obtain ⟨maxL, rt, na, mc, ms⟩ := mt
          rw [hm] at h
          match mc, ms, h with
          | 0, 0, h =>
            have h : (if na ≤ S.length ∧ zCats (S.drop na) ≤ 8 ∧ 0 < d ∧ zCats (S.take na).reverse ≤ maxL ∧ zRc o a2 (zG (S.take na).reverse 0) = true ∧ a1 ≠ 0 then
              (match zRun M Lz zs f (d - 1) a1 0 (zEnt (S.take na).reverse maxL) [] m with
                | none => none
                | some (v, m') => zRun M Lz zs f d k q L (if v.1 = 9 then S.drop na else v :: S.drop na) m') else none) = some r := h
            show (if na ≤ S.length ∧ zCats (S.drop na) ≤ 8 ∧ 0 < d ∧ zCats (S.take na).reverse ≤ maxL ∧ zRc o a2 (zG (S.take na).reverse 0) = true ∧ a1 ≠ 0 then
              (match zRun M Lz zs (f + 1) (d - 1) a1 0 (zEnt (S.take na).reverse maxL) [] m with
                | none => none
                | some (v, m') => zRun M Lz zs (f + 1) d k q L (if v.1 = 9 then S.drop na else v :: S.drop na) m') else none) = some r
            by_cases hg : na ≤ S.length ∧ zCats (S.drop na) ≤ 8 ∧ 0 < d ∧ zCats (S.take na).reverse ≤ maxL ∧ zRc o a2 (zG (S.take na).reverse 0) = true ∧ a1 ≠ 0
            · rw [if_pos hg] at h ⊢
              cases hr : zRun M Lz zs f (d - 1) a1 0 (zEnt (S.take na).reverse maxL) [] m with
              | none => rw [hr] at h; cases h
              | some vm =>
                obtain ⟨v, m'⟩ := vm
                rw [hr] at h
                rw [ih _ _ _ _ _ _ _ hr]
                exact ih _ _ _ _ _ _ _ h
            · rw [if_neg hg] at h; cases h
          | 0, s + 1, h => cases h
          | c + 1, s, h => cases h
      · rw [if_neg hc] at h ⊢
        by_cases hr : o = 108 ∨ o = 109 ∨ o = 110
        · rw [if_pos hr] at h ⊢
          exact h
        · rw [if_neg hr] at h ⊢
          cases hp : zPure Lz zs d k o i pc q a1 a2 L S m with
          | none => rw [hp] at h; cases h
          | some st =>
            obtain ⟨pc', L', S', m'⟩ := st
            rw [hp] at h
            exact ih _ _ _ _ _ _ _ h
theorem zRun_le {M : Nat → Option xMt} {Lz : Nat} {zs : Nat → Int32} {f g d k pc : Nat} {L S : List zV} {m : zM} {r : zV × zM} (hfg : f ≤ g) (h : zRun M Lz zs f d k pc L S m = some r) : zRun M Lz zs g d k pc L S m = some r := by
  induction hfg with
  | refl => exact h
  | step _ ih => exact zRun_mono _ _ _ _ _ _ _ _ ih
abbrev zE : Type := Nat × (Nat → Int32)
def zW (E : zE) (d k pc : Nat) (L S : List zV) (m : zM) (Q : zV → zM → Prop) : Prop := ∃ (f : Nat) (v : zV) (m' : zM), zRun xM E.1 E.2 f d k pc L S m = some (v, m') ∧ Q v m'
/-- a call -/
def zC (E : zE) (d k : Nat) (as : List zV) (m : zM) (Q : zV → zM → Prop) : Prop := match zMt xM k with
  | some (maxL, _, _, _, _) => zW E d k 0 (zEnt as maxL) [] m Q
  | none => False
theorem zW.post {E : zE} {d k pc : Nat} {L S : List zV} {m : zM} {Q Q' : zV → zM → Prop} (h : zW E d k pc L S m Q) (hq : ∀ v m', Q v m' → Q' v m') : zW E d k pc L S m Q' := by
  obtain ⟨f, v, m', h1, h2⟩ := h
  exact ⟨f, v, m', h1, hq _ _ h2⟩
theorem zC.post {E : zE} {d k : Nat} {as : List zV} {m : zM} {Q Q' : zV → zM → Prop} (h : zC E d k as m Q) (hq : ∀ v m', Q v m' → Q' v m') : zC E d k as m Q' := by
  unfold zC at h ⊢
  split at h
  · exact zW.post h hq
  · exact h
section ZWP
variable {E : zE} {d k pc q : Nat} {L S L' : List zV} {m : zM} {Q : zV → zM → Prop} {i : Instr} {a1 a2 : Nat}
theorem zw_p {o pc' : Nat} {L' S' : List zV} {m' : zM} (h : zRow xM k pc = some (o, i, q, a1, a2)) (h1 : ¬ (o = 105 ∨ o = 107)) (h2 : ¬ (o = 108 ∨ o = 109 ∨ o = 110)) (hp : zPure E.1 E.2 d k o i pc q a1 a2 L S m = some (pc', L', S', m')) (n : zW E d k pc' L' S' m' Q) : zW E d k pc L S m Q := by
  obtain ⟨f, v, m'', hr, hQ⟩ := n
  refine ⟨f + 1, v, m'', ?_, hQ⟩
  unfold zRun
  rw [h]
  try dsimp only
  rw [if_neg h1, if_neg h2, hp]
  exact hr
theorem zw_C {k' na maxL : Nat} {rt : Option FieldType} {as rest : List zV} {P : zV → zM → Prop} {o : Nat} (h : zRow xM k pc = some (o, i, q, k', a2)) (ho : o = 105 ∨ o = 107) (hm : zMt xM k' = some (maxL, rt, na, 0, 0)) (has : (S.take na).reverse = as) (hre : S.drop na = rest) (hs : na ≤ S.length ∧ zCats rest ≤ 8 ∧ zCats as ≤ maxL ∧ zRc o a2 (zG as 0) = true ∧ k' ≠ 0) (hd : 0 < d) (hc : zC E (d - 1) k' as m P) (n : ∀ v m', P v m' → zW E d k q L (if v.1 = 9 then rest else v :: rest) m' Q) : zW E d k pc L S m Q := by
  subst has
  subst hre
  unfold zC at hc
  rw [hm] at hc
  obtain ⟨f, v, m', hr, hP⟩ := hc
  obtain ⟨f2, v2, m2, hr2, hQ⟩ := n v m' hP
  refine ⟨max f f2 + 1, v2, m2, ?_, hQ⟩
  unfold zRun
  rw [h]
  try dsimp only
  rw [if_pos ho, hm]
  show (if na ≤ S.length ∧ zCats (S.drop na) ≤ 8 ∧ 0 < d ∧ zCats (S.take na).reverse ≤ maxL ∧ zRc o a2 (zG (S.take na).reverse 0) = true ∧ k' ≠ 0 then
    (match zRun xM E.1 E.2 (max f f2) (d - 1) k' 0 (zEnt (S.take na).reverse maxL) [] m with
      | none => none
      | some (v, m') => zRun xM E.1 E.2 (max f f2) d k q L (if v.1 = 9 then S.drop na else v :: S.drop na) m') else none) = _
  rw [if_pos ⟨hs.1, hs.2.1, hd, hs.2.2.1, hs.2.2.2.1, hs.2.2.2.2⟩, zRun_le (Nat.le_max_left f f2) hr]
  exact zRun_le (Nat.le_max_right f f2) hr2
theorem zw_R {o maxL na mc ms : Nat} {rt : Option FieldType} {v : zV} (h : zRow xM k pc = some (o, i, q, a1, a2)) (ho : o = 108 ∨ o = 109 ∨ o = 110) (hm : zMt xM k = some (maxL, rt, na, mc, ms)) (hv : zRet rt o S = some v) (hQ : Q v m) : zW E d k pc L S m Q := by
  refine ⟨1, v, m, ?_, hQ⟩
  unfold zRun
  rw [h]
  try dsimp only
  rw [if_neg (by omega), if_pos ho, hm]
  try dsimp only
  rw [hv]
/-! rows of pushes -/
def zRp (k pc q : Nat) (v : zV) : Prop := ∃ (o : Nat) (i : Instr) (a1 a2 : Nat), zRow xM k pc = some (o, i, q, a1, a2) ∧ o < 3 ∧ zo_push q a1 [] [] (fun _ _ => 0) ≠ none ∧ zPv a1 = v
theorem zw_push {v : zV} (h : zRp k pc q v) (n : zW E d k q L (v :: S) m Q) : zW E d k pc L S m Q := by
  obtain ⟨o, i, a1, a2, h1, h2, h3, h4⟩ := h
  have h5 : zo_push q a1 L S m = some (q, L, v :: S, m) := by
    unfold zo_push at h3 ⊢
    split at h3
    · next hc => rw [if_pos hc, h4]
    · exact absurd rfl h3
  refine zw_p h1 (by omega) (by omega) ?_ n
  match o, h2 with
  | 0, _ => exact h5
  | 1, _ => exact h5
  | 2, _ => exact h5
theorem zw_3 {v : Int} (h : zRow xM k pc = some (3, i, q, a1, a2)) (hg : zG L a1 = (0, v)) (n : zW E d k q L ((0, v) :: S) m Q) : zW E d k pc L S m Q := by
  refine zw_p h (by decide) (by decide) ?_ n
  show zo_ild q a1 L S m = _
  unfold zo_ild
  rw [hg]
  rfl
theorem zw_4 {v : Int} (h : zRow xM k pc = some (4, i, q, a1, a2)) (hg : zG L a1 = (0, v)) (n : zW E d k q L ((0, v) :: S) m Q) : zW E d k pc L S m Q := by
  refine zw_p h (by decide) (by decide) ?_ n
  show zo_ild q a1 L S m = _
  unfold zo_ild
  rw [hg]
  rfl
theorem zw_5 {v : Int} (h : zRow xM k pc = some (5, i, q, a1, a2)) (hg : zG L a1 = (1, v)) (n : zW E d k q L ((1, v) :: S) m Q) : zW E d k pc L S m Q := by
  refine zw_p h (by decide) (by decide) ?_ n
  show zo_lld q a1 L S m = _
  unfold zo_lld
  rw [hg]
  rfl
theorem zw_6 {v : Int} (h : zRow xM k pc = some (6, i, q, a1, a2)) (hg : zG L a1 = (1, v)) (n : zW E d k q L ((1, v) :: S) m Q) : zW E d k pc L S m Q := by
  refine zw_p h (by decide) (by decide) ?_ n
  show zo_lld q a1 L S m = _
  unfold zo_lld
  rw [hg]
  rfl
theorem zw_7 {v : Int} (h : zRow xM k pc = some (7, i, q, a1, a2)) (hg : zG L a1 = (2, v)) (n : zW E d k q L ((2, v) :: S) m Q) : zW E d k pc L S m Q := by
  refine zw_p h (by decide) (by decide) ?_ n
  show zo_ald q a1 L S m = _
  unfold zo_ald
  rw [hg]
  rfl
theorem zw_8 {v : Int} (h : zRow xM k pc = some (8, i, q, a1, a2)) (hg : zG L a1 = (2, v)) (n : zW E d k q L ((2, v) :: S) m Q) : zW E d k pc L S m Q := by
  refine zw_p h (by decide) (by decide) ?_ n
  show zo_ald q a1 L S m = _
  unfold zo_ald
  rw [hg]
  rfl
theorem zw_7s {v : Int} (h : zRow xM k pc = some (7, i, q, a1, a2)) (hg : zG L a1 = (6, v)) (n : zW E d k q L ((6, v) :: S) m Q) : zW E d k pc L S m Q := by
  refine zw_p h (by decide) (by decide) ?_ n
  show zo_ald q a1 L S m = _
  unfold zo_ald
  rw [hg]
  rfl
theorem zw_9 {v : Int} (h : zRow xM k pc = some (9, i, q, a1, a2)) (hl : a1 < L.length) (hp : zPut L a1 (0, v) = L') (n : zW E d k q L' S m Q) : zW E d k pc L ((0, v) :: S) m Q := by
  refine zw_p h (by decide) (by decide) ?_ n
  show zo_ist q a1 L ((0, v) :: S) m = _
  unfold zo_ist
  try dsimp only
  rw [if_pos ⟨rfl, hl⟩, hp]
theorem zw_10 {v : Int} (h : zRow xM k pc = some (10, i, q, a1, a2)) (hl : a1 < L.length) (hp : zPut L a1 (0, v) = L') (n : zW E d k q L' S m Q) : zW E d k pc L ((0, v) :: S) m Q := by
  refine zw_p h (by decide) (by decide) ?_ n
  show zo_ist q a1 L ((0, v) :: S) m = _
  unfold zo_ist
  try dsimp only
  rw [if_pos ⟨rfl, hl⟩, hp]
theorem zw_11 {v : Int} (h : zRow xM k pc = some (11, i, q, a1, a2)) (hl : a1 < L.length) (hp : zPut L a1 (2, v) = L') (n : zW E d k q L' S m Q) : zW E d k pc L ((2, v) :: S) m Q := by
  refine zw_p h (by decide) (by decide) ?_ n
  show zo_ast q a1 L ((2, v) :: S) m = _
  unfold zo_ast
  try dsimp only
  rw [if_pos ⟨Or.inl rfl, hl⟩, hp]
theorem zw_12 {v : Int} (h : zRow xM k pc = some (12, i, q, a1, a2)) (hl : a1 < L.length) (hp : zPut L a1 (2, v) = L') (n : zW E d k q L' S m Q) : zW E d k pc L ((2, v) :: S) m Q := by
  refine zw_p h (by decide) (by decide) ?_ n
  show zo_ast q a1 L ((2, v) :: S) m = _
  unfold zo_ast
  try dsimp only
  rw [if_pos ⟨Or.inl rfl, hl⟩, hp]
theorem zw_13 {v : Int} (h : zRow xM k pc = some (13, i, q, a1, a2)) (hl : a1 + 1 < L.length) (hp : (zPut L a1 (1, v)).set (a1 + 1) (9, 0) = L') (n : zW E d k q L' S m Q) : zW E d k pc L ((1, v) :: S) m Q := by
  refine zw_p h (by decide) (by decide) ?_ n
  show zo_lst q a1 L ((1, v) :: S) m = _
  unfold zo_lst
  try dsimp only
  rw [if_pos ⟨rfl, hl⟩, hp]
theorem zw_14 {v : Int} (h : zRow xM k pc = some (14, i, q, a1, a2)) (hl : a1 + 1 < L.length) (hp : (zPut L a1 (1, v)).set (a1 + 1) (9, 0) = L') (n : zW E d k q L' S m Q) : zW E d k pc L ((1, v) :: S) m Q := by
  refine zw_p h (by decide) (by decide) ?_ n
  show zo_lst q a1 L ((1, v) :: S) m = _
  unfold zo_lst
  try dsimp only
  rw [if_pos ⟨rfl, hl⟩, hp]
theorem zI_of {x : Int} (h : -2147483648 ≤ x ∧ x ≤ 2147483647) : (Int32.ofInt x).toInt = x := by
  rw [← zU_ofInt, xs32_eq, zxs32 h]
theorem zL_of {x : Int} (h : -9223372036854775808 ≤ x ∧ x ≤ 9223372036854775807) : (Int64.ofInt x).toInt = x := by
  rw [← zUL_ofInt, xs64_eq, zxs64 h]
theorem zw_15 {v c : Int} (h : zRow xM k pc = some (15, i, q, a1, a2)) (hg : zG L a1 = (0, v)) (hc : nI a2 = Int32.ofInt c) (hr : -2147483648 ≤ v + c ∧ v + c ≤ 2147483647) (hp : zPut L a1 (0, v + c) = L') (n : zW E d k q L' S m Q) : zW E d k pc L S m Q := by
  refine zw_p h (by decide) (by decide) ?_ n
  show zo_iinc q a1 a2 L S m = _
  unfold zo_iinc
  rw [hg]
  try dsimp only
  rw [hc, ← Int32.ofInt_add, zI_of hr, if_pos rfl, hp]
theorem zw_16 {x y : Int} (h : zRow xM k pc = some (16, i, q, a1, a2)) (hr : -2147483648 ≤ x + y ∧ x + y ≤ 2147483647) (n : zW E d k q L ((0, x + y) :: S) m Q) : zW E d k pc L ((0, y) :: (0, x) :: S) m Q := by
  refine zw_p h (by decide) (by decide) ?_ n
  show some (q, L, (0, (Int32.ofInt x + Int32.ofInt y).toInt) :: S, m) = _
  rw [← Int32.ofInt_add, zI_of hr]
theorem zw_17 {x y : Int} (h : zRow xM k pc = some (17, i, q, a1, a2)) (hr : -2147483648 ≤ x - y ∧ x - y ≤ 2147483647) (n : zW E d k q L ((0, x - y) :: S) m Q) : zW E d k pc L ((0, y) :: (0, x) :: S) m Q := by
  refine zw_p h (by decide) (by decide) ?_ n
  show some (q, L, (0, (Int32.ofInt x - Int32.ofInt y).toInt) :: S, m) = _
  rw [← Int32.ofInt_sub, zI_of hr]
theorem zw_18 {x y : Int} (h : zRow xM k pc = some (18, i, q, a1, a2)) (hr : -2147483648 ≤ x * y ∧ x * y ≤ 2147483647) (n : zW E d k q L ((0, x * y) :: S) m Q) : zW E d k pc L ((0, y) :: (0, x) :: S) m Q := by
  refine zw_p h (by decide) (by decide) ?_ n
  show some (q, L, (0, (Int32.ofInt x * Int32.ofInt y).toInt) :: S, m) = _
  rw [← Int32.ofInt_mul, zI_of hr]
theorem zw_27 {x y : Int} (h : zRow xM k pc = some (27, i, q, a1, a2)) (hr : -9223372036854775808 ≤ x + y ∧ x + y ≤ 9223372036854775807) (n : zW E d k q L ((1, x + y) :: S) m Q) : zW E d k pc L ((1, y) :: (1, x) :: S) m Q := by
  refine zw_p h (by decide) (by decide) ?_ n
  show some (q, L, (1, (Int64.ofInt x + Int64.ofInt y).toInt) :: S, m) = _
  rw [← Int64.ofInt_add, zL_of hr]
theorem zw_28 {x y : Int} (h : zRow xM k pc = some (28, i, q, a1, a2)) (hr : -9223372036854775808 ≤ x - y ∧ x - y ≤ 9223372036854775807) (n : zW E d k q L ((1, x - y) :: S) m Q) : zW E d k pc L ((1, y) :: (1, x) :: S) m Q := by
  refine zw_p h (by decide) (by decide) ?_ n
  show some (q, L, (1, (Int64.ofInt x - Int64.ofInt y).toInt) :: S, m) = _
  rw [← Int64.ofInt_sub, zL_of hr]
theorem zw_29 {x y : Int} (h : zRow xM k pc = some (29, i, q, a1, a2)) (hr : -9223372036854775808 ≤ x * y ∧ x * y ≤ 9223372036854775807) (n : zW E d k q L ((1, x * y) :: S) m Q) : zW E d k pc L ((1, y) :: (1, x) :: S) m Q := by
  refine zw_p h (by decide) (by decide) ?_ n
  show some (q, L, (1, (Int64.ofInt x * Int64.ofInt y).toInt) :: S, m) = _
  rw [← Int64.ofInt_mul, zL_of hr]
theorem zw_16h {x y : Int} (h : zRow xM k pc = some (16, i, q, a1, a2)) (n : ∀ r : Int, -2147483648 ≤ r → r ≤ 2147483647 → zW E d k q L ((0, r) :: S) m Q) : zW E d k pc L ((0, y) :: (0, x) :: S) m Q :=
  zw_p h (by decide) (by decide) rfl (n _ (zToInt _).1 (zToInt _).2)
theorem zw_17h {x y : Int} (h : zRow xM k pc = some (17, i, q, a1, a2)) (n : ∀ r : Int, -2147483648 ≤ r → r ≤ 2147483647 → zW E d k q L ((0, r) :: S) m Q) : zW E d k pc L ((0, y) :: (0, x) :: S) m Q :=
  zw_p h (by decide) (by decide) rfl (n _ (zToInt _).1 (zToInt _).2)
theorem zw_18h {x y : Int} (h : zRow xM k pc = some (18, i, q, a1, a2)) (n : ∀ r : Int, -2147483648 ≤ r → r ≤ 2147483647 → zW E d k q L ((0, r) :: S) m Q) : zW E d k pc L ((0, y) :: (0, x) :: S) m Q :=
  zw_p h (by decide) (by decide) rfl (n _ (zToInt _).1 (zToInt _).2)
theorem zw_21h {x y : Int} (h : zRow xM k pc = some (21, i, q, a1, a2)) (n : ∀ r : Int, -2147483648 ≤ r → r ≤ 2147483647 → zW E d k q L ((0, r) :: S) m Q) : zW E d k pc L ((0, y) :: (0, x) :: S) m Q :=
  zw_p h (by decide) (by decide) rfl (n _ (zToInt _).1 (zToInt _).2)
theorem zw_22h {x y : Int} (h : zRow xM k pc = some (22, i, q, a1, a2)) (n : ∀ r : Int, -2147483648 ≤ r → r ≤ 2147483647 → zW E d k q L ((0, r) :: S) m Q) : zW E d k pc L ((0, y) :: (0, x) :: S) m Q :=
  zw_p h (by decide) (by decide) rfl (n _ (zToInt _).1 (zToInt _).2)
theorem zw_23h {x y : Int} (h : zRow xM k pc = some (23, i, q, a1, a2)) (n : ∀ r : Int, -2147483648 ≤ r → r ≤ 2147483647 → zW E d k q L ((0, r) :: S) m Q) : zW E d k pc L ((0, y) :: (0, x) :: S) m Q :=
  zw_p h (by decide) (by decide) rfl (n _ (zToInt _).1 (zToInt _).2)
theorem zw_24h {x y : Int} (h : zRow xM k pc = some (24, i, q, a1, a2)) (n : ∀ r : Int, -2147483648 ≤ r → r ≤ 2147483647 → zW E d k q L ((0, r) :: S) m Q) : zW E d k pc L ((0, y) :: (0, x) :: S) m Q :=
  zw_p h (by decide) (by decide) rfl (n _ (zToInt _).1 (zToInt _).2)
theorem zw_25h {x y : Int} (h : zRow xM k pc = some (25, i, q, a1, a2)) (n : ∀ r : Int, -2147483648 ≤ r → r ≤ 2147483647 → zW E d k q L ((0, r) :: S) m Q) : zW E d k pc L ((0, y) :: (0, x) :: S) m Q :=
  zw_p h (by decide) (by decide) rfl (n _ (zToInt _).1 (zToInt _).2)
theorem zw_26h {x y : Int} (h : zRow xM k pc = some (26, i, q, a1, a2)) (n : ∀ r : Int, -2147483648 ≤ r → r ≤ 2147483647 → zW E d k q L ((0, r) :: S) m Q) : zW E d k pc L ((0, y) :: (0, x) :: S) m Q :=
  zw_p h (by decide) (by decide) rfl (n _ (zToInt _).1 (zToInt _).2)
theorem zw_27h {x y : Int} (h : zRow xM k pc = some (27, i, q, a1, a2)) (n : ∀ r : Int, -9223372036854775808 ≤ r → r ≤ 9223372036854775807 → zW E d k q L ((1, r) :: S) m Q) : zW E d k pc L ((1, y) :: (1, x) :: S) m Q :=
  zw_p h (by decide) (by decide) rfl (n _ (zToIntL _).1 (zToIntL _).2)
theorem zw_28h {x y : Int} (h : zRow xM k pc = some (28, i, q, a1, a2)) (n : ∀ r : Int, -9223372036854775808 ≤ r → r ≤ 9223372036854775807 → zW E d k q L ((1, r) :: S) m Q) : zW E d k pc L ((1, y) :: (1, x) :: S) m Q :=
  zw_p h (by decide) (by decide) rfl (n _ (zToIntL _).1 (zToIntL _).2)
theorem zw_29h {x y : Int} (h : zRow xM k pc = some (29, i, q, a1, a2)) (n : ∀ r : Int, -9223372036854775808 ≤ r → r ≤ 9223372036854775807 → zW E d k q L ((1, r) :: S) m Q) : zW E d k pc L ((1, y) :: (1, x) :: S) m Q :=
  zw_p h (by decide) (by decide) rfl (n _ (zToIntL _).1 (zToIntL _).2)
theorem zw_30h {x y : Int} (h : zRow xM k pc = some (30, i, q, a1, a2)) (n : ∀ r : Int, -9223372036854775808 ≤ r → r ≤ 9223372036854775807 → zW E d k q L ((1, r) :: S) m Q) : zW E d k pc L ((1, y) :: (1, x) :: S) m Q :=
  zw_p h (by decide) (by decide) rfl (n _ (zToIntL _).1 (zToIntL _).2)
theorem zw_31h {x y : Int} (h : zRow xM k pc = some (31, i, q, a1, a2)) (n : ∀ r : Int, -9223372036854775808 ≤ r → r ≤ 9223372036854775807 → zW E d k q L ((1, r) :: S) m Q) : zW E d k pc L ((1, y) :: (1, x) :: S) m Q :=
  zw_p h (by decide) (by decide) rfl (n _ (zToIntL _).1 (zToIntL _).2)
theorem zw_32h {x y : Int} (h : zRow xM k pc = some (32, i, q, a1, a2)) (n : ∀ r : Int, -9223372036854775808 ≤ r → r ≤ 9223372036854775807 → zW E d k q L ((1, r) :: S) m Q) : zW E d k pc L ((1, y) :: (1, x) :: S) m Q :=
  zw_p h (by decide) (by decide) rfl (n _ (zToIntL _).1 (zToIntL _).2)
theorem zw_33h {x y : Int} (h : zRow xM k pc = some (33, i, q, a1, a2)) (n : ∀ r : Int, -9223372036854775808 ≤ r → r ≤ 9223372036854775807 → zW E d k q L ((1, r) :: S) m Q) : zW E d k pc L ((0, y) :: (1, x) :: S) m Q :=
  zw_p h (by decide) (by decide) rfl (n _ (zToIntL _).1 (zToIntL _).2)
theorem zw_34h {x y : Int} (h : zRow xM k pc = some (34, i, q, a1, a2)) (n : ∀ r : Int, -9223372036854775808 ≤ r → r ≤ 9223372036854775807 → zW E d k q L ((1, r) :: S) m Q) : zW E d k pc L ((0, y) :: (1, x) :: S) m Q :=
  zw_p h (by decide) (by decide) rfl (n _ (zToIntL _).1 (zToIntL _).2)
theorem zw_35h {x y : Int} (h : zRow xM k pc = some (35, i, q, a1, a2)) (n : ∀ r : Int, -9223372036854775808 ≤ r → r ≤ 9223372036854775807 → zW E d k q L ((1, r) :: S) m Q) : zW E d k pc L ((0, y) :: (1, x) :: S) m Q :=
  zw_p h (by decide) (by decide) rfl (n _ (zToIntL _).1 (zToIntL _).2)
/-- a mask of bits from 0 on -/
theorem zand_le {x y : Int} (hy : 0 ≤ y) (hr : y ≤ 2147483647) : 0 ≤ (Int32.ofInt x &&& Int32.ofInt y).toInt ∧ (Int32.ofInt x &&& Int32.ofInt y).toInt ≤ y := by
  have h1 : (Int32.ofInt x &&& Int32.ofInt y).toInt = xs32 (xN32 (Int32.ofInt x &&& Int32.ofInt y)) := by rw [← xs32_eq, xN32_eq]
  have h2 : xN32 (Int32.ofInt x &&& Int32.ofInt y) ≤ xN32 (Int32.ofInt y) := by
    show (Int32.ofInt x &&& Int32.ofInt y).toBitVec.toNat ≤ (Int32.ofInt y).toBitVec.toNat
    rw [Int32.toBitVec_and, BitVec.toNat_and]
    exact Nat.and_le_right
  have h3 : xN32 (Int32.ofInt y) = y.toNat := by
    rw [← zU_N, zI_of (by omega)]
    unfold zU
    omega
  rw [h1]
  unfold xs32 xb32
  omega
theorem zw_21m {x y : Int} (h : zRow xM k pc = some (21, i, q, a1, a2)) (hy : 0 ≤ y) (hr : y ≤ 2147483647) (n : ∀ r : Int, 0 ≤ r → r ≤ y → zW E d k q L ((0, r) :: S) m Q) : zW E d k pc L ((0, y) :: (0, x) :: S) m Q :=
  zw_p h (by decide) (by decide) rfl (n _ (zand_le hy hr).1 (zand_le hy hr).2)
theorem zdiv_nn {x y : Int} (hx : 0 ≤ x) (hx2 : x ≤ 2147483647) (hy : 0 < y) (hy2 : y ≤ 2147483647) : (Int32.ofInt x / Int32.ofInt y).toInt = x / y := by
  have e : (Int32.ofInt x / Int32.ofInt y).toInt = (x.tdiv y).bmod (2 ^ 32) := by
    rw [Int32.toInt_div, zI_of (by omega), zI_of (by omega)]
  rw [e, Int.tdiv_eq_ediv_of_nonneg hx]
  have h1 : 0 ≤ x / y := Int.ediv_nonneg hx (by omega)
  have h2 : x / y ≤ x := Int.ediv_le_self y hx
  simp only [Int.bmod]
  split <;> omega
theorem zw_19 {x y : Int} (h : zRow xM k pc = some (19, i, q, a1, a2)) (hx : 0 ≤ x) (hx2 : x ≤ 2147483647) (hy : 0 < y) (hy2 : y ≤ 2147483647) (n : zW E d k q L ((0, x / y) :: S) m Q) : zW E d k pc L ((0, y) :: (0, x) :: S) m Q := by
  refine zw_p h (by decide) (by decide) ?_ n
  show (if y = 0 then none else some (q, L, (0, (Int32.ofInt x / Int32.ofInt y).toInt) :: S, m)) = _
  rw [if_neg (by omega), zdiv_nn hx hx2 hy hy2]
theorem zw_19h {x y : Int} (h : zRow xM k pc = some (19, i, q, a1, a2)) (hy : y ≠ 0) (n : ∀ r : Int, -2147483648 ≤ r → r ≤ 2147483647 → zW E d k q L ((0, r) :: S) m Q) : zW E d k pc L ((0, y) :: (0, x) :: S) m Q := by
  refine zw_p h (by decide) (by decide) ?_ (n _ (zToInt (Int32.ofInt x / Int32.ofInt y)).1 (zToInt _).2)
  show (if y = 0 then none else some (q, L, (0, (Int32.ofInt x / Int32.ofInt y).toInt) :: S, m)) = _
  rw [if_neg hy]
theorem zrem_nn {x y : Int} (hx : 0 ≤ x) (hx2 : x ≤ 2147483647) (hy : 0 < y) (hy2 : y ≤ 2147483647) : (Int32.ofInt x - Int32.ofInt x / Int32.ofInt y * Int32.ofInt y).toInt = x % y := by
  have e1 : Int32.ofInt x / Int32.ofInt y = Int32.ofInt (x / y) := by
    apply Int32.toInt_inj.mp
    rw [zdiv_nn hx hx2 hy hy2, zI_of]
    have h1 : 0 ≤ x / y := Int.ediv_nonneg hx (by omega)
    have h2 : x / y ≤ x := Int.ediv_le_self y hx
    omega
  rw [e1, ← Int32.ofInt_mul, ← Int32.ofInt_sub]
  have e2 : x - x / y * y = x % y := by
    have := Int.emod_add_mul_ediv x y
    rw [Int.mul_comm (x / y) y]
    omega
  have h3 := Int.emod_nonneg x (show y ≠ 0 by omega)
  have h4 := Int.emod_lt_of_pos x hy
  rw [e2, zI_of (by omega)]
theorem zw_20 {x y : Int} (h : zRow xM k pc = some (20, i, q, a1, a2)) (hx : 0 ≤ x) (hx2 : x ≤ 2147483647) (hy : 0 < y) (hy2 : y ≤ 2147483647) (n : zW E d k q L ((0, x % y) :: S) m Q) : zW E d k pc L ((0, y) :: (0, x) :: S) m Q := by
  refine zw_p h (by decide) (by decide) ?_ n
  show (if y = 0 then none else some (q, L, (0, (Int32.ofInt x - Int32.ofInt x / Int32.ofInt y * Int32.ofInt y).toInt) :: S, m)) = _
  rw [if_neg (by omega), zrem_nn hx hx2 hy hy2]
theorem zw_20h {x y : Int} (h : zRow xM k pc = some (20, i, q, a1, a2)) (hy : y ≠ 0) (n : ∀ r : Int, -2147483648 ≤ r → r ≤ 2147483647 → zW E d k q L ((0, r) :: S) m Q) : zW E d k pc L ((0, y) :: (0, x) :: S) m Q := by
  refine zw_p h (by decide) (by decide) ?_ (n _ (zToInt (Int32.ofInt x - Int32.ofInt x / Int32.ofInt y * Int32.ofInt y)).1 (zToInt _).2)
  show (if y = 0 then none else some (q, L, (0, (Int32.ofInt x - Int32.ofInt x / Int32.ofInt y * Int32.ofInt y).toInt) :: S, m)) = _
  rw [if_neg hy]
theorem zw_118h {x y : Int} (h : zRow xM k pc = some (118, i, q, a1, a2)) (hy : y ≠ 0) (n : ∀ r : Int, -9223372036854775808 ≤ r → r ≤ 9223372036854775807 → zW E d k q L ((1, r) :: S) m Q) : zW E d k pc L ((1, y) :: (1, x) :: S) m Q := by
  refine zw_p h (by decide) (by decide) ?_ (n _ (zToIntL (Int64.ofInt x / Int64.ofInt y)).1 (zToIntL _).2)
  show (if y = 0 then none else some (q, L, (1, (Int64.ofInt x / Int64.ofInt y).toInt) :: S, m)) = _
  rw [if_neg hy]
theorem zw_119h {x y : Int} (h : zRow xM k pc = some (119, i, q, a1, a2)) (hy : y ≠ 0) (n : ∀ r : Int, -9223372036854775808 ≤ r → r ≤ 9223372036854775807 → zW E d k q L ((1, r) :: S) m Q) : zW E d k pc L ((1, y) :: (1, x) :: S) m Q := by
  refine zw_p h (by decide) (by decide) ?_ (n _ (zToIntL (Int64.ofInt x - Int64.ofInt x / Int64.ofInt y * Int64.ofInt y)).1 (zToIntL _).2)
  show (if y = 0 then none else some (q, L, (1, (Int64.ofInt x - Int64.ofInt x / Int64.ofInt y * Int64.ofInt y).toInt) :: S, m)) = _
  rw [if_neg hy]
theorem zw_36 {x : Int} (h : zRow xM k pc = some (36, i, q, a1, a2)) (n : zW E d k q L ((1, x) :: S) m Q) : zW E d k pc L ((0, x) :: S) m Q := zw_p h (by decide) (by decide) rfl n
theorem zw_37h {x : Int} (h : zRow xM k pc = some (37, i, q, a1, a2)) (n : ∀ r : Int, -2147483648 ≤ r → r ≤ 2147483647 → zW E d k q L ((0, r) :: S) m Q) : zW E d k pc L ((1, x) :: S) m Q := zw_p h (by decide) (by decide) rfl (n _ (zToInt _).1 (zToInt _).2)
theorem zw_38 {x : Int} (h : zRow xM k pc = some (38, i, q, a1, a2)) (hr : -2147483648 ≤ -x ∧ -x ≤ 2147483647) (n : zW E d k q L ((0, -x) :: S) m Q) : zW E d k pc L ((0, x) :: S) m Q := by
  refine zw_p h (by decide) (by decide) ?_ n
  show some (q, L, (0, (-(Int32.ofInt x)).toInt) :: S, m) = _
  rw [← Int32.ofInt_neg, zI_of hr]
theorem zw_38h {x : Int} (h : zRow xM k pc = some (38, i, q, a1, a2)) (n : ∀ r : Int, -2147483648 ≤ r → r ≤ 2147483647 → zW E d k q L ((0, r) :: S) m Q) : zW E d k pc L ((0, x) :: S) m Q := zw_p h (by decide) (by decide) rfl (n _ (zToInt _).1 (zToInt _).2)
theorem zw_117h {x : Int} (h : zRow xM k pc = some (117, i, q, a1, a2)) (n : ∀ r : Int, -9223372036854775808 ≤ r → r ≤ 9223372036854775807 → zW E d k q L ((1, r) :: S) m Q) : zW E d k pc L ((1, x) :: S) m Q := zw_p h (by decide) (by decide) rfl (n _ (zToIntL _).1 (zToIntL _).2)
theorem zw_42 (h : zRow xM k pc = some (42, i, q, a1, a2)) (n : zW E d k a1 L S m Q) : zW E d k pc L S m Q := zw_p h (by decide) (by decide) rfl n
theorem zw_41_0 {x y : Int} (h : zRow xM k pc = some (41, i, q, a1, 0)) (n1 : x < y → zW E d k a1 L S m Q) (n2 : y ≤ x → zW E d k q L S m Q) : zW E d k pc L ((0, y) :: (0, x) :: S) m Q := by
  by_cases hc : x < y
  · have hb : zHo 0 x y = true := by first | exact decide_eq_true hc | (show (!(decide (x = y))) = true; rw [decide_eq_false hc]; rfl)
    refine zw_p h (by decide) (by decide) ?_ (n1 hc)
    show some (bif zHo 0 x y then a1 else q, L, S, m) = _
    rw [hb]
    rfl
  · have hb : zHo 0 x y = false := by first | exact decide_eq_false hc | (show (!(decide (x = y))) = false; rw [decide_eq_true (by omega)]; rfl)
    refine zw_p h (by decide) (by decide) ?_ (n2 (by omega))
    show some (bif zHo 0 x y then a1 else q, L, S, m) = _
    rw [hb]
    rfl
theorem zw_40_0 {x : Int} (h : zRow xM k pc = some (40, i, q, a1, 0)) (n1 : x < 0 → zW E d k a1 L S m Q) (n2 : 0 ≤ x → zW E d k q L S m Q) : zW E d k pc L ((0, x) :: S) m Q := by
  by_cases hc : x < 0
  · have hb : zHo 0 x 0 = true := by first | exact decide_eq_true hc | (show (!(decide (x = 0))) = true; rw [decide_eq_false hc]; rfl)
    refine zw_p h (by decide) (by decide) ?_ (n1 hc)
    show some (bif zHo 0 x 0 then a1 else q, L, S, m) = _
    rw [hb]
    rfl
  · have hb : zHo 0 x 0 = false := by first | exact decide_eq_false hc | (show (!(decide (x = 0))) = false; rw [decide_eq_true (by omega)]; rfl)
    refine zw_p h (by decide) (by decide) ?_ (n2 (by omega))
    show some (bif zHo 0 x 0 then a1 else q, L, S, m) = _
    rw [hb]
    rfl
theorem zw_39_0 {x y : Int} {i2 : Instr} {b1 b2 q2 t : Nat} (h : zRow xM k pc = some (39, i, q, b1, b2)) (h2 : zRow xM k q = some (40, i2, q2, t, 0)) (n1 : x < y → zW E d k t L S m Q) (n2 : y ≤ x → zW E d k q2 L S m Q) : zW E d k pc L ((1, y) :: (1, x) :: S) m Q := by
  refine zw_p h (by decide) (by decide) rfl (zw_40_0 h2 (fun hs => n1 ?_) (fun hs => n2 ?_))
  · unfold zSgn at hs
    split at hs
    · omega
    · split at hs <;> omega
  · unfold zSgn at hs
    split at hs
    · omega
    · split at hs <;> omega
theorem zw_41_1 {x y : Int} (h : zRow xM k pc = some (41, i, q, a1, 1)) (n1 : x = y → zW E d k a1 L S m Q) (n2 : ¬ x = y → zW E d k q L S m Q) : zW E d k pc L ((0, y) :: (0, x) :: S) m Q := by
  by_cases hc : x = y
  · have hb : zHo 1 x y = true := by first | exact decide_eq_true hc | (show (!(decide (x = y))) = true; rw [decide_eq_false hc]; rfl)
    refine zw_p h (by decide) (by decide) ?_ (n1 hc)
    show some (bif zHo 1 x y then a1 else q, L, S, m) = _
    rw [hb]
    rfl
  · have hb : zHo 1 x y = false := by first | exact decide_eq_false hc | (show (!(decide (x = y))) = false; rw [decide_eq_true (by omega)]; rfl)
    refine zw_p h (by decide) (by decide) ?_ (n2 (by omega))
    show some (bif zHo 1 x y then a1 else q, L, S, m) = _
    rw [hb]
    rfl
theorem zw_40_1 {x : Int} (h : zRow xM k pc = some (40, i, q, a1, 1)) (n1 : x = 0 → zW E d k a1 L S m Q) (n2 : ¬ x = 0 → zW E d k q L S m Q) : zW E d k pc L ((0, x) :: S) m Q := by
  by_cases hc : x = 0
  · have hb : zHo 1 x 0 = true := by first | exact decide_eq_true hc | (show (!(decide (x = 0))) = true; rw [decide_eq_false hc]; rfl)
    refine zw_p h (by decide) (by decide) ?_ (n1 hc)
    show some (bif zHo 1 x 0 then a1 else q, L, S, m) = _
    rw [hb]
    rfl
  · have hb : zHo 1 x 0 = false := by first | exact decide_eq_false hc | (show (!(decide (x = 0))) = false; rw [decide_eq_true (by omega)]; rfl)
    refine zw_p h (by decide) (by decide) ?_ (n2 (by omega))
    show some (bif zHo 1 x 0 then a1 else q, L, S, m) = _
    rw [hb]
    rfl
theorem zw_39_1 {x y : Int} {i2 : Instr} {b1 b2 q2 t : Nat} (h : zRow xM k pc = some (39, i, q, b1, b2)) (h2 : zRow xM k q = some (40, i2, q2, t, 1)) (n1 : x = y → zW E d k t L S m Q) (n2 : ¬ x = y → zW E d k q2 L S m Q) : zW E d k pc L ((1, y) :: (1, x) :: S) m Q := by
  refine zw_p h (by decide) (by decide) rfl (zw_40_1 h2 (fun hs => n1 ?_) (fun hs => n2 ?_))
  · unfold zSgn at hs
    split at hs
    · omega
    · split at hs <;> omega
  · unfold zSgn at hs
    split at hs
    · omega
    · split at hs <;> omega
theorem zw_41_2 {x y : Int} (h : zRow xM k pc = some (41, i, q, a1, 2)) (n1 : y < x → zW E d k a1 L S m Q) (n2 : x ≤ y → zW E d k q L S m Q) : zW E d k pc L ((0, y) :: (0, x) :: S) m Q := by
  by_cases hc : y < x
  · have hb : zHo 2 x y = true := by first | exact decide_eq_true hc | (show (!(decide (x = y))) = true; rw [decide_eq_false hc]; rfl)
    refine zw_p h (by decide) (by decide) ?_ (n1 hc)
    show some (bif zHo 2 x y then a1 else q, L, S, m) = _
    rw [hb]
    rfl
  · have hb : zHo 2 x y = false := by first | exact decide_eq_false hc | (show (!(decide (x = y))) = false; rw [decide_eq_true (by omega)]; rfl)
    refine zw_p h (by decide) (by decide) ?_ (n2 (by omega))
    show some (bif zHo 2 x y then a1 else q, L, S, m) = _
    rw [hb]
    rfl
theorem zw_40_2 {x : Int} (h : zRow xM k pc = some (40, i, q, a1, 2)) (n1 : 0 < x → zW E d k a1 L S m Q) (n2 : x ≤ 0 → zW E d k q L S m Q) : zW E d k pc L ((0, x) :: S) m Q := by
  by_cases hc : 0 < x
  · have hb : zHo 2 x 0 = true := by first | exact decide_eq_true hc | (show (!(decide (x = 0))) = true; rw [decide_eq_false hc]; rfl)
    refine zw_p h (by decide) (by decide) ?_ (n1 hc)
    show some (bif zHo 2 x 0 then a1 else q, L, S, m) = _
    rw [hb]
    rfl
  · have hb : zHo 2 x 0 = false := by first | exact decide_eq_false hc | (show (!(decide (x = 0))) = false; rw [decide_eq_true (by omega)]; rfl)
    refine zw_p h (by decide) (by decide) ?_ (n2 (by omega))
    show some (bif zHo 2 x 0 then a1 else q, L, S, m) = _
    rw [hb]
    rfl
theorem zw_39_2 {x y : Int} {i2 : Instr} {b1 b2 q2 t : Nat} (h : zRow xM k pc = some (39, i, q, b1, b2)) (h2 : zRow xM k q = some (40, i2, q2, t, 2)) (n1 : y < x → zW E d k t L S m Q) (n2 : x ≤ y → zW E d k q2 L S m Q) : zW E d k pc L ((1, y) :: (1, x) :: S) m Q := by
  refine zw_p h (by decide) (by decide) rfl (zw_40_2 h2 (fun hs => n1 ?_) (fun hs => n2 ?_))
  · unfold zSgn at hs
    split at hs
    · omega
    · split at hs <;> omega
  · unfold zSgn at hs
    split at hs
    · omega
    · split at hs <;> omega
theorem zw_41_3 {x y : Int} (h : zRow xM k pc = some (41, i, q, a1, 3)) (n1 : y ≤ x → zW E d k a1 L S m Q) (n2 : x < y → zW E d k q L S m Q) : zW E d k pc L ((0, y) :: (0, x) :: S) m Q := by
  by_cases hc : y ≤ x
  · have hb : zHo 3 x y = true := by first | exact decide_eq_true hc | (show (!(decide (x = y))) = true; rw [decide_eq_false hc]; rfl)
    refine zw_p h (by decide) (by decide) ?_ (n1 hc)
    show some (bif zHo 3 x y then a1 else q, L, S, m) = _
    rw [hb]
    rfl
  · have hb : zHo 3 x y = false := by first | exact decide_eq_false hc | (show (!(decide (x = y))) = false; rw [decide_eq_true (by omega)]; rfl)
    refine zw_p h (by decide) (by decide) ?_ (n2 (by omega))
    show some (bif zHo 3 x y then a1 else q, L, S, m) = _
    rw [hb]
    rfl
theorem zw_40_3 {x : Int} (h : zRow xM k pc = some (40, i, q, a1, 3)) (n1 : 0 ≤ x → zW E d k a1 L S m Q) (n2 : x < 0 → zW E d k q L S m Q) : zW E d k pc L ((0, x) :: S) m Q := by
  by_cases hc : 0 ≤ x
  · have hb : zHo 3 x 0 = true := by first | exact decide_eq_true hc | (show (!(decide (x = 0))) = true; rw [decide_eq_false hc]; rfl)
    refine zw_p h (by decide) (by decide) ?_ (n1 hc)
    show some (bif zHo 3 x 0 then a1 else q, L, S, m) = _
    rw [hb]
    rfl
  · have hb : zHo 3 x 0 = false := by first | exact decide_eq_false hc | (show (!(decide (x = 0))) = false; rw [decide_eq_true (by omega)]; rfl)
    refine zw_p h (by decide) (by decide) ?_ (n2 (by omega))
    show some (bif zHo 3 x 0 then a1 else q, L, S, m) = _
    rw [hb]
    rfl
theorem zw_39_3 {x y : Int} {i2 : Instr} {b1 b2 q2 t : Nat} (h : zRow xM k pc = some (39, i, q, b1, b2)) (h2 : zRow xM k q = some (40, i2, q2, t, 3)) (n1 : y ≤ x → zW E d k t L S m Q) (n2 : x < y → zW E d k q2 L S m Q) : zW E d k pc L ((1, y) :: (1, x) :: S) m Q := by
  refine zw_p h (by decide) (by decide) rfl (zw_40_3 h2 (fun hs => n1 ?_) (fun hs => n2 ?_))
  · unfold zSgn at hs
    split at hs
    · omega
    · split at hs <;> omega
  · unfold zSgn at hs
    split at hs
    · omega
    · split at hs <;> omega
theorem zw_41_4 {x y : Int} (h : zRow xM k pc = some (41, i, q, a1, 4)) (n1 : ¬ x = y → zW E d k a1 L S m Q) (n2 : x = y → zW E d k q L S m Q) : zW E d k pc L ((0, y) :: (0, x) :: S) m Q := by
  by_cases hc : ¬ x = y
  · have hb : zHo 4 x y = true := by first | exact decide_eq_true hc | (show (!(decide (x = y))) = true; rw [decide_eq_false hc]; rfl)
    refine zw_p h (by decide) (by decide) ?_ (n1 hc)
    show some (bif zHo 4 x y then a1 else q, L, S, m) = _
    rw [hb]
    rfl
  · have hb : zHo 4 x y = false := by first | exact decide_eq_false hc | (show (!(decide (x = y))) = false; rw [decide_eq_true (by omega)]; rfl)
    refine zw_p h (by decide) (by decide) ?_ (n2 (by omega))
    show some (bif zHo 4 x y then a1 else q, L, S, m) = _
    rw [hb]
    rfl
theorem zw_40_4 {x : Int} (h : zRow xM k pc = some (40, i, q, a1, 4)) (n1 : ¬ x = 0 → zW E d k a1 L S m Q) (n2 : x = 0 → zW E d k q L S m Q) : zW E d k pc L ((0, x) :: S) m Q := by
  by_cases hc : ¬ x = 0
  · have hb : zHo 4 x 0 = true := by first | exact decide_eq_true hc | (show (!(decide (x = 0))) = true; rw [decide_eq_false hc]; rfl)
    refine zw_p h (by decide) (by decide) ?_ (n1 hc)
    show some (bif zHo 4 x 0 then a1 else q, L, S, m) = _
    rw [hb]
    rfl
  · have hb : zHo 4 x 0 = false := by first | exact decide_eq_false hc | (show (!(decide (x = 0))) = false; rw [decide_eq_true (by omega)]; rfl)
    refine zw_p h (by decide) (by decide) ?_ (n2 (by omega))
    show some (bif zHo 4 x 0 then a1 else q, L, S, m) = _
    rw [hb]
    rfl
theorem zw_39_4 {x y : Int} {i2 : Instr} {b1 b2 q2 t : Nat} (h : zRow xM k pc = some (39, i, q, b1, b2)) (h2 : zRow xM k q = some (40, i2, q2, t, 4)) (n1 : ¬ x = y → zW E d k t L S m Q) (n2 : x = y → zW E d k q2 L S m Q) : zW E d k pc L ((1, y) :: (1, x) :: S) m Q := by
  refine zw_p h (by decide) (by decide) rfl (zw_40_4 h2 (fun hs => n1 ?_) (fun hs => n2 ?_))
  · unfold zSgn at hs
    split at hs
    · omega
    · split at hs <;> omega
  · unfold zSgn at hs
    split at hs
    · omega
    · split at hs <;> omega
theorem zw_41_5 {x y : Int} (h : zRow xM k pc = some (41, i, q, a1, 5)) (n1 : x ≤ y → zW E d k a1 L S m Q) (n2 : y < x → zW E d k q L S m Q) : zW E d k pc L ((0, y) :: (0, x) :: S) m Q := by
  by_cases hc : x ≤ y
  · have hb : zHo 5 x y = true := by first | exact decide_eq_true hc | (show (!(decide (x = y))) = true; rw [decide_eq_false hc]; rfl)
    refine zw_p h (by decide) (by decide) ?_ (n1 hc)
    show some (bif zHo 5 x y then a1 else q, L, S, m) = _
    rw [hb]
    rfl
  · have hb : zHo 5 x y = false := by first | exact decide_eq_false hc | (show (!(decide (x = y))) = false; rw [decide_eq_true (by omega)]; rfl)
    refine zw_p h (by decide) (by decide) ?_ (n2 (by omega))
    show some (bif zHo 5 x y then a1 else q, L, S, m) = _
    rw [hb]
    rfl
theorem zw_40_5 {x : Int} (h : zRow xM k pc = some (40, i, q, a1, 5)) (n1 : x ≤ 0 → zW E d k a1 L S m Q) (n2 : 0 < x → zW E d k q L S m Q) : zW E d k pc L ((0, x) :: S) m Q := by
  by_cases hc : x ≤ 0
  · have hb : zHo 5 x 0 = true := by first | exact decide_eq_true hc | (show (!(decide (x = 0))) = true; rw [decide_eq_false hc]; rfl)
    refine zw_p h (by decide) (by decide) ?_ (n1 hc)
    show some (bif zHo 5 x 0 then a1 else q, L, S, m) = _
    rw [hb]
    rfl
  · have hb : zHo 5 x 0 = false := by first | exact decide_eq_false hc | (show (!(decide (x = 0))) = false; rw [decide_eq_true (by omega)]; rfl)
    refine zw_p h (by decide) (by decide) ?_ (n2 (by omega))
    show some (bif zHo 5 x 0 then a1 else q, L, S, m) = _
    rw [hb]
    rfl
theorem zw_39_5 {x y : Int} {i2 : Instr} {b1 b2 q2 t : Nat} (h : zRow xM k pc = some (39, i, q, b1, b2)) (h2 : zRow xM k q = some (40, i2, q2, t, 5)) (n1 : x ≤ y → zW E d k t L S m Q) (n2 : y < x → zW E d k q2 L S m Q) : zW E d k pc L ((1, y) :: (1, x) :: S) m Q := by
  refine zw_p h (by decide) (by decide) rfl (zw_40_5 h2 (fun hs => n1 ?_) (fun hs => n2 ?_))
  · unfold zSgn at hs
    split at hs
    · omega
    · split at hs <;> omega
  · unfold zSgn at hs
    split at hs
    · omega
    · split at hs <;> omega
theorem zw_43 {t : Nat} {v : Int} (h : zRow xM k pc = some (43, i, q, a1, a2)) (hc : zCat (t, v) = 1) (n : zW E d k q L ((t, v) :: (t, v) :: S) m Q) : zW E d k pc L ((t, v) :: S) m Q := by
  refine zw_p h (by decide) (by decide) ?_ n
  show zo_dup q L ((t, v) :: S) m = _
  unfold zo_dup
  try dsimp only
  rw [if_pos hc]
theorem zw_44 {v w : zV} (h : zRow xM k pc = some (44, i, q, a1, a2)) (hc : zCat v = 1 ∧ zCat w = 1) (n : zW E d k q L (v :: w :: v :: S) m Q) : zW E d k pc L (v :: w :: S) m Q := by
  refine zw_p h (by decide) (by decide) ?_ n
  show zo_dup_x1 q L (v :: w :: S) m = _
  unfold zo_dup_x1
  try dsimp only
  rw [if_pos hc]
theorem zw_45 {v w : zV} (h : zRow xM k pc = some (45, i, q, a1, a2)) (hc : zCat v = 1 ∧ zCat w = 1) (n : zW E d k q L (v :: w :: v :: w :: S) m Q) : zW E d k pc L (v :: w :: S) m Q := by
  refine zw_p h (by decide) (by decide) ?_ n
  show zo_dup2 q L (v :: w :: S) m = _
  unfold zo_dup2
  try dsimp only
  rw [if_pos hc]
theorem zw_115 {v : zV} (h : zRow xM k pc = some (115, i, q, a1, a2)) (hc : zCat v = 1) (n : zW E d k q L S m Q) : zW E d k pc L (v :: S) m Q := by
  refine zw_p h (by decide) (by decide) ?_ n
  show zo_pop q L (v :: S) m = _
  unfold zo_pop
  try dsimp only
  rw [if_pos hc]
theorem zw_116 {v : zV} (h : zRow xM k pc = some (116, i, q, a1, a2)) (hc : zCat v = 2) (n : zW E d k q L S m Q) : zW E d k pc L (v :: S) m Q := by
  refine zw_p h (by decide) (by decide) ?_ n
  show zo_pop2 q L (v :: S) m = _
  unfold zo_pop2
  try dsimp only
  rw [if_pos hc]
/-! fields; c is the cell -/
theorem zw_46r {r s : Int} {c : Nat} (h : zRow xM k pc = some (46, i, q, a1, a2)) (hc : r.toNat = c) (hh : zHd c = 8 * a1 + 2) (hk : zKd c a2 = (2, s.toNat)) (hs : (s.toNat : Int) = s) (n : zW E d k q L ((2, s) :: S) m Q) : zW E d k pc L ((2, r) :: S) m Q := by
  refine zw_p h (by decide) (by decide) ?_ n
  show (if zHd r.toNat = 8 * a1 + 2 then (match zFv (zKd r.toNat a2) (m r.toNat a2) with
    | some v => some (q, L, v :: S, m)
    | none => none) else none) = _
  rw [hc, if_pos hh, hk]
  show some (q, L, (2, (s.toNat : Int)) :: S, m) = _
  rw [hs]
theorem zw_46i {r p : Int} {c : Nat} (h : zRow xM k pc = some (46, i, q, a1, a2)) (he : m c a2 = p) (hc : r.toNat = c) (hh : zHd c = 8 * a1 + 2) (hk : zKd c a2 = (0, 0)) (n : zW E d k q L ((0, p) :: S) m Q) : zW E d k pc L ((2, r) :: S) m Q := by
  refine zw_p h (by decide) (by decide) ?_ n
  show (if zHd r.toNat = 8 * a1 + 2 then (match zFv (zKd r.toNat a2) (m r.toNat a2) with
    | some v => some (q, L, v :: S, m)
    | none => none) else none) = _
  rw [hc, if_pos hh, hk, he]
  rfl
theorem zw_46l {r p : Int} {c : Nat} (h : zRow xM k pc = some (46, i, q, a1, a2)) (he : m c a2 = p) (hc : r.toNat = c) (hh : zHd c = 8 * a1 + 2) (hk : zKd c a2 = (1, 0)) (n : zW E d k q L ((1, p) :: S) m Q) : zW E d k pc L ((2, r) :: S) m Q := by
  refine zw_p h (by decide) (by decide) ?_ n
  show (if zHd r.toNat = 8 * a1 + 2 then (match zFv (zKd r.toNat a2) (m r.toNat a2) with
    | some v => some (q, L, v :: S, m)
    | none => none) else none) = _
  rw [hc, if_pos hh, hk, he]
  rfl
theorem zw_47 {t c : Nat} {r v : Int} (h : zRow xM k pc = some (47, i, q, a1, a2)) (hc : r.toNat = c) (hh : zHd c = 8 * a1 + 2 ∧ t < 2 ∧ (zKd c a2).1 = t) (n : ∀ m', m' = zUp m c a2 v → zW E d k q L S m' Q) : zW E d k pc L ((t, v) :: (2, r) :: S) m Q := by
  refine zw_p h (by decide) (by decide) ?_ (n _ rfl)
  show (if zHd r.toNat = 8 * a1 + 2 ∧ t < 2 ∧ (zKd r.toNat a2).1 = t then some (q, L, S, zUp m r.toNat a2 v) else none) = _
  rw [hc, if_pos hh]
/-! arrays -/
theorem zw_48 {r x : Int} {c len : Nat} (h : zRow xM k pc = some (48, i, q, a1, a2)) (hc : r.toNat = c) (hh : zHd c = 8 * len + 1) (h0 : 0 ≤ x) (h1 : x < len) (n : ∀ v, v = m c x.toNat → zW E d k q L ((0, v) :: S) m Q) : zW E d k pc L ((0, x) :: (2, r) :: S) m Q := by
  refine zw_p h (by decide) (by decide) ?_ (n _ rfl)
  show (if zHd r.toNat % 8 = 1 ∧ 0 ≤ x ∧ x < zLen r.toNat then some (q, L, (0, m r.toNat x.toNat) :: S, m) else none) = _
  have hl : zLen c = len := by unfold zLen; omega
  rw [hc, if_pos ⟨by omega, h0, by rw [hl]; exact h1⟩]
theorem zw_50 {r x : Int} {c len : Nat} (h : zRow xM k pc = some (50, i, q, a1, a2)) (hc : r.toNat = c) (hh : zHd c = 8 * len + 3) (h0 : 0 ≤ x) (h1 : x < len) (n : ∀ v, v = m c x.toNat → zW E d k q L ((1, v) :: S) m Q) : zW E d k pc L ((0, x) :: (2, r) :: S) m Q := by
  refine zw_p h (by decide) (by decide) ?_ (n _ rfl)
  show (if zHd r.toNat % 8 = 3 ∧ 0 ≤ x ∧ x < zLen r.toNat then some (q, L, (1, m r.toNat x.toNat) :: S, m) else none) = _
  have hl : zLen c = len := by unfold zLen; omega
  rw [hc, if_pos ⟨by omega, h0, by rw [hl]; exact h1⟩]
theorem zw_52 {r x : Int} {c len : Nat} (h : zRow xM k pc = some (52, i, q, a1, a2)) (hc : r.toNat = c) (hh : zHd c = 8 * len + 5) (h0 : 0 ≤ x) (h1 : x < len) (n : ∀ v, v = m c x.toNat → zW E d k q L ((0, v) :: S) m Q) : zW E d k pc L ((0, x) :: (2, r) :: S) m Q := by
  refine zw_p h (by decide) (by decide) ?_ (n _ rfl)
  show (if zHd r.toNat % 8 = 5 ∧ 0 ≤ x ∧ x < zLen r.toNat then some (q, L, (0, m r.toNat x.toNat) :: S, m) else none) = _
  have hl : zLen c = len := by unfold zLen; omega
  rw [hc, if_pos ⟨by omega, h0, by rw [hl]; exact h1⟩]
theorem zw_49 {r x v : Int} {c len : Nat} (h : zRow xM k pc = some (49, i, q, a1, a2)) (hc : r.toNat = c) (hh : zHd c = 8 * len + 1) (h0 : 0 ≤ x) (h1 : x < len) (n : ∀ m', m' = zUp m c x.toNat v → zW E d k q L S m' Q) : zW E d k pc L ((0, v) :: (0, x) :: (2, r) :: S) m Q := by
  refine zw_p h (by decide) (by decide) ?_ (n _ rfl)
  show (if zHd r.toNat % 8 = 1 ∧ 0 ≤ x ∧ x < zLen r.toNat then some (q, L, S, zUp m r.toNat x.toNat v) else none) = _
  have hl : zLen c = len := by unfold zLen; omega
  rw [hc, if_pos ⟨by omega, h0, by rw [hl]; exact h1⟩]
theorem zw_51 {r x v : Int} {c len : Nat} (h : zRow xM k pc = some (51, i, q, a1, a2)) (hc : r.toNat = c) (hh : zHd c = 8 * len + 3) (h0 : 0 ≤ x) (h1 : x < len) (n : ∀ m', m' = zUp m c x.toNat v → zW E d k q L S m' Q) : zW E d k pc L ((1, v) :: (0, x) :: (2, r) :: S) m Q := by
  refine zw_p h (by decide) (by decide) ?_ (n _ rfl)
  show (if zHd r.toNat % 8 = 3 ∧ 0 ≤ x ∧ x < zLen r.toNat then some (q, L, S, zUp m r.toNat x.toNat v) else none) = _
  have hl : zLen c = len := by unfold zLen; omega
  rw [hc, if_pos ⟨by omega, h0, by rw [hl]; exact h1⟩]
theorem zw_53 {r x v : Int} {c len : Nat} (h : zRow xM k pc = some (53, i, q, a1, a2)) (hc : r.toNat = c) (hh : zHd c = 8 * len + 5) (h0 : 0 ≤ x) (h1 : x < len) (hv : v = 0 ∨ v = 1) (n : ∀ m', m' = zUp m c x.toNat v → zW E d k q L S m' Q) : zW E d k pc L ((0, v) :: (0, x) :: (2, r) :: S) m Q := by
  refine zw_p h (by decide) (by decide) ?_ (n _ rfl)
  show (if zHd r.toNat % 8 = 5 ∧ 0 ≤ x ∧ x < zLen r.toNat ∧ (v = 0 ∨ v = 1) then some (q, L, S, zUp m r.toNat x.toNat v) else none) = _
  have hl : zLen c = len := by unfold zLen; omega
  rw [hc, if_pos ⟨by omega, h0, by rw [hl]; exact h1, hv⟩]
theorem zw_54 {r x s : Int} (h : zRow xM k pc = some (54, i, q, a1, a2)) (hs : zo_aald q L ((0, x) :: (2, r) :: S) m = some (q, L, (2, s) :: S, m)) (n : zW E d k q L ((2, s) :: S) m Q) : zW E d k pc L ((0, x) :: (2, r) :: S) m Q := zw_p h (by decide) (by decide) hs n
theorem zw_100 {x w : Int} (h : zRow xM k pc = some (100, i, q, a1, a2)) (hk : k = 0) (h0 : 0 ≤ x) (h1 : x < E.1) (n : ∀ v, v = (E.2 x.toNat).toInt → -2147483648 ≤ v → v ≤ 2147483647 → zW E d k q L ((0, v) :: S) m Q) : zW E d k pc L ((0, x) :: (6, w) :: S) m Q := by
  refine zw_p h (by decide) (by decide) ?_ (n _ rfl (zToInt _).1 (zToInt _).2)
  show (if k = 0 ∧ 0 ≤ x ∧ x < E.1 then some (q, L, (0, (E.2 x.toNat).toInt) :: S, m) else none) = _
  rw [if_pos ⟨hk, h0, h1⟩]
theorem zw_101 {r : Int} {c len : Nat} (h : zRow xM k pc = some (101, i, q, a1, a2)) (hc : r.toNat = c) (hh : zHd c = 8 * len + 1) (hl : len < 100000) (n : zW E d k q L ((0, (len : Int)) :: S) m Q) : zW E d k pc L ((2, r) :: S) m Q := by
  refine zw_p h (by decide) (by decide) ?_ n
  show (if zHd r.toNat % 8 = 1 ∧ zHd r.toNat < 17179869184 then some (q, L, (0, (zLen r.toNat : Int)) :: S, m) else none) = _
  have e : zLen c = len := by unfold zLen; omega
  rw [hc, if_pos ⟨by omega, by omega⟩, e]
theorem zw_101s {w : Int} (h : zRow xM k pc = some (101, i, q, a1, a2)) (hk : k = 0) (hl : E.1 < 2147483648) (n : zW E d k q L ((0, (E.1 : Int)) :: S) m Q) : zW E d k pc L ((6, w) :: S) m Q := by
  refine zw_p h (by decide) (by decide) ?_ n
  show (if k = 0 ∧ E.1 < 2147483648 then some (q, L, (0, (E.1 : Int)) :: S, m) else none) = _
  rw [if_pos ⟨hk, hl⟩]
theorem zw_112 {x df off : Int} {ps : Array (Int × Int)} {t : Nat} (h : zRow xM k pc = some (112, .lookupswitch df ps, q, a1, a2)) (ho : Op.lookupswitch.offset ps.toList df x = off) (ht : (pc : Int) + off = t) (n : zW E d k t L S m Q) : zW E d k pc L ((0, x) :: S) m Q := by
  refine zw_p h (by decide) (by decide) ?_ n
  show (if 0 ≤ (pc : Int) + Op.lookupswitch.offset ps.toList df x then some (((pc : Int) + Op.lookupswitch.offset ps.toList df x).toNat, L, S, m) else none) = _
  rw [ho, ht, if_pos (by omega)]
  rfl
theorem zw_111 {x df lo hi : Int} {offs : Array Int} {t : Nat} (h : zRow xM k pc = some (111, .tableswitch df lo hi offs, q, a1, a2)) (hs : zo_tsw (.tableswitch df lo hi offs) pc L ((0, x) :: S) m = some (t, L, S, m)) (n : zW E d k t L S m Q) : zW E d k pc L ((0, x) :: S) m Q := zw_p h (by decide) (by decide) hs n
theorem zw_111d {x df lo hi : Int} {offs : Array Int} {t : Nat} (h : zRow xM k pc = some (111, .tableswitch df lo hi offs, q, a1, a2)) (hx : x < lo ∨ hi < x) (ht : (pc : Int) + df = t) (n : zW E d k t L S m Q) : zW E d k pc L ((0, x) :: S) m Q := by
  refine zw_111 h ?_ n
  show (if x < lo ∨ hi < x then (if 0 ≤ (pc : Int) + df then some (((pc : Int) + df).toNat, L, S, m) else none) else (match offs[(x - lo).toNat]? with
      | none => none
      | some off => if 0 ≤ (pc : Int) + off then some (((pc : Int) + off).toNat, L, S, m) else none)) = _
  rw [if_pos hx, ht, if_pos (by omega)]
  rfl
theorem zw_114 {nn dp dst sp src : Int} {c1 c2 l1 l2 : Nat} (h : zRow xM k pc = some (114, i, q, a1, a2)) (hc1 : dst.toNat = c1) (hc2 : src.toNat = c2) (hh1 : zHd c1 = 8 * l1 + 1) (hh2 : zHd c2 = 8 * l2 + 1) (hne : c1 ≠ c2) (hs : zCats S ≤ 8) (hd : 0 < d) (h0 : 0 ≤ nn ∧ 0 ≤ dp ∧ 0 ≤ sp ∧ dp + nn ≤ l1 ∧ sp + nn ≤ l2) (n : ∀ m', m' = zCp m c1 dp.toNat c2 sp.toNat nn.toNat → zW E d k q L S m' Q) : zW E d k pc L ((0, nn) :: (0, dp) :: (2, dst) :: (0, sp) :: (2, src) :: S) m Q := by
  refine zw_p h (by decide) (by decide) ?_ (n _ rfl)
  show (if 0 ≤ nn ∧ 0 ≤ dp ∧ 0 ≤ sp ∧ zCats S ≤ 8 ∧ 0 < d ∧ dst.toNat ≠ src.toNat ∧ zHd dst.toNat % 8 = 1 ∧ zHd src.toNat % 8 = 1 ∧ dp + nn ≤ zLen dst.toNat ∧ sp + nn ≤ zLen src.toNat then some (q, L, S, zCp m dst.toNat dp.toNat src.toNat sp.toNat nn.toNat) else none) = _
  have e1 : zLen c1 = l1 := by unfold zLen; omega
  have e2 : zLen c2 = l2 := by unfold zLen; omega
  rw [hc1, hc2, if_pos ⟨h0.1, h0.2.1, h0.2.2.1, hs, hd, hne, by omega, by omega, by rw [e1]; exact h0.2.2.2.1, by rw [e2]; exact h0.2.2.2.2⟩]
/-! Math -/
theorem zlt32 {x y : Int} (hx : -2147483648 ≤ x ∧ x ≤ 2147483647) (hy : -2147483648 ≤ y ∧ y ≤ 2147483647) : Int32.ofInt x < Int32.ofInt y ↔ x < y := by rw [Int32.lt_iff_toInt_lt, zI_of hx, zI_of hy]
theorem zle32 {x y : Int} (hx : -2147483648 ≤ x ∧ x ≤ 2147483647) (hy : -2147483648 ≤ y ∧ y ≤ 2147483647) : Int32.ofInt x ≤ Int32.ofInt y ↔ x ≤ y := by rw [Int32.le_iff_toInt_le, zI_of hx, zI_of hy]
theorem zlt64 {x y : Int} (hx : -9223372036854775808 ≤ x ∧ x ≤ 9223372036854775807) (hy : -9223372036854775808 ≤ y ∧ y ≤ 9223372036854775807) : Int64.ofInt x < Int64.ofInt y ↔ x < y := by rw [Int64.lt_iff_toInt_lt, zL_of hx, zL_of hy]
theorem zw_120 {x y : Int} (h : zRow xM k pc = some (120, i, q, a1, a2)) (hs : zCats S ≤ 8) (hd : 0 < d) (hx : -2147483648 ≤ x ∧ x ≤ 2147483647) (hy : -2147483648 ≤ y ∧ y ≤ 2147483647) (n : ∀ r : Int, x ≤ r → y ≤ r → (r = x ∨ r = y) → zW E d k q L ((0, r) :: S) m Q) : zW E d k pc L ((0, y) :: (0, x) :: S) m Q := by
  have hp : zPure E.1 E.2 d k 120 i pc q a1 a2 L ((0, y) :: (0, x) :: S) m = some (q, L, (0, (if Int32.ofInt x < Int32.ofInt y then Int32.ofInt y else Int32.ofInt x).toInt) :: S, m) := if_pos ⟨hs, hd⟩
  refine zw_p h (by decide) (by decide) hp ?_
  by_cases hc : Int32.ofInt x < Int32.ofInt y
  · rw [if_pos hc]
    rw [zlt32 hx hy] at hc
    rw [zI_of hy]
    exact n _ (by omega) (by omega) (by omega)
  · rw [if_neg hc]
    rw [zlt32 hx hy] at hc
    rw [zI_of hx]
    exact n _ (by omega) (by omega) (by omega)
theorem zw_121 {x y : Int} (h : zRow xM k pc = some (121, i, q, a1, a2)) (hs : zCats S ≤ 8) (hd : 0 < d) (hx : -2147483648 ≤ x ∧ x ≤ 2147483647) (hy : -2147483648 ≤ y ∧ y ≤ 2147483647) (n : ∀ r : Int, r ≤ x → r ≤ y → (r = x ∨ r = y) → zW E d k q L ((0, r) :: S) m Q) : zW E d k pc L ((0, y) :: (0, x) :: S) m Q := by
  have hp : zPure E.1 E.2 d k 121 i pc q a1 a2 L ((0, y) :: (0, x) :: S) m = some (q, L, (0, (if Int32.ofInt y < Int32.ofInt x then Int32.ofInt y else Int32.ofInt x).toInt) :: S, m) := if_pos ⟨hs, hd⟩
  refine zw_p h (by decide) (by decide) hp ?_
  by_cases hc : Int32.ofInt y < Int32.ofInt x
  · rw [if_pos hc]
    rw [zlt32 hy hx] at hc
    rw [zI_of hy]
    exact n _ (by omega) (by omega) (by omega)
  · rw [if_neg hc]
    rw [zlt32 hy hx] at hc
    rw [zI_of hx]
    exact n _ (by omega) (by omega) (by omega)
theorem zw_123 {x y : Int} (h : zRow xM k pc = some (123, i, q, a1, a2)) (hs : zCats S ≤ 8) (hd : 0 < d) (hx : -9223372036854775808 ≤ x ∧ x ≤ 9223372036854775807) (hy : -9223372036854775808 ≤ y ∧ y ≤ 9223372036854775807) (n : ∀ r : Int, x ≤ r → y ≤ r → (r = x ∨ r = y) → zW E d k q L ((1, r) :: S) m Q) : zW E d k pc L ((1, y) :: (1, x) :: S) m Q := by
  have hp : zPure E.1 E.2 d k 123 i pc q a1 a2 L ((1, y) :: (1, x) :: S) m = some (q, L, (1, (if Int64.ofInt y < Int64.ofInt x then Int64.ofInt x else Int64.ofInt y).toInt) :: S, m) := if_pos ⟨hs, hd⟩
  refine zw_p h (by decide) (by decide) hp ?_
  by_cases hc : Int64.ofInt y < Int64.ofInt x
  · rw [if_pos hc]
    rw [zlt64 hy hx] at hc
    rw [zL_of hx]
    exact n _ (by omega) (by omega) (by omega)
  · rw [if_neg hc]
    rw [zlt64 hy hx] at hc
    rw [zL_of hy]
    exact n _ (by omega) (by omega) (by omega)
theorem zw_124 {x y : Int} (h : zRow xM k pc = some (124, i, q, a1, a2)) (hs : zCats S ≤ 8) (hd : 0 < d) (hx : -9223372036854775808 ≤ x ∧ x ≤ 9223372036854775807) (hy : -9223372036854775808 ≤ y ∧ y ≤ 9223372036854775807) (n : ∀ r : Int, r ≤ x → r ≤ y → (r = x ∨ r = y) → zW E d k q L ((1, r) :: S) m Q) : zW E d k pc L ((1, y) :: (1, x) :: S) m Q := by
  have hp : zPure E.1 E.2 d k 124 i pc q a1 a2 L ((1, y) :: (1, x) :: S) m = some (q, L, (1, (if Int64.ofInt y < Int64.ofInt x then Int64.ofInt y else Int64.ofInt x).toInt) :: S, m) := if_pos ⟨hs, hd⟩
  refine zw_p h (by decide) (by decide) hp ?_
  by_cases hc : Int64.ofInt y < Int64.ofInt x
  · rw [if_pos hc]
    rw [zlt64 hy hx] at hc
    rw [zL_of hy]
    exact n _ (by omega) (by omega) (by omega)
  · rw [if_neg hc]
    rw [zlt64 hy hx] at hc
    rw [zL_of hx]
    exact n _ (by omega) (by omega) (by omega)
theorem zw_122h {x : Int} (h : zRow xM k pc = some (122, i, q, a1, a2)) (hs : zCats S ≤ 8) (hd : 0 < d) (n : ∀ r : Int, -2147483648 ≤ r → r ≤ 2147483647 → zW E d k q L ((0, r) :: S) m Q) : zW E d k pc L ((0, x) :: S) m Q := by
  have hp : zPure E.1 E.2 d k 122 i pc q a1 a2 L ((0, x) :: S) m = some (q, L, (0, (if 0 ≤ Int32.ofInt x then Int32.ofInt x else 0 - Int32.ofInt x).toInt) :: S, m) := if_pos ⟨hs, hd⟩
  exact zw_p h (by decide) (by decide) hp (n _ (zToInt _).1 (zToInt _).2)
theorem zw_125h {x : Int} (h : zRow xM k pc = some (125, i, q, a1, a2)) (hs : zCats S ≤ 8) (hd : 0 < d) (n : ∀ r : Int, -9223372036854775808 ≤ r → r ≤ 9223372036854775807 → zW E d k q L ((1, r) :: S) m Q) : zW E d k pc L ((1, x) :: S) m Q := by
  have hp : zPure E.1 E.2 d k 125 i pc q a1 a2 L ((1, x) :: S) m = some (q, L, (1, (if 0 < Int64.ofInt x then Int64.ofInt x else -(Int64.ofInt x)).toInt) :: S, m) := if_pos ⟨hs, hd⟩
  exact zw_p h (by decide) (by decide) hp (n _ (zToIntL _).1 (zToIntL _).2)
end ZWP
