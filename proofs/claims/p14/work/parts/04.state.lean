/-! what numbers mean: values, cells, worlds, locals, unknowns -/
def xg (ρ : Nat → Int32) (b : Nat) (ad : Nat → Nat) (c : Nat) : Value := match c % 8 with
  | 0 => .int (nI (c / 8))
  | 1 => .long (lN (c / 8))
  | 2 => .ref (ad (c / 8))
  | 3 => .null
  | 4 => .int (ρ (c / 8))
  | 5 => .long (ρ (c / 8)).toInt64
  | 6 => .ref b
  | _ => .long ((ρ (c / 8)).toInt64 + 1)
theorem xg0 {ρ : Nat → Int32} {b : Nat} {ad : Nat → Nat} {c : Nat} (h : c % 8 = 0) : xg ρ b ad c = .int (nI (c / 8)) := by unfold xg; rw [h]; rfl
theorem xg1 {ρ : Nat → Int32} {b : Nat} {ad : Nat → Nat} {c : Nat} (h : c % 8 = 1) : xg ρ b ad c = .long (lN (c / 8)) := by unfold xg; rw [h]; rfl
theorem xg2 {ρ : Nat → Int32} {b : Nat} {ad : Nat → Nat} {c : Nat} (h : c % 8 = 2) : xg ρ b ad c = .ref (ad (c / 8)) := by unfold xg; rw [h]; rfl
theorem xg3 {ρ : Nat → Int32} {b : Nat} {ad : Nat → Nat} {c : Nat} (h : c % 8 = 3) : xg ρ b ad c = .null := by unfold xg; rw [h]; rfl
theorem xg4 {ρ : Nat → Int32} {b : Nat} {ad : Nat → Nat} {c : Nat} (h : c % 8 = 4) : xg ρ b ad c = .int (ρ (c / 8)) := by unfold xg; rw [h]; rfl
theorem xg5 {ρ : Nat → Int32} {b : Nat} {ad : Nat → Nat} {c : Nat} (h : c % 8 = 5) : xg ρ b ad c = .long (ρ (c / 8)).toInt64 := by unfold xg; rw [h]; rfl
theorem xg6 {ρ : Nat → Int32} {b : Nat} {ad : Nat → Nat} {c : Nat} (h : c % 8 = 6) : xg ρ b ad c = .ref b := by unfold xg; rw [h]; rfl
theorem xg7 {ρ : Nat → Int32} {b : Nat} {ad : Nat → Nat} {c : Nat} (h : c % 8 = 7) : xg ρ b ad c = .long ((ρ (c / 8)).toInt64 + 1) := by unfold xg; rw [h]; rfl
theorem xcases (c : Nat) : c % 8 = 0 ∨ c % 8 = 1 ∨ c % 8 = 2 ∨ c % 8 = 3 ∨ c % 8 = 4 ∨ c % 8 = 5 ∨ c % 8 = 6 ∨ c % 8 = 7 := by omega
theorem xg_cat (ρ : Nat → Int32) (b : Nat) (ad : Nat → Nat) (c : Nat) : (xg ρ b ad c).category = xCat c := by
  unfold xCat xIsL
  rcases xcases c with h | h | h | h | h | h | h | h
  · rw [xg0 h, h]; rfl
  · rw [xg1 h, h]; rfl
  · rw [xg2 h, h]; rfl
  · rw [xg3 h, h]; rfl
  · rw [xg4 h, h]; rfl
  · rw [xg5 h, h]; rfl
  · rw [xg6 h, h]; rfl
  · rw [xg7 h, h]; rfl
def xd32 (ρ : Nat → Int32) (c : Nat) : Int32 := if c % 8 = 4 then ρ (c / 8) else nI (c / 8)
theorem xgI {ρ : Nat → Int32} {b : Nat} {ad : Nat → Nat} {c : Nat} (h : xIsI c = true) : xg ρ b ad c = .int (xd32 ρ c) := by
  unfold xIsI at h
  unfold xd32
  rcases xcases c with q | q | q | q | q | q | q | q <;> rw [q] at h <;> first | (exact absurd h (by decide)) | skip
  · rw [xg0 q, if_neg (by omega)]
  · rw [xg4 q, if_pos q]
def xdL (ρ : Nat → Int32) (c : Nat) : Int64 := if c % 8 = 1 then lN (c / 8) else if c % 8 = 5 then (ρ (c / 8)).toInt64 else (ρ (c / 8)).toInt64 + 1
theorem xgL {ρ : Nat → Int32} {b : Nat} {ad : Nat → Nat} {c : Nat} (h : xIsL c = true) : xg ρ b ad c = .long (xdL ρ c) := by
  unfold xIsL at h
  unfold xdL
  rcases xcases c with q | q | q | q | q | q | q | q <;> rw [q] at h <;> first | (exact absurd h (by decide)) | skip
  · rw [xg1 q, if_pos q]
  · rw [xg5 q, if_neg (by omega), if_pos q]
  · rw [xg7 q, if_neg (by omega), if_neg (by omega)]
theorem xgR {ρ : Nat → Int32} {b : Nat} {ad : Nat → Nat} {c : Nat} (h : xIsR c = true) : ∃ a, xg ρ b ad c = .ref a := by
  unfold xIsR at h
  rcases xcases c with q | q | q | q | q | q | q | q <;> rw [q] at h <;> first | (exact absurd h (by decide)) | skip
  · exact ⟨_, xg2 q⟩
  · exact ⟨_, xg6 q⟩
/-- a value does not change where the places below n keep their addresses -/
theorem xg_keep {ρ : Nat → Int32} {b : Nat} {ad ad' : Nat → Nat} {n : Nat} (ha : ∀ i, i < n → ad' i = ad i) {c : Nat} (h : c % 8 = 2 → c / 8 < n) : xg ρ b ad' c = xg ρ b ad c := by
  rcases xcases c with q | q | q | q | q | q | q | q
  · rw [xg0 q, xg0 q]
  · rw [xg1 q, xg1 q]
  · rw [xg2 q, xg2 q, ha _ (h q)]
  · rw [xg3 q, xg3 q]
  · rw [xg4 q, xg4 q]
  · rw [xg5 q, xg5 q]
  · rw [xg6 q, xg6 q]
  · rw [xg7 q, xg7 q]
theorem xWfL_mem {n : Nat} {l : List Nat} (h : xWfL n l = true) : ∀ c ∈ l, c % 8 = 2 → c / 8 < n := by
  induction l with
  | nil => intro c hc; cases hc
  | cons a t ih =>
    intro c hc h2
    have h' : ((bif Nat.beq (a % 8) 2 then Nat.blt (a / 8) n else true) && xWfL n t) = true := h
    rw [Bool.and_eq_true] at h'
    rcases List.mem_cons.mp hc with rfl | hc
    · have h1 := h'.1
      rw [h2] at h1
      exact Nat.le_of_ble_eq_true h1
    · exact ih h'.2 c hc h2
theorem xmap_keep {ρ : Nat → Int32} {b : Nat} {ad ad' : Nat → Nat} {n : Nat} (ha : ∀ i, i < n → ad' i = ad i) {l : List Nat} (h : xWfL n l = true) : l.map (xg ρ b ad') = l.map (xg ρ b ad) :=
  List.map_congr_left fun c hc => xg_keep ha (xWfL_mem h c hc)
/-! cells and worlds -/
def xqf (ad : Nat → Nat) (d : Nat) : Option Nat := if d = 0 then none else some (ad (d - 1))
def xE (ρ : Nat → Int32) (b : Nat) (cA : Nat → ClassId) (ad : Nat → Nat) (c : Nat) : va_E :=
  if c % 8 = 2 then .inr (c % 18446744073709551616 / 8, (List.range (xNf (c % 18446744073709551616 / 8))).map (fun k => xg ρ b ad (xDn c k 1)))
  else .inl (cA (c % 8 / 2), c % 18446744073709551616 / 8, if c % 8 = 3 then .inr (.inl (fun k => lN (xDn c k 1))) else if c % 8 = 7 then .inr (.inr (.inr (.inr (fun k => if k < c % 18446744073709551616 / 8 then xqf ad (xDn c k 1) else none)))) else .inl (fun k => xd32 ρ (xDn c k 1)))
def xWs (ρ : Nat → Int32) (b : Nat) (cA : Nat → ClassId) (ad : Nat → Nat) (Wd : List Nat) : va_W := Wd.mapIdx (fun i c => (ad i, xE ρ b cA ad c))
theorem xWs_get {ρ : Nat → Int32} {b : Nat} {cA : Nat → ClassId} {ad : Nat → Nat} {Wd : List Nat} {i c : Nat} (h : Wd[i]? = some c) : (xWs ρ b cA ad Wd)[i]? = some (ad i, xE ρ b cA ad c) := by
  unfold xWs
  rw [List.getElem?_mapIdx, h]
  rfl
theorem xWs_set (ρ : Nat → Int32) (b : Nat) (cA : Nat → ClassId) (ad : Nat → Nat) (Wd : List Nat) (i c : Nat) : xWs ρ b cA ad (Wd.set i c) = (xWs ρ b cA ad Wd).set i (ad i, xE ρ b cA ad c) := by
  unfold xWs
  apply List.ext_getElem?
  intro j
  rw [List.getElem?_mapIdx]
  by_cases hj : i = j
  · subst hj
    by_cases hl : i < Wd.length
    · rw [List.getElem?_set_self hl, List.getElem?_set_self (by simpa using hl)]
      rfl
    · rw [List.getElem?_eq_none (by simpa using Nat.not_lt.mp hl), List.getElem?_eq_none (by simpa using Nat.not_lt.mp hl)]
      rfl
  · rw [List.getElem?_set_ne hj, List.getElem?_set_ne hj, List.getElem?_mapIdx]
theorem xWs_len (ρ : Nat → Int32) (b : Nat) (cA : Nat → ClassId) (ad : Nat → Nat) (Wd : List Nat) : (xWs ρ b cA ad Wd).length = Wd.length := by unfold xWs; simp
theorem xE_keep {ρ : Nat → Int32} {b : Nat} {cA : Nat → ClassId} {ad ad' : Nat → Nat} {n c : Nat} (ha : ∀ i, i < n → ad' i = ad i) (h : xWfC n c = true) : xE ρ b cA ad' c = xE ρ b cA ad c := by
  have hD : ∀ m, xWfD n c m = true → ∀ k, k < m → xDn c k 1 % 8 = 2 → xDn c k 1 / 8 < n := by
    intro m
    induction m with
    | zero => intro _ k hk; omega
    | succ m ih =>
      intro hm k hk h2
      have h' : ((bif Nat.beq (xDn c m 1 % 8) 2 then Nat.blt (xDn c m 1 / 8) n else true) && xWfD n c m) = true := hm
      rw [Bool.and_eq_true] at h'
      by_cases hkm : k = m
      · subst hkm
        have h1 := h'.1
        rw [h2] at h1
        exact Nat.le_of_ble_eq_true h1
      · exact ih h'.2 k (by omega) h2
  have hQ : ∀ m, xWfQ n c m = true → ∀ k, k < m → xDn c k 1 ≤ n := by
    intro m
    induction m with
    | zero => intro _ k hk; omega
    | succ m ih =>
      intro hm k hk
      have h' : (Nat.ble (xDn c m 1) n && xWfQ n c m) = true := hm
      rw [Bool.and_eq_true] at h'
      by_cases hkm : k = m
      · subst hkm
        exact Nat.le_of_ble_eq_true h'.1
      · exact ih h'.2 k (by omega)
  unfold xWfC at h
  unfold xE
  by_cases h2 : c % 8 = 2
  · rw [if_pos h2, if_pos h2]
    have e2 : Nat.beq (c % 2) 0 = true := by rw [← x2, h2]; rfl
    rw [e2] at h
    congr 2
    apply List.map_congr_left
    intro k hk
    exact xg_keep ha (hD _ h k (List.mem_range.mp hk))
  · rw [if_neg h2, if_neg h2]
    by_cases h3 : c % 8 = 3
    · rw [if_pos h3, if_pos h3]
    · rw [if_neg h3, if_neg h3]
      by_cases h7 : c % 8 = 7
      · rw [if_pos h7, if_pos h7]
        have e2 : Nat.beq (c % 2) 0 = false := by rw [← x2, h7]; rfl
        rw [e2, h7] at h
        have hf : (fun k => if k < c % 18446744073709551616 / 8 then xqf ad' (xDn c k 1) else none) = (fun k => if k < c % 18446744073709551616 / 8 then xqf ad (xDn c k 1) else none) := by
          funext k
          by_cases hk : k < c % 18446744073709551616 / 8
          · rw [if_pos hk, if_pos hk]
            unfold xqf
            by_cases hz : xDn c k 1 = 0
            · rw [if_pos hz, if_pos hz]
            · rw [if_neg hz, if_neg hz, ha]
              have := hQ _ h k hk
              omega
          · rw [if_neg hk, if_neg hk]
        rw [hf]
      · rw [if_neg h7, if_neg h7]
/-! locals -/
def xLl (g : Nat → Value) (L : List Nat) : List (Nat × Value) := (List.range L.length).filterMap (fun i => match L[i]? with
  | none => none
  | some c => if c = 11 then none else some (i, g c))
theorem xLl_mem {g : Nat → Value} {L : List Nat} {q : Nat × Value} : q ∈ xLl g L ↔ ∃ c, L[q.1]? = some c ∧ c ≠ 11 ∧ q.2 = g c := by
  unfold xLl
  rw [List.mem_filterMap]
  constructor
  · rintro ⟨i, -, h⟩
    cases hc : L[i]? with
    | none => rw [hc] at h; cases h
    | some c =>
      rw [hc] at h
      dsimp only at h
      by_cases h11 : c = 11
      · rw [if_pos h11] at h; cases h
      · rw [if_neg h11] at h
        cases h
        exact ⟨c, hc, h11, rfl⟩
  · rintro ⟨c, h1, h2, h3⟩
    refine ⟨q.1, List.mem_range.mpr (List.getElem?_eq_some_iff.mp h1).1, ?_⟩
    rw [h1]
    dsimp only
    rw [if_neg h2, ← h3]
theorem xlv_mono {ls : Array Slot} {nL : Nat} {l l' : List (Nat × Value)} (h : lv_has ls nL l) (hs : ∀ q ∈ l', q ∈ l) : lv_has ls nL l' := ⟨h.1, h.2.1, fun q hq => h.2.2 q (hs q hq)⟩
theorem xlv_at {ls : Array Slot} {nL : Nat} {g : Nat → Value} {L : List Nat} (h : lv_has ls nL (xLl g L)) {i c : Nat} (hc : L[i]? = some c) (h11 : c ≠ 11) : ls[i]? = some (.val (g c)) := h.2.2 (i, g c) (xLl_mem.mpr ⟨c, hc, h11, rfl⟩)
/-- a store of one slot, of two slots -/
theorem xlv_st1 {g : Nat → Value} {L : List Nat} {i v : Nat} (hcat : ∀ c, (g c).category = xCat c) {L' : List Nat} (hL : xStL L i v (fun L1 => some [(0, 0, L1, [], 0, 0)]) = some [(0, 0, L', [], 0, 0)]) :
    L'.length = L.length ∧ ∀ q ∈ xLl g L', q ∈ (i, g v) :: (xLl g L).filter (fun q => !(q.1 == i) && !(q.1 + 1 == i && q.2.category == 2)) := by
  have key : ∀ L2 : List Nat, L2.length = L.length → (∀ j, j ≠ i → ∀ c, L2[j]? = some c → c ≠ 11 → L[j]? = some c ∧ (j + 1 = i → xCat c = 1)) → L' = L2.set i v → L'.length = L.length ∧ ∀ q ∈ xLl g L', q ∈ (i, g v) :: (xLl g L).filter (fun q => !(q.1 == i) && !(q.1 + 1 == i && q.2.category == 2)) := by
    intro L2 h1 h2 h3
    subst h3
    refine ⟨by rw [List.length_set, h1], fun q hq => ?_⟩
    obtain ⟨c, e1, e2, e3⟩ := xLl_mem.mp hq
    by_cases hj : i = q.1
    · have hlt := (List.getElem?_eq_some_iff.mp e1).1
      rw [List.length_set] at hlt
      rw [← hj, List.getElem?_set_self (by rw [hj]; exact hlt)] at e1
      cases e1
      rw [show q = (i, g v) from Prod.ext hj.symm e3]
      exact List.mem_cons_self
    · rw [List.getElem?_set_ne hj] at e1
      obtain ⟨f1, f2⟩ := h2 q.1 (Ne.symm hj) c e1 e2
      refine List.mem_cons_of_mem _ (List.mem_filter.mpr ⟨xLl_mem.mpr ⟨c, f1, e2, e3⟩, ?_⟩)
      have hb1 : (q.1 == i) = false := by simpa using Ne.symm hj
      rw [hb1]
      by_cases hj1 : q.1 + 1 = i
      · rw [e3, hcat, f2 hj1]
        simp
      · have hb2 : (q.1 + 1 == i) = false := by simpa using hj1
        rw [hb2]
        rfl
  cases i with
  | zero =>
    unfold xStL at hL
    rw [xSet_eq] at hL
    have e : L' = L.set 0 v := by
      have := Option.some.inj hL
      simp at this
      exact this.symm
    exact key L rfl (fun j hj c h1 h2 => ⟨h1, fun h => by omega⟩) e
  | succ j =>
    unfold xStL at hL
    dsimp only at hL
    cases hb : xIsL (xGet L j) with
    | true =>
      rw [hb] at hL
      dsimp only [cond] at hL
      rw [xSet_eq, xSet_eq] at hL
      have e : L' = (L.set j 11).set (j + 1) v := by
        have := Option.some.inj hL
        simp at this
        exact this.symm
      refine key (L.set j 11) (List.length_set) (fun k hk c h1 h2 => ?_) e
      by_cases hkj : j = k
      · subst hkj
        have hlt := (List.getElem?_eq_some_iff.mp h1).1
        rw [List.length_set] at hlt
        rw [List.getElem?_set_self hlt] at h1
        cases h1
        exact absurd rfl h2
      · rw [List.getElem?_set_ne hkj] at h1
        exact ⟨h1, fun h => absurd (by omega) hkj⟩
    | false =>
      rw [hb] at hL
      dsimp only [cond] at hL
      rw [xSet_eq] at hL
      have e : L' = L.set (j + 1) v := by
        have := Option.some.inj hL
        simp at this
        exact this.symm
      refine key L rfl (fun k hk c h1 h2 => ⟨h1, fun h => ?_⟩) e
      have hkj : k = j := by omega
      subst hkj
      have hg : xGet L k = c := by
        rw [xGet_eq, List.getD_eq_getElem?_getD, h1]; rfl
      rw [hg] at hb
      unfold xCat
      rw [hb]
      rfl
/-- what a store makes, whatever comes behind it -/
theorem xStL_ex (L : List Nat) (i v : Nat) : ∃ L', (∀ k : List Nat → xRes, xStL L i v k = k L') := by
  cases i with
  | zero => exact ⟨L.set 0 v, fun k => by unfold xStL; rw [xSet_eq]⟩
  | succ j =>
    cases hb : xIsL (xGet L j) with
    | true => exact ⟨(L.set j 11).set (j + 1) v, fun k => by unfold xStL; dsimp only; rw [hb]; dsimp only [cond]; rw [xSet_eq, xSet_eq]⟩
    | false => exact ⟨L.set (j + 1) v, fun k => by unfold xStL; dsimp only; rw [hb]; dsimp only [cond]; rw [xSet_eq]⟩
/-! unknowns -/
def xz (ρ : Nat → Int32) (k : Nat) : Int := if k = 7 then (ρ 3).toInt - (ρ 2).toInt else (ρ k).toInt
def xEO (ρ : Nat → Int32) (env : xEv) : Prop := ∀ (k : Nat) (q : Int × Int), env[k]? = some q → q.1 ≤ xz ρ k ∧ xz ρ k ≤ q.2
theorem xEO_set {ρ : Nat → Int32} {env : xEv} {s : Nat} {lo hi : Int} (h : xEO ρ env) (h1 : lo ≤ xz ρ s) (h2 : xz ρ s ≤ hi) : xEO ρ (env.set s (lo, hi)) := by
  intro k q hq
  by_cases hk : s = k
  · subst hk
    have hlt := (List.getElem?_eq_some_iff.mp hq).1
    rw [List.length_set] at hlt
    rw [List.getElem?_set_self hlt] at hq
    cases hq
    exact ⟨h1, h2⟩
  · rw [List.getElem?_set_ne hk] at hq
    exact h k q hq
theorem xTri0_sound {ρ : Nat → Int32} {env : xEv} {s : Nat} {c : Int} {f : Int → xEv → xRes} {o : List xOut} (h : xTri0 env s c f = some o) (hE : xEO ρ env) : ∃ (sg : Int) (e' : xEv) (o' : List xOut), f sg e' = some o' ∧ (∀ y ∈ o', y ∈ o) ∧ xEO ρ e' ∧ ((xSgI sg = 0 ∧ xz ρ s < c) ∨ (xSgI sg = 1 ∧ xz ρ s = c) ∨ (xSgI sg = 2 ∧ c < xz ρ s)) := by
  unfold xTri0 at h
  cases hs : env[s]? with
  | none => rw [hs] at h; cases h
  | some q =>
    obtain ⟨lo, hi⟩ := q
    rw [hs] at h
    dsimp only at h
    obtain ⟨g1, g2⟩ := hE s _ hs
    dsimp only at g1 g2
    obtain ⟨x, y, h1, h2, h3⟩ := xApp_some h
    obtain ⟨y1, y2, h4, h5, h6⟩ := xApp_some h2
    subst h3; subst h6
    rcases Int.lt_trichotomy (xz ρ s) c with hlt | heq | hgt
    · rw [if_pos (by omega)] at h1
      exact ⟨-1, _, x, h1, fun z hz => List.mem_append_left _ hz, xEO_set hE g1 (by omega), Or.inl ⟨rfl, hlt⟩⟩
    · rw [if_pos (by omega)] at h4
      exact ⟨0, _, y1, h4, fun z hz => List.mem_append_right _ (List.mem_append_left _ hz), xEO_set hE (by omega) (by omega), Or.inr (Or.inl ⟨rfl, heq⟩)⟩
    · rw [if_pos (by omega)] at h5
      exact ⟨1, _, y2, h5, fun z hz => List.mem_append_right _ (List.mem_append_right _ hz), xEO_set hE (by omega) g2, Or.inr (Or.inr ⟨rfl, hgt⟩)⟩
theorem xTight_sound {ρ : Nat → Int32} {env : xEv} (s : Nat) (hE : xEO ρ env) : xEO ρ (xTight s env) := by
  unfold xTight
  cases Nat.beq s 7 with
  | false => exact hE
  | true =>
    dsimp only [cond]
    cases h2 : env[2]? with
    | none => exact hE
    | some q2 =>
      cases h3 : env[3]? with
      | none => exact hE
      | some q3 =>
        cases h7 : env[7]? with
        | none => exact hE
        | some q7 =>
          have e2 := hE 2 _ h2
          have e3 := hE 3 _ h3
          have e7 := hE 7 _ h7
          have z2 : xz ρ 2 = (ρ 2).toInt := rfl
          have z3 : xz ρ 3 = (ρ 3).toInt := rfl
          have z7 : xz ρ 7 = (ρ 3).toInt - (ρ 2).toInt := rfl
          refine xEO_set hE ?_ ?_
          · rw [z7] at e7 ⊢; rw [z2] at e2; rw [z3] at e3; omega
          · rw [z7] at e7 ⊢; rw [z2] at e2; rw [z3] at e3; omega
theorem xTri_sound {ρ : Nat → Int32} {env : xEv} {s : Nat} {c : Int} {f : Int → xEv → xRes} {o : List xOut} (h : xTri env s c f = some o) (hE : xEO ρ env) : ∃ (sg : Int) (e' : xEv) (o' : List xOut), f sg e' = some o' ∧ (∀ y ∈ o', y ∈ o) ∧ xEO ρ e' ∧ ((xSgI sg = 0 ∧ xz ρ s < c) ∨ (xSgI sg = 1 ∧ xz ρ s = c) ∨ (xSgI sg = 2 ∧ c < xz ρ s)) := xTri0_sound h (xTight_sound s hE)
theorem xConc_sound {ρ : Nat → Int32} {env : xEv} {s : Nat} {f : Int → xEv → xRes} {o : List xOut} (h : xConc env s f = some o) (hE : xEO ρ env) : ∃ (e' : xEv) (o' : List xOut), f (xz ρ s) e' = some o' ∧ (∀ y ∈ o', y ∈ o) ∧ xEO ρ e' := by
  have key : ∀ (g : Int → xRes) (n : Nat) (lo v : Int) (o : List xOut), xForkN g n lo = some o → lo ≤ v → v < lo + n → ∃ o', g v = some o' ∧ ∀ y ∈ o', y ∈ o := by
    intro g n
    induction n with
    | zero => intro lo v o _ h1 h2; omega
    | succ n ih =>
      intro lo v o h h1 h2
      have h' : xApp (g lo) (xForkN g n (lo + 1)) = some o := h
      obtain ⟨x, y, e1, e2, e3⟩ := xApp_some h'
      subst e3
      by_cases hv : v = lo
      · subst hv
        exact ⟨x, e1, fun z hz => List.mem_append_left _ hz⟩
      · obtain ⟨o', f1, f2⟩ := ih (lo + 1) v y e2 (by omega) (by omega)
        exact ⟨o', f1, fun z hz => List.mem_append_right _ (f2 z hz)⟩
  unfold xConc at h
  cases hs : env[s]? with
  | none => rw [hs] at h; cases h
  | some q =>
    obtain ⟨lo, hi⟩ := q
    rw [hs] at h
    dsimp only at h
    obtain ⟨g1, g2⟩ := hE s _ hs
    dsimp only at g1 g2
    by_cases hl : hi - lo ≤ 200
    · rw [if_pos hl] at h
      obtain ⟨o', f1, f2⟩ := key _ _ _ (xz ρ s) o h g1 (by omega)
      exact ⟨_, o', f1, f2, xEO_set hE (Int.le_refl _) (Int.le_refl _)⟩
    · rw [if_neg hl] at h; cases h
theorem xC0_sound {ρ : Nat → Int32} {b : Nat} {env : xEv} {y : Nat} {k : Nat → xEv → xRes} {o : List xOut} (h : xC0 env y k = some o) (h4 : y % 8 = 4) (hE : xEO ρ env) : ∃ (y' : Nat) (e' : xEv) (o' : List xOut), k y' e' = some o' ∧ (∀ z ∈ o', z ∈ o) ∧ xEO ρ e' ∧ ∀ ad : Nat → Nat, xg ρ b ad y' = xg ρ b ad y := by
  unfold xC0 at h
  cases h7 : Nat.beq (y / 8) 7 with
  | true => rw [h7] at h; cases h
  | false =>
    rw [h7] at h
    dsimp only [cond] at h
    obtain ⟨e', o', f1, f2, f3⟩ := xConc_sound h hE
    rw [xF_eq] at f1
    refine ⟨_, e', o', f1, f2, f3, fun ad => ?_⟩
    have hne : ¬ y / 8 = 7 := fun q => by rw [q] at h7; cases h7
    rw [xg0 (xCI_tag _), xg4 h4, show xz ρ (y / 8) = (ρ (y / 8)).toInt from by unfold xz; rw [if_neg hne], xCI_eq]
/-! what holds between two instructions -/
def xAg (ad0 : Nat → Nat) (n0 : Nat) (ad : Nat → Nat) (Wd : List Nat) : Prop := n0 ≤ Wd.length ∧ (∀ i, i < n0 → ad i = ad0 i) ∧ (Wd.length = n0 → ad = ad0)
def xInv (ρ : Nat → Int32) (b : Nat) (cA : Nat → ClassId) (D : va_G) (A : Nat → Prop) (H0 : Heap) (nL : Nat) (ad0 : Nat → Nat) (n0 : Nat) (ad : Nat → Nat) (H : Heap) (locs : List Loc) (ls : Array Slot) (L Wd : List Nat) (env : xEv) : Prop :=
  (L.length = nL ∧ lv_has ls nL (xLl (xg ρ b ad) L)) ∧ (va_P D vwCl (xWs ρ b cA ad Wd) H ∧ va_D A (xWs ρ b cA ad Wd) ∧ va_S A H0 H locs) ∧ xEO ρ env ∧ xAg ad0 n0 ad Wd
def xHK (p : Program) (l : Launch) (e : Env) (R : Room) (s : State) (m : MethodId) (args : Array Value) (below : List Frame) (meth : Method) (c : Code) (Q : State → Prop) (ρ : Nat → Int32) (b : Nat) (cA : Nat → ClassId) (D : va_G) (A : Nat → Prop) (H0 : Heap) (nL : Nat) (ad0 : Nat → Nat) (n0 : Nat) (K : xKt) (outs : List xOut) : Prop :=
  ∀ (pc : Nat) (L S Wd : List Nat) (cc cs : Nat) (env : xEv) (o : List xOut), K pc L S Wd cc cs env = some o → (∀ y ∈ o, y ∈ outs) → ∀ (ad : Nat → Nat) (H : Heap) (locs : List Loc) (ls : Array Slot), xInv ρ b cA D A H0 nL ad0 n0 ad H locs ls L Wd env → W p l e R s m args below meth c H locs cc cs Q (F0 m pc ls (S.map (xg ρ b ad)))
theorem xInv.env {ρ : Nat → Int32} {b : Nat} {cA : Nat → ClassId} {D : va_G} {A : Nat → Prop} {H0 : Heap} {nL : Nat} {ad0 : Nat → Nat} {n0 : Nat} {ad : Nat → Nat} {H : Heap} {locs : List Loc} {ls : Array Slot} {L Wd : List Nat} {env e' : xEv} (h : xInv ρ b cA D A H0 nL ad0 n0 ad H locs ls L Wd env) (he : xEO ρ e') : xInv ρ b cA D A H0 nL ad0 n0 ad H locs ls L Wd e' := ⟨h.1, h.2.1, he, h.2.2.2⟩
theorem xbif {c : Bool} {x : xRes} {o : List xOut} (h : (bif c then x else none) = some o) : c = true ∧ x = some o := by
  cases c with
  | true => exact ⟨rfl, h⟩
  | false => cases h
theorem xbeq {a b : Nat} (h : Nat.beq a b = true) : a = b := Nat.eq_of_beq_eq_true h
theorem xblt {a b : Nat} (h : Nat.blt a b = true) : a < b := Nat.le_of_ble_eq_true h
theorem xble {a b : Nat} (h : Nat.ble a b = true) : a ≤ b := Nat.le_of_ble_eq_true h
theorem xand {a b : Bool} (h : (a && b) = true) : a = true ∧ b = true := by cases a <;> cases b <;> first | exact ⟨rfl, rfl⟩ | cases h
