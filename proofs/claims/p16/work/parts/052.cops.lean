/-! the checker's operations, and what they say of the executor's -/
def yHK (G : Nat → List Nat → List Nat → List Nat → Prop) (sp : List yCell) (γ : yLk) (K : yKt) : Prop := ∀ (pc : Nat) (LA SA : List yA) (env : xEv) (fs : List yF) (ca : yCa), K pc LA SA env fs ca = true → ∀ (τ : Nat → Int) (L S Wd : List Nat), ySt sp γ τ L S Wd LA SA env fs ca → G pc L S Wd
theorem ybif {c x : Bool} (h : (bif c then x else false) = true) : c = true ∧ x = true := by
  cases c with
  | true => exact ⟨rfl, h⟩
  | false => cases h
theorem yR_get {τ : Nat → Int} {A : List yA} : ∀ {L : List Nat} {i : Nat} {a : yA}, yR τ L A → A[i]? = some a → ∃ c, L[i]? = some c ∧ yg τ c a := by
  induction A with
  | nil => intro L i a _ h; cases h
  | cons b A ih =>
    intro L i a hr h
    cases L with
    | nil => cases hr
    | cons c t =>
      cases i with
      | zero => cases h; exact ⟨c, rfl, hr.1⟩
      | succ i =>
        obtain ⟨d, d1, d2⟩ := ih (L := t) (i := i) hr.2 h
        exact ⟨d, d1, d2⟩
theorem yset_self {l : List Nat} {j c : Nat} (h : l[j]? = some c) : l.set j c = l := by
  apply List.ext_getElem?
  intro i
  by_cases hi : j = i
  · subst hi
    rw [List.getElem?_set_self (List.getElem?_eq_some_iff.mp h).1, h]
  · rw [List.getElem?_set_ne hi]
theorem yR_len {τ : Nat → Int} {A : List yA} : ∀ {L : List Nat}, yR τ L A → L.length = A.length := by
  induction A with
  | nil => intro L hr; cases L with
    | nil => rfl
    | cons c t => cases hr
  | cons b A ih =>
    intro L hr
    cases L with
    | nil => cases hr
    | cons c t => rw [List.length_cons, List.length_cons, ih hr.2]
theorem yR_set {τ : Nat → Int} {A : List yA} : ∀ {L : List Nat} {i c : Nat} {a : yA}, yR τ L A → yg τ c a → yR τ (L.set i c) (A.set i a) := by
  induction A with
  | nil => intro L i c a hr hg; cases L with
    | nil => trivial
    | cons c t => cases hr
  | cons b A ih =>
    intro L i c a hr hg
    cases L with
    | nil => cases hr
    | cons d t =>
      cases i with
      | zero => exact ⟨hg, hr.2⟩
      | succ i => exact ⟨hr.1, ih hr.2 hg⟩
theorem yg9 (τ : Nat → Int) (c : Nat) (F : yF) : yg τ c (9, F) := trivial
section YOP
variable {G : Nat → List Nat → List Nat → List Nat → Prop} {sp : List yCell} {K : yKt} {Kc : xKt} {cc cs : Nat}
variable {γ : yLk} {τ : Nat → Int} {L S Wd : List Nat} {LA SA : List yA} {env : xEv} {fs : List yF} {ca : yCa} {a1 a2 pc : Nat}
/-! constants -/
def yo_const (K : yKt) (len a1 : Nat) (pc : Nat) (LA SA : List yA) (env : xEv) (fs : List yF) (ca : yCa) : Bool := bif Nat.beq (a1 % 8) 0 && Nat.blt (a1 / 8) 4294967296 then K (pc + len) LA ((0, yK (xs32 (a1 / 8))) :: SA) env fs ca else bif Nat.beq (a1 % 8) 1 && Nat.blt (a1 / 8) 18446744073709551616 then K (pc + len) LA ((1, yK (xs64 (a1 / 8))) :: SA) env fs ca else false
theorem yt_const {len : Nat} (hK : yHK G sp γ K) (hs : ySt sp γ τ L S Wd LA SA env fs ca) (h : yo_const K len a1 pc LA SA env fs ca = true) : G (pc + len) L (a1 :: S) Wd := by
  unfold yo_const at h
  obtain ⟨g1, g2, g3⟩ := hs
  cases hc : (Nat.beq (a1 % 8) 0 && Nat.blt (a1 / 8) 4294967296) with
  | true =>
    rw [hc, cond_true] at h
    exact hK _ _ _ _ _ _ h τ L (a1 :: S) Wd ⟨g1, ⟨⟨xbeq (xand hc).1, xblt (xand hc).2, (yK_eq τ _).symm⟩, g2⟩, g3⟩
  | false =>
    rw [hc, cond_false] at h
    obtain ⟨hc, h⟩ := ybif h
    exact hK _ _ _ _ _ _ h τ L (a1 :: S) Wd ⟨g1, ⟨⟨xbeq (xand hc).1, xblt (xand hc).2, (yK_eq τ _).symm⟩, g2⟩, g3⟩
/-! locals -/
def yo_ld (K : yKt) (kd len a1 : Nat) (pc : Nat) (LA SA : List yA) (env : xEv) (fs : List yF) (ca : yCa) : Bool := match LA[a1]? with
  | none => false
  | some a => bif Nat.beq a.1 kd || (Nat.beq kd 2 && Nat.beq a.1 6) then K (pc + len) LA (a :: SA) env fs ca else false
theorem yt_ld {kd len : Nat} (hK : yHK G sp γ K) (hs : ySt sp γ τ L S Wd LA SA env fs ca) (h : yo_ld K kd len a1 pc LA SA env fs ca = true) : ∃ c, L[a1]? = some c ∧ (∃ a, yg τ c a ∧ (a.1 = kd ∨ (kd = 2 ∧ a.1 = 6))) ∧ G (pc + len) L (c :: S) Wd := by
  unfold yo_ld at h
  cases hl : LA[a1]? with
  | none => rw [hl] at h; cases h
  | some a =>
    rw [hl] at h
    dsimp only at h
    obtain ⟨hk, h⟩ := ybif h
    obtain ⟨c, h1, h2⟩ := yR_get hs.1 hl
    refine ⟨c, h1, ⟨a, h2, ?_⟩, hK _ _ _ _ _ _ h τ L (c :: S) Wd ⟨hs.1, ⟨h2, hs.2.1⟩, hs.2.2⟩⟩
    cases hb : Nat.beq a.1 kd with
    | true => exact Or.inl (xbeq hb)
    | false =>
      rw [hb, Bool.false_or] at hk
      exact Or.inr ⟨xbeq (xand hk).1, xbeq (xand hk).2⟩
theorem yg_int {c : Nat} {F : yF} (h : yg τ c (0, F)) : c % 8 = 0 ∧ c / 8 < 4294967296 ∧ xs32 (c / 8) = yv τ F := h
theorem yg_lon {c : Nat} {F : yF} (h : yg τ c (1, F)) : c % 8 = 1 ∧ c / 8 < 18446744073709551616 ∧ xs64 (c / 8) = yv τ F := h
theorem ykind {c : Nat} {a : yA} (h : yg τ c a) : (a.1 = 0 → xIsI c = true) ∧ (a.1 = 1 → xIsL c = true) ∧ (a.1 = 2 ∨ a.1 = 6 → xIsR c = true) := by
  obtain ⟨k, F⟩ := a
  refine ⟨fun q => ?_, fun q => ?_, fun q => ?_⟩
  · dsimp only at q
    subst q
    unfold xIsI
    rw [(yg_int h).1]
    rfl
  · dsimp only at q
    subst q
    unfold xIsL
    rw [(yg_lon h).1]
    rfl
  · dsimp only at q
    unfold xIsR
    rcases q with q | q
    · subst q
      rw [show c % 8 = 2 from by have : c = 8 * F.2.toNat + 2 := h; omega]
      rfl
    · subst q
      rw [show c = 6 from h]
      rfl
theorem yc_iload1 (hKc : ∀ pc L S Wd, G pc L S Wd → Kc pc L S Wd cc cs [] = some []) (hK : yHK G sp γ K) (hs : ySt sp γ τ L S Wd LA SA env fs ca) (h : yo_ld K 0 1 a1 pc LA SA env fs ca = true) : xo_iload1 Kc a1 a2 pc L S Wd cc cs [] = some [] := by
  obtain ⟨c, h1, ⟨a, h2, h3⟩, h4⟩ := yt_ld hK hs h
  have hi : xIsI c = true := (ykind h2).1 (by rcases h3 with q | ⟨q, -⟩; exact q; cases q)
  have hl := (List.getElem?_eq_some_iff.mp h1).1
  have hg : xGet L a1 = c := by rw [xGet_eq, List.getD_eq_getElem?_getD, h1]; rfl
  unfold xo_iload1
  rw [xF_eq, hg, hi, xLen_eq, show Nat.blt a1 L.length = true from Nat.ble_eq_true_of_le hl, Bool.and_self, cond_true, xF_eq]
  exact hKc _ _ _ _ h4
theorem yc_iload2 (hKc : ∀ pc L S Wd, G pc L S Wd → Kc pc L S Wd cc cs [] = some []) (hK : yHK G sp γ K) (hs : ySt sp γ τ L S Wd LA SA env fs ca) (h : yo_ld K 0 2 a1 pc LA SA env fs ca = true) : xo_iload2 Kc a1 a2 pc L S Wd cc cs [] = some [] := by
  obtain ⟨c, h1, ⟨a, h2, h3⟩, h4⟩ := yt_ld hK hs h
  have hi : xIsI c = true := (ykind h2).1 (by rcases h3 with q | ⟨q, -⟩; exact q; cases q)
  have hl := (List.getElem?_eq_some_iff.mp h1).1
  have hg : xGet L a1 = c := by rw [xGet_eq, List.getD_eq_getElem?_getD, h1]; rfl
  unfold xo_iload2
  rw [xF_eq, hg, hi, xLen_eq, show Nat.blt a1 L.length = true from Nat.ble_eq_true_of_le hl, Bool.and_self, cond_true, xF_eq]
  exact hKc _ _ _ _ h4
theorem yc_lload1 (hKc : ∀ pc L S Wd, G pc L S Wd → Kc pc L S Wd cc cs [] = some []) (hK : yHK G sp γ K) (hs : ySt sp γ τ L S Wd LA SA env fs ca) (h : yo_ld K 1 1 a1 pc LA SA env fs ca = true) : xo_lload1 Kc a1 a2 pc L S Wd cc cs [] = some [] := by
  obtain ⟨c, h1, ⟨a, h2, h3⟩, h4⟩ := yt_ld hK hs h
  have hi : xIsL c = true := (ykind h2).2.1 (by rcases h3 with q | ⟨q, -⟩; exact q; cases q)
  have hg : xGet L a1 = c := by rw [xGet_eq, List.getD_eq_getElem?_getD, h1]; rfl
  unfold xo_lload1
  rw [xF_eq, hg, hi, cond_true, xF_eq]
  exact hKc _ _ _ _ h4
theorem yc_lload2 (hKc : ∀ pc L S Wd, G pc L S Wd → Kc pc L S Wd cc cs [] = some []) (hK : yHK G sp γ K) (hs : ySt sp γ τ L S Wd LA SA env fs ca) (h : yo_ld K 1 2 a1 pc LA SA env fs ca = true) : xo_lload2 Kc a1 a2 pc L S Wd cc cs [] = some [] := by
  obtain ⟨c, h1, ⟨a, h2, h3⟩, h4⟩ := yt_ld hK hs h
  have hi : xIsL c = true := (ykind h2).2.1 (by rcases h3 with q | ⟨q, -⟩; exact q; cases q)
  have hg : xGet L a1 = c := by rw [xGet_eq, List.getD_eq_getElem?_getD, h1]; rfl
  unfold xo_lload2
  rw [xF_eq, hg, hi, cond_true, xF_eq]
  exact hKc _ _ _ _ h4
theorem yc_aload1 (hKc : ∀ pc L S Wd, G pc L S Wd → Kc pc L S Wd cc cs [] = some []) (hK : yHK G sp γ K) (hs : ySt sp γ τ L S Wd LA SA env fs ca) (h : yo_ld K 2 1 a1 pc LA SA env fs ca = true) : xo_aload1 Kc a1 a2 pc L S Wd cc cs [] = some [] := by
  obtain ⟨c, h1, ⟨a, h2, h3⟩, h4⟩ := yt_ld hK hs h
  have hi : xIsR c = true := (ykind h2).2.2 (by rcases h3 with q | ⟨-, q⟩; exact Or.inl q; exact Or.inr q)
  have hg : xGet L a1 = c := by rw [xGet_eq, List.getD_eq_getElem?_getD, h1]; rfl
  unfold xo_aload1
  rw [xF_eq, hg, hi, cond_true, xF_eq]
  exact hKc _ _ _ _ h4
theorem yc_aload2 (hKc : ∀ pc L S Wd, G pc L S Wd → Kc pc L S Wd cc cs [] = some []) (hK : yHK G sp γ K) (hs : ySt sp γ τ L S Wd LA SA env fs ca) (h : yo_ld K 2 2 a1 pc LA SA env fs ca = true) : xo_aload2 Kc a1 a2 pc L S Wd cc cs [] = some [] := by
  obtain ⟨c, h1, ⟨a, h2, h3⟩, h4⟩ := yt_ld hK hs h
  have hi : xIsR c = true := (ykind h2).2.2 (by rcases h3 with q | ⟨-, q⟩; exact Or.inl q; exact Or.inr q)
  have hg : xGet L a1 = c := by rw [xGet_eq, List.getD_eq_getElem?_getD, h1]; rfl
  unfold xo_aload2
  rw [xF_eq, hg, hi, cond_true, xF_eq]
  exact hKc _ _ _ _ h4
theorem yc_push1 (hKc : ∀ pc L S Wd, G pc L S Wd → Kc pc L S Wd cc cs [] = some []) (hK : yHK G sp γ K) (hs : ySt sp γ τ L S Wd LA SA env fs ca) (h : yo_const K 1 a1 pc LA SA env fs ca = true) : xo_push1 Kc a1 a2 pc L S Wd cc cs [] = some [] := by
  unfold xo_push1
  rw [xF_eq]
  exact hKc _ _ _ _ (yt_const hK hs h)
theorem yc_push2 (hKc : ∀ pc L S Wd, G pc L S Wd → Kc pc L S Wd cc cs [] = some []) (hK : yHK G sp γ K) (hs : ySt sp γ τ L S Wd LA SA env fs ca) (h : yo_const K 2 a1 pc LA SA env fs ca = true) : xo_push2 Kc a1 a2 pc L S Wd cc cs [] = some [] := by
  unfold xo_push2
  rw [xF_eq]
  exact hKc _ _ _ _ (yt_const hK hs h)
theorem yc_push3 (hKc : ∀ pc L S Wd, G pc L S Wd → Kc pc L S Wd cc cs [] = some []) (hK : yHK G sp γ K) (hs : ySt sp γ τ L S Wd LA SA env fs ca) (h : yo_const K 3 a1 pc LA SA env fs ca = true) : xo_push3 Kc a1 a2 pc L S Wd cc cs [] = some [] := by
  unfold xo_push3
  rw [xF_eq]
  exact hKc _ _ _ _ (yt_const hK hs h)
/-- a store of one local: what may have been a long ahead of it is unknown then -/
def yStA (LA : List yA) (i : Nat) (a : yA) : List yA := match i with
  | 0 => LA.set 0 a
  | j + 1 => match LA[j]? with
    | none => LA.set (j + 1) a
    | some q => bif Nat.beq q.1 0 || (Nat.beq q.1 2 || (Nat.beq q.1 3 || Nat.beq q.1 6)) then LA.set (j + 1) a else (LA.set j (9, ([], 0))).set (j + 1) a
theorem yStA_ok {i v : Nat} {a : yA} (hr : yR τ L LA) (hg : yg τ v a) {L' : List Nat} (hL : ∀ k : List Nat → xRes, xStL L i v k = k L') : yR τ L' (yStA LA i a) := by
  have hu : ∀ {x y : List Nat}, (∀ k : List Nat → xRes, k x = k y) → x = y := by
    intro x y hk
    have := hk (fun z => some [(0, 0, z, [], 0, 0)])
    simp at this
    exact this
  cases i with
  | zero =>
    have : L' = L.set 0 v := hu fun k => by rw [← hL k]; unfold xStL; rw [xSet_eq]
    rw [this]
    exact yR_set hr hg
  | succ j =>
    cases hb : xIsL (xGet L j) with
    | true =>
      have e : L' = (L.set j 11).set (j + 1) v := hu fun k => by rw [← hL k]; unfold xStL; dsimp only; rw [hb]; dsimp only [cond]; rw [xSet_eq, xSet_eq]
      rw [e]
      unfold yStA
      dsimp only
      cases hj : LA[j]? with
      | none =>
        have : j ≥ L.length := by
          rw [yR_len hr]
          exact List.getElem?_eq_none_iff.mp hj
        dsimp only
        rw [List.set_eq_of_length_le this]
        exact yR_set hr hg
      | some q =>
        dsimp only
        obtain ⟨c, c1, c2⟩ := yR_get hr hj
        have hc : xGet L j = c := by rw [xGet_eq, List.getD_eq_getElem?_getD, c1]; rfl
        rw [hc] at hb
        cases hq : (Nat.beq q.1 0 || (Nat.beq q.1 2 || (Nat.beq q.1 3 || Nat.beq q.1 6))) with
        | false => exact yR_set (yR_set hr (yg9 τ 11 _)) hg
        | true =>
          exfalso
          obtain ⟨kq, Fq⟩ := q
          dsimp only at hq c2
          have hcases : kq = 0 ∨ kq = 2 ∨ kq = 3 ∨ kq = 6 := by
            cases h0 : Nat.beq kq 0 with
            | true => exact Or.inl (xbeq h0)
            | false =>
              cases h2 : Nat.beq kq 2 with
              | true => exact Or.inr (Or.inl (xbeq h2))
              | false =>
                cases h3 : Nat.beq kq 3 with
                | true => exact Or.inr (Or.inr (Or.inl (xbeq h3)))
                | false => rw [h0, h2, h3] at hq; exact Or.inr (Or.inr (Or.inr (xbeq (show Nat.beq kq 6 = true from hq))))
          unfold xIsL at hb
          rcases hcases with rfl | rfl | rfl | rfl
          · rw [(yg_int c2).1] at hb; cases hb
          · rw [show c % 8 = 2 from by have : c = 8 * Fq.2.toNat + 2 := c2; omega] at hb; cases hb
          · rw [show c = 3 from c2] at hb; cases hb
          · rw [show c = 6 from c2] at hb; cases hb
    | false =>
      have e : L' = L.set (j + 1) v := hu fun k => by rw [← hL k]; unfold xStL; dsimp only; rw [hb]; dsimp only [cond]; rw [xSet_eq]
      rw [e]
      unfold yStA
      dsimp only
      cases hj : LA[j]? with
      | none => exact yR_set hr hg
      | some q =>
        dsimp only
        cases hq : (Nat.beq q.1 0 || (Nat.beq q.1 2 || (Nat.beq q.1 3 || Nat.beq q.1 6))) with
        | true => exact yR_set hr hg
        | false =>
          dsimp only [cond]
          have h9 : yR τ L (LA.set j (9, ([], 0))) := by
            obtain ⟨c, c1, c2⟩ := yR_get hr hj
            have := yR_set (i := j) hr (yg9 τ c ([], 0))
            rwa [yset_self c1] at this
          exact yR_set h9 hg
end YOP
