/-! linear forms over unknowns, their bounds, facts: for the checker of loops -/
abbrev yF : Type := List (Nat × Int) × Int
def yT (τ : Nat → Int) : List (Nat × Int) → Int
  | [] => 0
  | q :: t => q.2 * τ q.1 + yT τ t
def yv (τ : Nat → Int) (F : yF) : Int := yT τ F.1 + F.2
def yIns (s : Nat) (c : Int) : List (Nat × Int) → List (Nat × Int)
  | [] => [(s, c)]
  | q :: t => if q.1 = s then (if q.2 + c = 0 then t else (s, q.2 + c) :: t) else if s < q.1 then (s, c) :: q :: t else q :: yIns s c t
theorem yIns_eq (τ : Nat → Int) (s : Nat) (c : Int) (l : List (Nat × Int)) : yT τ (yIns s c l) = c * τ s + yT τ l := by
  induction l with
  | nil => rfl
  | cons q t ih =>
    unfold yIns
    by_cases h1 : q.1 = s
    · rw [if_pos h1]
      subst h1
      by_cases h2 : q.2 + c = 0
      · rw [if_pos h2]
        have h3 : c = -q.2 := by omega
        subst h3
        show yT τ t = -q.2 * τ q.1 + (q.2 * τ q.1 + yT τ t)
        rw [Int.neg_mul]
        omega
      · rw [if_neg h2]
        show (q.2 + c) * τ q.1 + yT τ t = c * τ q.1 + (q.2 * τ q.1 + yT τ t)
        rw [Int.add_mul]
        omega
    · rw [if_neg h1]
      by_cases h2 : s < q.1
      · rw [if_pos h2]
        rfl
      · rw [if_neg h2]
        show q.2 * τ q.1 + yT τ (yIns s c t) = c * τ s + (q.2 * τ q.1 + yT τ t)
        rw [ih]
        omega
def yMer : List (Nat × Int) → List (Nat × Int) → List (Nat × Int)
  | [], m => m
  | q :: t, m => yIns q.1 q.2 (yMer t m)
theorem yMer_eq (τ : Nat → Int) (l m : List (Nat × Int)) : yT τ (yMer l m) = yT τ l + yT τ m := by
  induction l with
  | nil => show yT τ m = 0 + yT τ m; omega
  | cons q t ih =>
    show yT τ (yIns q.1 q.2 (yMer t m)) = q.2 * τ q.1 + yT τ t + yT τ m
    rw [yIns_eq, ih]
    omega
def yAdd (F G : yF) : yF := (yMer F.1 G.1, F.2 + G.2)
theorem yAdd_eq (τ : Nat → Int) (F G : yF) : yv τ (yAdd F G) = yv τ F + yv τ G := by
  unfold yv yAdd
  rw [yMer_eq]
  omega
def yScl (k : Int) (F : yF) : yF := if k = 0 then ([], 0) else (F.1.map (fun q => (q.1, k * q.2)), k * F.2)
theorem yScl_eq (τ : Nat → Int) (k : Int) (F : yF) : yv τ (yScl k F) = k * yv τ F := by
  unfold yScl
  by_cases hk : k = 0
  · rw [if_pos hk, hk, Int.zero_mul]
    rfl
  · rw [if_neg hk]
    unfold yv
    have h : ∀ l : List (Nat × Int), yT τ (l.map (fun q => (q.1, k * q.2))) = k * yT τ l := by
      intro l
      induction l with
      | nil => show (0 : Int) = k * 0; rw [Int.mul_zero]
      | cons q t ih =>
        show k * q.2 * τ q.1 + yT τ (t.map (fun q => (q.1, k * q.2))) = k * (q.2 * τ q.1 + yT τ t)
        rw [ih, Int.mul_add, Int.mul_assoc]
    show yT τ (F.1.map (fun q => (q.1, k * q.2))) + k * F.2 = k * (yT τ F.1 + F.2)
    rw [h, Int.mul_add]
def ySub (F G : yF) : yF := yAdd F (yScl (-1) G)
theorem ySub_eq (τ : Nat → Int) (F G : yF) : yv τ (ySub F G) = yv τ F - yv τ G := by
  unfold ySub
  rw [yAdd_eq, yScl_eq]
  omega
def yK (k : Int) : yF := ([], k)
theorem yK_eq (τ : Nat → Int) (k : Int) : yv τ (yK k) = k := by show (0 : Int) + k = k; omega
def yS (s : Nat) : yF := ([(s, 1)], 0)
theorem yS_eq (τ : Nat → Int) (s : Nat) : yv τ (yS s) = τ s := by show (1 : Int) * τ s + 0 + 0 = τ s; omega
/-! bounds -/
/-- forms whose values are fixed along a path -/
abbrev yLk : Type := List (yF × Int)
/-- a form without the unknown n and those behind it -/
def yWf (n : Nat) (F : yF) : Bool := F.1.all (fun q => Nat.blt q.1 n)
def yEO (γ : yLk) (τ : Nat → Int) (env : xEv) : Prop := (∀ (k : Nat) (q : Int × Int), env[k]? = some q → q.1 ≤ τ k ∧ τ k ≤ q.2) ∧ ∀ q ∈ γ, yv τ q.1 = q.2 ∧ yWf env.length q.1 = true
def yLoT (env : xEv) : List (Nat × Int) → Option Int
  | [] => some 0
  | q :: t => match env[q.1]? with
    | none => none
    | some b => match yLoT env t with
      | none => none
      | some r => some ((if 0 ≤ q.2 then q.2 * b.1 else q.2 * b.2) + r)
theorem yLoT_ok {γ : yLk} {τ : Nat → Int} {env : xEv} (hE : yEO γ τ env) (l : List (Nat × Int)) : ∀ {v : Int}, yLoT env l = some v → v ≤ yT τ l := by
  induction l with
  | nil => intro v h; cases h; exact Int.le_refl _
  | cons q t ih =>
    intro v h
    unfold yLoT at h
    cases hb : env[q.1]? with
    | none => rw [hb] at h; cases h
    | some b =>
      rw [hb] at h
      dsimp only at h
      cases hr : yLoT env t with
      | none => rw [hr] at h; cases h
      | some r =>
        rw [hr] at h
        dsimp only at h
        cases h
        have h1 := ih hr
        obtain ⟨g1, g2⟩ := hE.1 q.1 b hb
        show _ ≤ q.2 * τ q.1 + yT τ t
        by_cases hq : 0 ≤ q.2
        · rw [if_pos hq]
          have := Int.mul_le_mul_of_nonneg_left g1 hq
          omega
        · rw [if_neg hq]
          have := Int.mul_le_mul_of_nonpos_left (show q.2 ≤ 0 by omega) g2
          omega
def yLo (env : xEv) (F : yF) : Option Int := match yLoT env F.1 with
  | none => none
  | some r => some (r + F.2)
theorem yLo_ok {γ : yLk} {τ : Nat → Int} {env : xEv} (hE : yEO γ τ env) {F : yF} {v : Int} (h : yLo env F = some v) : v ≤ yv τ F := by
  unfold yLo at h
  cases hr : yLoT env F.1 with
  | none => rw [hr] at h; cases h
  | some r =>
    rw [hr] at h
    cases h
    have := yLoT_ok hE F.1 hr
    unfold yv
    omega
def yNn (env : xEv) (F : yF) : Bool := match yLo env F with
  | none => false
  | some v => decide (0 ≤ v)
theorem yNn_ok {γ : yLk} {τ : Nat → Int} {env : xEv} (hE : yEO γ τ env) {F : yF} (h : yNn env F = true) : 0 ≤ yv τ F := by
  unfold yNn at h
  cases hv : yLo env F with
  | none => rw [hv] at h; cases h
  | some v =>
    rw [hv] at h
    have := yLo_ok hE hv
    have h2 : 0 ≤ v := of_decide_eq_true h
    omega
def yFO (τ : Nat → Int) (fs : List yF) : Prop := ∀ G ∈ fs, 0 ≤ yv τ G
/-- a form that is never below 0: by the bounds, with none, one or two of the facts -/
def yGe (env : xEv) (fs : List yF) (F : yF) : Bool := yNn env F || (fs.any (fun G => yNn env (ySub F G)) || fs.any (fun G => fs.any (fun G2 => yNn env (ySub (ySub F G) G2))))
theorem yGe_ok {γ : yLk} {τ : Nat → Int} {env : xEv} {fs : List yF} (hE : yEO γ τ env) (hF : yFO τ fs) {F : yF} (h : yGe env fs F = true) : 0 ≤ yv τ F := by
  unfold yGe at h
  cases h1 : yNn env F with
  | true => exact yNn_ok hE h1
  | false =>
    rw [h1, Bool.false_or] at h
    cases h2 : fs.any (fun G => yNn env (ySub F G)) with
    | true =>
      obtain ⟨G, g1, g2⟩ := List.any_eq_true.mp h2
      have := yNn_ok hE g2
      rw [ySub_eq] at this
      have := hF G g1
      omega
    | false =>
      rw [h2, Bool.false_or] at h
      obtain ⟨G, g1, g2⟩ := List.any_eq_true.mp h
      obtain ⟨G2, g3, g4⟩ := List.any_eq_true.mp g2
      have := yNn_ok hE g4
      rw [ySub_eq, ySub_eq] at this
      have := hF G g1
      have := hF G2 g3
      omega
/-! a new fact narrows the bounds -/
def yRef1 (G : yF) (env : xEv) (q : Nat × Int) : xEv := match yLo env (ySub ([q], 0) G) with
  | none => env
  | some v => match env[q.1]? with
    | none => env
    | some b => if q.2 = 1 then env.set q.1 (max b.1 v, b.2) else if q.2 = -1 then env.set q.1 (b.1, min b.2 (-v)) else env
theorem yEO_set {γ : yLk} {τ : Nat → Int} {env : xEv} {s : Nat} {lo hi : Int} (h : yEO γ τ env) (h1 : lo ≤ τ s) (h2 : τ s ≤ hi) : yEO γ τ (env.set s (lo, hi)) := by
  refine ⟨fun k q hq => ?_, fun q hq => by rw [List.length_set]; exact h.2 q hq⟩
  by_cases hk : s = k
  · subst hk
    have hlt := (List.getElem?_eq_some_iff.mp hq).1
    rw [List.length_set] at hlt
    rw [List.getElem?_set_self hlt] at hq
    cases hq
    exact ⟨h1, h2⟩
  · rw [List.getElem?_set_ne hk] at hq
    exact h.1 k q hq
theorem yRef1_ok {γ : yLk} {τ : Nat → Int} {env : xEv} {G : yF} (hE : yEO γ τ env) (hG : 0 ≤ yv τ G) (q : Nat × Int) : yEO γ τ (yRef1 G env q) := by
  unfold yRef1
  cases hv : yLo env (ySub ([q], 0) G) with
  | none => exact hE
  | some v =>
    dsimp only
    cases hb : env[q.1]? with
    | none => exact hE
    | some b =>
      dsimp only
      have h1 := yLo_ok hE hv
      rw [ySub_eq] at h1
      have h2 : yv τ ([q], 0) = q.2 * τ q.1 := by show q.2 * τ q.1 + 0 + 0 = _; omega
      rw [h2] at h1
      obtain ⟨g1, g2⟩ := hE.1 q.1 b hb
      by_cases c1 : q.2 = 1
      · rw [if_pos c1]
        rw [c1, Int.one_mul] at h1
        exact yEO_set hE (by omega) g2
      · rw [if_neg c1]
        by_cases c2 : q.2 = -1
        · rw [if_pos c2]
          rw [c2] at h1
          exact yEO_set hE g1 (by omega)
        · rw [if_neg c2]
          exact hE
def yRef (G : yF) (env : xEv) : xEv := G.1.foldl (yRef1 G) env
theorem yRef_ok {γ : yLk} {τ : Nat → Int} {G : yF} (hG : 0 ≤ yv τ G) (l : List (Nat × Int)) : ∀ {env : xEv}, yEO γ τ env → yEO γ τ (l.foldl (yRef1 G) env) := by
  induction l with
  | nil => intro env hE; exact hE
  | cons q t ih => intro env hE; exact ih (yRef1_ok hE hG q)
/-- some unknowns have no value left: no state is so -/
def yEmpty (env : xEv) : Bool := env.any (fun q => decide (q.2 < q.1))
theorem yEmpty_ok {γ : yLk} {τ : Nat → Int} {env : xEv} (hE : yEO γ τ env) (h : yEmpty env = true) : False := by
  obtain ⟨q, h1, h2⟩ := List.any_eq_true.mp h
  obtain ⟨k, hk⟩ := List.getElem?_of_mem h1
  have := hE.1 k q hk
  have h3 : q.2 < q.1 := of_decide_eq_true h2
  omega
/-- under new facts: nothing is left, or go on -/
def yGo (e' : xEv) (fs : List yF) (k : xEv → List yF → Bool) : Bool := bif yEmpty e' then true else k e' fs
def yTry (env : xEv) (fs Gs : List yF) (k : xEv → List yF → Bool) : Bool := bif Gs.any (fun G => yGe env fs (ySub (yK (-1)) G)) then true else yGo (Gs.foldl (fun e G => G.1.foldl (yRef1 G) e) env) (Gs ++ fs) k
theorem yTry_ok {γ : yLk} {τ : Nat → Int} {env : xEv} {fs Gs : List yF} {k : xEv → List yF → Bool} (h : yTry env fs Gs k = true) (hE : yEO γ τ env) (hF : yFO τ fs) (hG : yFO τ Gs) : ∃ e', k e' (Gs ++ fs) = true ∧ yEO γ τ e' ∧ yFO τ (Gs ++ fs) := by
  unfold yTry at h
  cases h1 : Gs.any (fun G => yGe env fs (ySub (yK (-1)) G)) with
  | true =>
    obtain ⟨G, g1, g2⟩ := List.any_eq_true.mp h1
    have h2 := yGe_ok hE hF g2
    rw [ySub_eq, yK_eq] at h2
    have := hG G g1
    omega
  | false =>
    rw [h1, cond_false] at h
    have hE' : ∀ (Gl : List yF), yFO τ Gl → ∀ {e : xEv}, yEO γ τ e → yEO γ τ (Gl.foldl (fun e G => G.1.foldl (yRef1 G) e) e) := by
      intro Gl
      induction Gl with
      | nil => intro _ e he; exact he
      | cons G t ih => intro hl e he; exact ih (fun G2 h2 => hl G2 (List.mem_cons_of_mem _ h2)) (yRef_ok (hl G List.mem_cons_self) G.1 he)
    have h3 := hE' Gs hG hE
    cases h4 : yEmpty (Gs.foldl (fun e G => G.1.foldl (yRef1 G) e) env) with
    | true => exact (yEmpty_ok h3 h4).elim
    | false =>
      unfold yGo at h
      rw [h4, cond_false] at h
      exact ⟨_, h, h3, fun G hg => by
        rcases List.mem_append.mp hg with q | q
        · exact hG G q
        · exact hF G q⟩
def yIn (env : xEv) (fs : List yF) (F : yF) (lo hi : Int) : Bool := yGe env fs (ySub F (yK lo)) && yGe env fs (ySub (yK hi) F)
theorem yIn_ok {γ : yLk} {τ : Nat → Int} {env : xEv} {fs : List yF} (hE : yEO γ τ env) (hF : yFO τ fs) {F : yF} {lo hi : Int} (h : yIn env fs F lo hi = true) : lo ≤ yv τ F ∧ yv τ F ≤ hi := by
  obtain ⟨h1, h2⟩ := xand h
  have g1 := yGe_ok hE hF h1
  have g2 := yGe_ok hE hF h2
  rw [ySub_eq, yK_eq] at g1 g2
  omega
