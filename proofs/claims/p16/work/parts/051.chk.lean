/-! THE CHECKER: values by kind (0 int, 1 long, 2 the cell at a place, 3 null, 6 the script, 9 nothing known) and form; cells by segments (kind, start, stop, step, lo, hi): 0 an int, 1 a long field, 2 the cell lo, 4 a long of an array, 5 the cell lo of an array -/
abbrev yA : Type := Nat × yF
abbrev yCa : Type := List (Nat × yF × yF)
abbrev ySeg : Type := Nat × Nat × Nat × Nat × Int × Int
abbrev yCell : Type := Nat × List ySeg
abbrev yKt : Type := Nat → List yA → List yA → xEv → List yF → yCa → Bool
def yg (τ : Nat → Int) (c : Nat) (a : yA) : Prop := match a.1 with
  | 0 => c % 8 = 0 ∧ c / 8 < 4294967296 ∧ xs32 (c / 8) = yv τ a.2
  | 1 => c % 8 = 1 ∧ c / 8 < 18446744073709551616 ∧ xs64 (c / 8) = yv τ a.2
  | 2 => c = 8 * a.2.2.toNat + 2
  | 3 => c = 3
  | 6 => c = 6
  | _ => True
def yR (τ : Nat → Int) : List Nat → List yA → Prop
  | [], [] => True
  | c :: L, a :: A => yg τ c a ∧ yR τ L A
  | _, _ => False
def ySegOk (c : Nat) (g : ySeg) : Prop := ∀ j : Nat, g.2.1 ≤ j → j < g.2.2.1 → (j - g.2.1) % g.2.2.2.1 = 0 → match g.1 with
  | 0 => xDn c j 1 % 8 = 0 ∧ xDn c j 1 / 8 < 4294967296 ∧ g.2.2.2.2.1 ≤ xs32 (xDn c j 1 / 8) ∧ xs32 (xDn c j 1 / 8) ≤ g.2.2.2.2.2
  | 1 => xDn c j 1 % 8 = 1 ∧ xDn c j 1 / 8 < 18446744073709551616
  | 2 => xDn c j 1 = 8 * g.2.2.2.2.1.toNat + 2
  | 4 => xDn c j 1 < 18446744073709551616
  | 5 => xDn c j 1 = g.2.2.2.2.1.toNat + 1
  | _ => False
def yJ (sp : List yCell) (Wd : List Nat) : Prop := Wd.length = sp.length ∧ ∀ (p c : Nat) (q : yCell), Wd[p]? = some c → sp[p]? = some q → c % 18446744073709551616 = q.1 ∧ ∀ g ∈ q.2, ySegOk c g
def yCaOk (τ : Nat → Int) (Wd : List Nat) (ca : yCa) : Prop := ∀ q ∈ ca, ∃ (c j : Nat), Wd[q.1]? = some c ∧ (j : Int) = yv τ q.2.1 ∧ xDn c j 1 % 8 = 0 ∧ xDn c j 1 / 8 < 4294967296 ∧ xs32 (xDn c j 1 / 8) = yv τ q.2.2
/-- a state without the unknown n and those behind it -/
def yWfS (n : Nat) (L S : List yA) (fs : List yF) (ca : yCa) : Bool := L.all (fun a => yWf n a.2) && (S.all (fun a => yWf n a.2) && (fs.all (yWf n) && ca.all (fun q => yWf n q.2.1 && yWf n q.2.2)))
theorem yT_keep {τ τ' : Nat → Int} {n : Nat} (hk : ∀ i, i < n → τ' i = τ i) {l : List (Nat × Int)} (h : l.all (fun q => Nat.blt q.1 n) = true) : yT τ' l = yT τ l := by
  induction l with
  | nil => rfl
  | cons q t ih =>
    have h' : (Nat.blt q.1 n && t.all (fun q => Nat.blt q.1 n)) = true := h
    show q.2 * τ' q.1 + yT τ' t = q.2 * τ q.1 + yT τ t
    rw [hk q.1 (xblt (xand h').1), ih (xand h').2]
theorem yv_keep {τ τ' : Nat → Int} {n : Nat} (hk : ∀ i, i < n → τ' i = τ i) {F : yF} (h : yWf n F = true) : yv τ' F = yv τ F := by
  unfold yv
  rw [yT_keep hk h]
theorem yWf_more {n k : Nat} {F : yF} (h : n ≤ k) (hw : yWf n F = true) : yWf k F = true := by
  refine List.all_eq_true.mpr fun q hq => ?_
  have := xblt (List.all_eq_true.mp hw q hq)
  exact Nat.ble_eq_true_of_le (by omega)
theorem yg_keep {τ τ' : Nat → Int} {n : Nat} (hk : ∀ i, i < n → τ' i = τ i) {c : Nat} {a : yA} (h : yWf n a.2 = true) (hg : yg τ c a) : yg τ' c a := by
  obtain ⟨k, F⟩ := a
  unfold yg at hg ⊢
  dsimp only at hg ⊢ h
  match k, hg with
  | 0, hg => rw [yv_keep hk h]; exact hg
  | 1, hg => rw [yv_keep hk h]; exact hg
  | 2, hg => exact hg
  | 3, hg => exact hg
  | 4, hg => trivial
  | 5, hg => trivial
  | 6, hg => exact hg
  | k + 7, hg => trivial
theorem yR_keep {τ τ' : Nat → Int} {n : Nat} (hk : ∀ i, i < n → τ' i = τ i) {A : List yA} : ∀ {L : List Nat}, A.all (fun a => yWf n a.2) = true → yR τ L A → yR τ' L A := by
  induction A with
  | nil => intro L _ hr; cases L with
    | nil => trivial
    | cons c t => cases hr
  | cons a A ih =>
    intro L h hr
    have h' : (yWf n a.2 && A.all (fun a => yWf n a.2)) = true := h
    cases L with
    | nil => cases hr
    | cons c t => exact ⟨yg_keep hk (xand h').1 hr.1, ih (xand h').2 hr.2⟩
/-- what a state of the checker says of a concrete one -/
def ySt (sp : List yCell) (γ : yLk) (τ : Nat → Int) (L S Wd : List Nat) (LA SA : List yA) (env : xEv) (fs : List yF) (ca : yCa) : Prop := yR τ L LA ∧ yR τ S SA ∧ yJ sp Wd ∧ yEO γ τ env ∧ yFO τ fs ∧ yCaOk τ Wd ca
def yUp (τ : Nat → Int) (n : Nat) (v : Int) : Nat → Int := fun i => if i = n then v else τ i
theorem ySt.fresh {sp : List yCell} {γ : yLk} {τ : Nat → Int} {L S Wd : List Nat} {LA SA : List yA} {env : xEv} {fs : List yF} {ca : yCa} (h : ySt sp γ τ L S Wd LA SA env fs ca) (hw : yWfS env.length LA SA fs ca = true) {lo hi v : Int} (h1 : lo ≤ v) (h2 : v ≤ hi) : ySt sp γ (yUp τ env.length v) L S Wd LA SA (env ++ [(lo, hi)]) fs ca := by
  have hk : ∀ i, i < env.length → yUp τ env.length v i = τ i := fun i hi => by unfold yUp; rw [if_neg (by omega)]
  obtain ⟨g1, g2, g3, g4, g5, g6⟩ := h
  obtain ⟨w1, w⟩ := xand hw
  obtain ⟨w2, w⟩ := xand w
  obtain ⟨w3, w4⟩ := xand w
  refine ⟨yR_keep hk w1 g1, yR_keep hk w2 g2, g3, ?_, ?_, ?_⟩
  · refine ⟨fun k q hq => ?_, fun q hq => ⟨by rw [yv_keep hk (g4.2 q hq).2]; exact (g4.2 q hq).1, yWf_more (by rw [List.length_append]; omega) (g4.2 q hq).2⟩⟩
    by_cases hl : k < env.length
    · rw [List.getElem?_append_left hl] at hq
      rw [hk k hl]
      exact g4.1 k q hq
    · rw [List.getElem?_append_right (by omega)] at hq
      have hz : k - env.length < 1 := (List.getElem?_eq_some_iff.mp hq).1
      have hke : k = env.length := by omega
      subst hke
      rw [Nat.sub_self] at hq
      cases hq
      unfold yUp
      rw [if_pos rfl]
      exact ⟨h1, h2⟩
  · intro G hG
    rw [yv_keep hk (List.all_eq_true.mp w3 G hG)]
    exact g5 G hG
  · intro q hq
    obtain ⟨c, j, f1, f2, f3, f4, f5⟩ := g6 q hq
    obtain ⟨w5, w6⟩ := xand (List.all_eq_true.mp w4 q hq)
    exact ⟨c, j, f1, by rw [yv_keep hk w5]; exact f2, f3, f4, by rw [yv_keep hk w6]; exact f5⟩
theorem yUp_new (τ : Nat → Int) (n : Nat) (v : Int) : yv (yUp τ n v) (yS n) = v := by
  rw [yS_eq]
  unfold yUp
  rw [if_pos rfl]
def yFr (L S : List yA) (env : xEv) (fs : List yF) (ca : yCa) (lo hi : Int) (k : yF → xEv → Bool) : Bool := bif yWfS env.length L S fs ca then k (yS env.length) (env ++ [(lo, hi)]) else false
/-- an int, a long out of a form: itself where no bound is passed, else anything -/
def yI32 (L S : List yA) (env : xEv) (fs : List yF) (ca : yCa) (F : yF) (k : yF → xEv → Bool) : Bool := bif yIn env fs F (-2147483648) 2147483647 then k F env else yFr L S env fs ca (-2147483648) 2147483647 k
def yI64 (L S : List yA) (env : xEv) (fs : List yF) (ca : yCa) (F : yF) (k : yF → xEv → Bool) : Bool := bif yIn env fs F (-9223372036854775808) 9223372036854775807 then k F env else yFr L S env fs ca (-9223372036854775808) 9223372036854775807 k
