/-! annotated places of the code: sources of the unknowns (0, local, _) or (1, place, index); kinds and forms of the locals, bounds, facts, caches; a measure and forms that are linked to those of the path's start -/
abbrev ySrc : Type := Nat × Nat × Nat
abbrev yAn : Type := List ySrc × List yA × xEv × List yF × yCa × yF × List yF
def ySi (σ : List yF) (i : Nat) : yF := σ.getD i ([], 0)
def ySuT (σ : List yF) : List (Nat × Int) → yF
  | [] => ([], 0)
  | q :: t => yAdd (yScl q.2 (ySi σ q.1)) (ySuT σ t)
def ySu (σ : List yF) (F : yF) : yF := yAdd (ySuT σ F.1) (yK F.2)
theorem ySu_eq (τ : Nat → Int) (σ : List yF) (F : yF) : yv τ (ySu σ F) = yv (fun i => yv τ (ySi σ i)) F := by
  have h : ∀ l : List (Nat × Int), yv τ (ySuT σ l) = yT (fun i => yv τ (ySi σ i)) l := by
    intro l
    induction l with
    | nil => rfl
    | cons q t ih =>
      show yv τ (yAdd (yScl q.2 (ySi σ q.1)) (ySuT σ t)) = q.2 * yv τ (ySi σ q.1) + yT (fun i => yv τ (ySi σ i)) t
      rw [yAdd_eq, yScl_eq, ih]
  unfold ySu
  rw [yAdd_eq, yK_eq, h]
  rfl
/-- two forms with the same value: by their difference -/
def ySame (F H : yF) : Bool := decide (ySub F H = ([], 0))
theorem ySame_ok {τ : Nat → Int} {F H : yF} (h : ySame F H = true) : yv τ F = yv τ H := by
  have h1 : ySub F H = ([], 0) := of_decide_eq_true h
  have h2 := ySub_eq τ F H
  rw [h1] at h2
  have h3 : yv τ ([], 0) = 0 := rfl
  omega
/-- read the sources that aren't known yet -/
def yPre (sp : List yCell) (LA SA : List yA) (fs : List yF) (k : xEv → yCa → Bool) : List ySrc → xEv → yCa → Bool
  | [], env, ca => k env ca
  | s :: t, env, ca => bif Nat.beq s.1 0 then yPre sp LA SA fs k t env ca else (match yCl ca s.2.1 (yK s.2.2) with
    | some _ => yPre sp LA SA fs k t env ca
    | none => match sp[s.2.1]? with
      | none => false
      | some q => match yAtF q.2 s.2.2 with
        | none => false
        | some g => bif Nat.beq g.1 0 then yFr LA SA env fs ca g.2.2.2.2.1 g.2.2.2.2.2 (fun F e' => yPre sp LA SA fs k t e' ((s.2.1, yK s.2.2, F) :: ca)) else false)
def ySg (LA : List yA) (ca : yCa) (srcs : List ySrc) : List yF := srcs.map (fun s => bif Nat.beq s.1 0 then (match LA[s.2.1]? with
  | some a => a.2
  | none => ([], 0)) else (match yCl ca s.2.1 (yK s.2.2) with
  | some V => V
  | none => ([], 0)))
def yLoc (σ : List yF) : List yA → List yA → Bool
  | [], [] => true
  | h :: H, a :: A => (bif Nat.beq h.1 9 then true else Nat.beq h.1 a.1 && (bif Nat.beq h.1 2 then decide (h.2.2 = a.2.2) else bif Nat.beq h.1 0 || Nat.beq h.1 1 then ySame (ySu σ h.2) a.2 else true)) && yLoc σ H A
  | _, _ => false
def yBds (σ : List yF) (env : xEv) (fs : List yF) : Nat → xEv → Bool
  | _, [] => true
  | i, q :: t => yIn env fs (ySi σ i) q.1 q.2 && yBds σ env fs (i + 1) t
def yCas (σ : List yF) (ca hca : yCa) : Bool := hca.all (fun q => match yCl ca q.1 (ySu σ q.2.1) with
  | some V => ySame (ySu σ q.2.2) V
  | none => false)
def yLks (σ : List yF) (n : Nat) : List yF → List yF → Bool
  | [], [] => true
  | h :: H, a :: A => yWf n h && (ySame (ySu σ h) a && yLks σ n H A)
  | _, _ => false
def yLkz : List yF → List Int → yLk
  | [], _ => []
  | _, [] => []
  | F :: l, v :: w => (F, v) :: yLkz l w
/-- enter an annotated place; m0, g0: the measure and the linked forms of the path's start -/
def yEnt (sp : List yCell) (m0 : yF) (g0 : List yF) (an : yAn) (LA SA : List yA) (env : xEv) (fs : List yF) (ca : yCa) : Bool := SA.isEmpty && yPre sp LA SA fs (fun e' ca' => (fun σ => yLoc σ an.2.1 LA && (yBds σ e' fs 0 an.2.2.1 && (an.2.2.2.1.all (fun F => yGe e' fs (ySu σ F)) && (yCas σ ca' an.2.2.2.2.1 && (yWf an.2.2.1.length an.2.2.2.2.2.1 && (yGe e' fs (ySub (ySub m0 (ySu σ an.2.2.2.2.2.1)) (yK 1)) && yLks σ an.2.2.1.length an.2.2.2.2.2.2 g0)))))) (ySg LA ca' an.1)) an.1 env ca
section YEN
variable {sp : List yCell} {γ : yLk} {τ : Nat → Int} {L S Wd : List Nat} {LA SA : List yA} {env : xEv} {fs : List yF} {ca : yCa}
theorem yPre_ok {k : xEv → yCa → Bool} (l : List ySrc) : ∀ {τ : Nat → Int} {env : xEv} {ca : yCa}, ySt sp γ τ L S Wd LA SA env fs ca → yPre sp LA SA fs k l env ca = true → ∃ (τ' : Nat → Int) (env' : xEv) (ca' : yCa), k env' ca' = true ∧ ySt sp γ τ' L S Wd LA SA env' fs ca' := by
  induction l with
  | nil => intro τ env ca hs h; exact ⟨τ, env, ca, h, hs⟩
  | cons s t ih =>
    intro τ env ca hs h
    unfold yPre at h
    cases h0 : Nat.beq s.1 0 with
    | true =>
      rw [h0, cond_true] at h
      exact ih hs h
    | false =>
      rw [h0, cond_false] at h
      cases h1 : yCl ca s.2.1 (yK s.2.2) with
      | some V =>
        rw [h1] at h
        exact ih hs h
      | none =>
        rw [h1] at h
        dsimp only at h
        cases hq : sp[s.2.1]? with
        | none => rw [hq] at h; cases h
        | some q =>
          rw [hq] at h
          dsimp only at h
          cases hg : yAtF q.2 s.2.2 with
          | none => rw [hg] at h; cases h
          | some g =>
            rw [hg] at h
            dsimp only at h
            obtain ⟨k0, hN⟩ := ybif h
            obtain ⟨c, c1, c2, c3⟩ := yCell_at hs.2.2.1 hq
            have hcov := List.find?_some hg
            obtain ⟨v1, v2⟩ := xand hcov
            obtain ⟨v2, v3⟩ := xand v2
            have hok := c3 g (List.mem_of_find?_eq_some hg) s.2.2 (xble v1) (xblt v2) (xbeq v3)
            rw [xbeq k0] at hok
            obtain ⟨τ', F', e', f1, f2, f3⟩ := yFr_ok (z := xs32 (xDn c s.2.2 1 / 8)) hs hN hok.2.2.1 hok.2.2.2
            refine ih (τ := τ') ⟨f2.1, f2.2.1, f2.2.2.1, f2.2.2.2.1, f2.2.2.2.2.1, ?_⟩ f1
            intro qq hqq
            rcases List.mem_cons.mp hqq with rfl | hqq
            · exact ⟨c, s.2.2, c1, (yK_eq τ' s.2.2).symm, hok.1, hok.2.1, f3.symm⟩
            · exact f2.2.2.2.2.2 qq hqq
theorem yLoc_ok {σ : List yF} {H : List yA} : ∀ {A : List yA} {L : List Nat}, yLoc σ H A = true → yR τ L A → yR (fun i => yv τ (ySi σ i)) L H := by
  induction H with
  | nil =>
    intro A L h hr
    cases A with
    | nil => cases L with
      | nil => trivial
      | cons c t => cases hr
    | cons a A => cases h
  | cons x H ih =>
    intro A L h hr
    cases A with
    | nil => cases h
    | cons a A =>
      cases L with
      | nil => cases hr
      | cons c t =>
        have h' : ((bif Nat.beq x.1 9 then true else Nat.beq x.1 a.1 && (bif Nat.beq x.1 2 then decide (x.2.2 = a.2.2) else bif Nat.beq x.1 0 || Nat.beq x.1 1 then ySame (ySu σ x.2) a.2 else true)) && yLoc σ H A) = true := h
        obtain ⟨h1, h2⟩ := xand h'
        refine ⟨?_, ih h2 hr.2⟩
        have hg := hr.1
        obtain ⟨kx, X⟩ := x
        obtain ⟨ka, Y⟩ := a
        dsimp only at h1
        cases h9 : Nat.beq kx 9 with
        | true =>
          have e9 := xbeq h9
          subst e9
          trivial
        | false =>
          rw [h9, cond_false] at h1
          obtain ⟨hka, h3⟩ := xand h1
          have hka := xbeq hka
          subst hka
          unfold yg at hg ⊢
          dsimp only at hg ⊢
          match kx, hg, h3 with
          | 0, hg, h3 =>
            have h4 : ySame (ySu σ X) Y = true := h3
            refine ⟨hg.1, hg.2.1, ?_⟩
            rw [hg.2.2, ← ySame_ok h4, ySu_eq]
          | 1, hg, h3 =>
            have h4 : ySame (ySu σ X) Y = true := h3
            refine ⟨hg.1, hg.2.1, ?_⟩
            rw [hg.2.2, ← ySame_ok h4, ySu_eq]
          | 2, hg, h3 =>
            have h4 : X.2 = Y.2 := of_decide_eq_true h3
            show c = 8 * X.2.toNat + 2
            rw [h4]
            exact hg
          | 3, hg, h3 => exact hg
          | 4, hg, h3 => trivial
          | 5, hg, h3 => trivial
          | 6, hg, h3 => exact hg
          | k + 7, hg, h3 => trivial
theorem yBds_ok {σ : List yF} (hE : yEO γ τ env) (hF : yFO τ fs) (l : xEv) : ∀ {i : Nat}, yBds σ env fs i l = true → ∀ (k : Nat) (q : Int × Int), l[k]? = some q → q.1 ≤ yv τ (ySi σ (i + k)) ∧ yv τ (ySi σ (i + k)) ≤ q.2 := by
  induction l with
  | nil => intro i _ k q hq; cases hq
  | cons x t ih =>
    intro i h k q hq
    have h' : (yIn env fs (ySi σ i) x.1 x.2 && yBds σ env fs (i + 1) t) = true := h
    obtain ⟨h1, h2⟩ := xand h'
    cases k with
    | zero =>
      cases hq
      exact yIn_ok hE hF h1
    | succ k =>
      have := ih h2 k q hq
      rw [show i + 1 + k = i + (k + 1) by omega] at this
      exact this
theorem yLks_ok {σ : List yF} {n : Nat} (H : List yF) : ∀ {A : List yF} {vs : List Int}, yLks σ n H A = true → (∀ q ∈ yLkz A vs, yv τ q.1 = q.2) → ∀ q ∈ yLkz H vs, yv (fun i => yv τ (ySi σ i)) q.1 = q.2 ∧ yWf n q.1 = true := by
  induction H with
  | nil => intro A vs _ _ q hq; cases hq
  | cons x H ih =>
    intro A vs h hA q hq
    cases A with
    | nil => cases h
    | cons a A =>
      cases vs with
      | nil => cases hq
      | cons v w =>
        have h' : (yWf n x && (ySame (ySu σ x) a && yLks σ n H A)) = true := h
        obtain ⟨h1, h2⟩ := xand h'
        obtain ⟨h2, h3⟩ := xand h2
        rcases List.mem_cons.mp hq with rfl | hq
        · refine ⟨?_, h1⟩
          show yv _ x = v
          rw [← ySu_eq, ySame_ok h2]
          exact hA (a, v) List.mem_cons_self
        · exact ih h3 (fun z hz => hA z (List.mem_cons_of_mem _ hz)) q hq
/-- at an annotated place: the measure has fallen -/
theorem yEnt_ok {m0 : yF} {v0 : Int} {g0 : List yF} {vs : List Int} {an : yAn} (hs : ySt sp ((m0, v0) :: yLkz g0 vs) τ L S Wd LA SA env fs ca) (h : yEnt sp m0 g0 an LA SA env fs ca = true) : S = [] ∧ ∃ (τ' : Nat → Int) (v : Int), v < v0 ∧ ySt sp ((an.2.2.2.2.2.1, v) :: yLkz an.2.2.2.2.2.2 vs) τ' L [] Wd an.2.1 [] an.2.2.1 an.2.2.2.1 an.2.2.2.2.1 := by
  unfold yEnt at h
  obtain ⟨h0, h⟩ := xand h
  have hSA : SA = [] := List.isEmpty_iff.mp h0
  subst hSA
  have hS : S = [] := by
    have := yR_len hs.2.1
    exact List.length_eq_zero_iff.mp this
  subst hS
  refine ⟨rfl, ?_⟩
  obtain ⟨t, e', ca', hk, hs'⟩ := yPre_ok an.1 hs h
  dsimp only at hk
  generalize ySg LA ca' an.1 = σ at hk
  obtain ⟨k1, hk⟩ := xand hk
  obtain ⟨k2, hk⟩ := xand hk
  obtain ⟨k3, hk⟩ := xand hk
  obtain ⟨k4, hk⟩ := xand hk
  obtain ⟨k5, hk⟩ := xand hk
  obtain ⟨k6, k7⟩ := xand hk
  obtain ⟨s1, s2, s3, s4, s5, s6⟩ := hs'
  have e6 := yGe_ok s4 s5 k6
  rw [ySub_eq, ySub_eq, yK_eq, ySu_eq, (s4.2 (m0, v0) List.mem_cons_self).1] at e6
  refine ⟨fun i => yv t (ySi σ i), yv (fun i => yv t (ySi σ i)) an.2.2.2.2.2.1, by dsimp only at e6; omega, yLoc_ok k1 s1, trivial, s3, ⟨?_, ?_⟩, ?_, ?_⟩
  · intro k q hq
    have := yBds_ok s4 s5 _ k2 k q hq
    rw [Nat.zero_add] at this
    exact this
  · intro q hq
    rcases List.mem_cons.mp hq with rfl | hq
    · exact ⟨rfl, k5⟩
    · exact yLks_ok _ k7 (fun z hz => (s4.2 z (List.mem_cons_of_mem _ hz)).1) q hq
  · intro F hF
    have := yGe_ok s4 s5 (List.all_eq_true.mp k3 F hF)
    rw [ySu_eq] at this
    exact this
  · intro q hq
    have hz := List.all_eq_true.mp k4 q hq
    cases hc : yCl ca' q.1 (ySu σ q.2.1) with
    | none => rw [hc] at hz; cases hz
    | some V =>
      rw [hc] at hz
      dsimp only at hz
      obtain ⟨c, j, d1, d2, d3, d4, d5⟩ := yCl_ok s6 hc
      refine ⟨c, j, d1, by rw [d2, ySu_eq], d3, d4, ?_⟩
      rw [d5, ← ySame_ok hz, ySu_eq]
end YEN
