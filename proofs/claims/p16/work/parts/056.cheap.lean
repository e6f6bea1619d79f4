/-! the checker's heap -/
def yCov (g : ySeg) (j : Nat) : Bool := Nat.ble g.2.1 j && (Nat.blt j g.2.2.1 && Nat.beq ((j - g.2.1) % g.2.2.2.1) 0)
def yAtF (gs : List ySeg) (j : Nat) : Option ySeg := gs.find? (fun g => yCov g j)
/-- a form that is start and some steps -/
def yStp (g : ySeg) (I : yF) : Bool := I.1.all (fun q => decide (q.2 % (g.2.2.2.1 : Int) = 0)) && decide ((I.2 - g.2.1) % (g.2.2.2.1 : Int) = 0)
def yAtI (env : xEv) (fs : List yF) (gs : List ySeg) (I : yF) : Option ySeg := gs.find? (fun g => yIn env fs I g.2.1 ((g.2.2.1 : Int) - 1) && yStp g I)
/-- a segment that the form surely misses -/
def yOff (env : xEv) (fs : List yF) (g : ySeg) (I : yF) : Bool := yGe env fs (ySub (yK ((g.2.1 : Int) - 1)) I) || (yGe env fs (ySub I (yK g.2.2.1)) || (I.1.all (fun q => decide (q.2 % (g.2.2.2.1 : Int) = 0)) && !(decide ((I.2 - g.2.1) % (g.2.2.2.1 : Int) = 0))))
def yCl (ca : yCa) (p : Nat) (I : yF) : Option yF := match ca.find? (fun q => Nat.beq q.1 p && decide (q.2.1 = I)) with
  | none => none
  | some q => some q.2.2
/-- what stays known behind a write at a form of a place -/
def yKeep (ca : yCa) (p : Nat) (I : yF) : yCa := ca.filter (fun q => !(Nat.beq q.1 p) || (match ySub q.2.1 I with
  | (l, k) => l.isEmpty && !(decide (k = 0))))
def yAcc (env : xEv) (fs : List yF) (g : ySeg) (v : yA) : Bool := bif Nat.beq g.1 0 then Nat.beq v.1 0 && yIn env fs v.2 g.2.2.2.2.1 g.2.2.2.2.2 else bif Nat.beq g.1 1 then Nat.beq v.1 1 else false
section YHP
variable {G : Nat → List Nat → List Nat → List Nat → Prop} {sp : List yCell} {K : yKt} {Kc : xKt} {cc cs : Nat}
variable {γ : yLk} {τ : Nat → Int} {L S Wd : List Nat} {LA SA : List yA} {env : xEv} {fs : List yF} {ca : yCa} {a1 a2 pc : Nat}
theorem yStp_ok {g : ySeg} {I : yF} (h : yStp g I = true) : (yv τ I - g.2.1) % (g.2.2.2.1 : Int) = 0 := by
  obtain ⟨h1, h2⟩ := xand h
  have hT : ∀ l : List (Nat × Int), l.all (fun q => decide (q.2 % (g.2.2.2.1 : Int) = 0)) = true → yT τ l % (g.2.2.2.1 : Int) = 0 := by
    intro l
    induction l with
    | nil => intro _; exact Int.zero_emod _
    | cons q t ih =>
      intro hl
      have hl' : (decide (q.2 % (g.2.2.2.1 : Int) = 0) && t.all (fun q => decide (q.2 % (g.2.2.2.1 : Int) = 0))) = true := hl
      have e1 : q.2 % (g.2.2.2.1 : Int) = 0 := of_decide_eq_true (xand hl').1
      show (q.2 * τ q.1 + yT τ t) % (g.2.2.2.1 : Int) = 0
      exact Int.emod_eq_zero_of_dvd (Int.dvd_add (Int.dvd_mul_of_dvd_left (Int.dvd_of_emod_eq_zero e1)) (Int.dvd_of_emod_eq_zero (ih (xand hl').2)))
  have e2 : (I.2 - g.2.1) % (g.2.2.2.1 : Int) = 0 := of_decide_eq_true h2
  have e3 := hT I.1 h1
  have e : yv τ I - g.2.1 = yT τ I.1 + (I.2 - g.2.1) := by unfold yv; omega
  rw [e]
  exact Int.emod_eq_zero_of_dvd (Int.dvd_add (Int.dvd_of_emod_eq_zero e3) (Int.dvd_of_emod_eq_zero e2))
theorem yOff_ok {g : ySeg} {I : yF} (hE : yEO γ τ env) (hF : yFO τ fs) (h : yOff env fs g I = true) {j : Nat} (hj : (j : Int) = yv τ I) : ¬ (g.2.1 ≤ j ∧ j < g.2.2.1 ∧ (j - g.2.1) % g.2.2.2.1 = 0) := by
  intro ⟨q1, q2, q3⟩
  unfold yOff at h
  cases h1 : yGe env fs (ySub (yK ((g.2.1 : Int) - 1)) I) with
  | true =>
    have := yGe_ok hE hF h1
    rw [ySub_eq, yK_eq] at this
    omega
  | false =>
    rw [h1, Bool.false_or] at h
    cases h2 : yGe env fs (ySub I (yK g.2.2.1)) with
    | true =>
      have := yGe_ok hE hF h2
      rw [ySub_eq, yK_eq] at this
      omega
    | false =>
      rw [h2, Bool.false_or] at h
      obtain ⟨h3, h4⟩ := xand h
      have h4' : ¬ (I.2 - g.2.1) % (g.2.2.2.1 : Int) = 0 := by
        intro q
        rw [show decide ((I.2 - (g.2.1 : Int)) % (g.2.2.2.1 : Int) = 0) = true from decide_eq_true q] at h4
        cases h4
      apply h4'
      have hT : ∀ l : List (Nat × Int), l.all (fun q => decide (q.2 % (g.2.2.2.1 : Int) = 0)) = true → yT τ l % (g.2.2.2.1 : Int) = 0 := by
        intro l
        induction l with
        | nil => intro _; exact Int.zero_emod _
        | cons q t ih =>
          intro hl
          have hl' : (decide (q.2 % (g.2.2.2.1 : Int) = 0) && t.all (fun q => decide (q.2 % (g.2.2.2.1 : Int) = 0))) = true := hl
          have e1 : q.2 % (g.2.2.2.1 : Int) = 0 := of_decide_eq_true (xand hl').1
          show (q.2 * τ q.1 + yT τ t) % (g.2.2.2.1 : Int) = 0
          exact Int.emod_eq_zero_of_dvd (Int.dvd_add (Int.dvd_mul_of_dvd_left (Int.dvd_of_emod_eq_zero e1)) (Int.dvd_of_emod_eq_zero (ih (xand hl').2)))
      have e3 := hT I.1 h3
      have e5 : ((j - g.2.1 : Nat) : Int) % (g.2.2.2.1 : Int) = 0 := by
        have := congrArg (fun n : Nat => (n : Int)) q3
        simpa using this
      have e6 : ((j - g.2.1 : Nat) : Int) = (j : Int) - g.2.1 := by omega
      rw [e6, hj] at e5
      have e : I.2 - (g.2.1 : Int) = (yv τ I - g.2.1) - yT τ I.1 := by unfold yv; omega
      rw [e]
      exact Int.emod_eq_zero_of_dvd (Int.dvd_sub (Int.dvd_of_emod_eq_zero e5) (Int.dvd_of_emod_eq_zero e3))
theorem yCl_ok {p : Nat} {I V : yF} (hc : yCaOk τ Wd ca) (h : yCl ca p I = some V) : ∃ c j : Nat, Wd[p]? = some c ∧ (j : Int) = yv τ I ∧ xDn c j 1 % 8 = 0 ∧ xDn c j 1 / 8 < 4294967296 ∧ xs32 (xDn c j 1 / 8) = yv τ V := by
  unfold yCl at h
  cases hf : ca.find? (fun q => Nat.beq q.1 p && decide (q.2.1 = I)) with
  | none => rw [hf] at h; cases h
  | some q =>
    rw [hf] at h
    cases h
    have h1 := List.find?_some hf
    have h2 := List.mem_of_find?_eq_some hf
    obtain ⟨g1, g2⟩ := xand h1
    have e1 := xbeq g1
    have e2 : q.2.1 = I := of_decide_eq_true g2
    obtain ⟨c, j, f1, f2, f3⟩ := hc q h2
    exact ⟨c, j, by rw [← e1]; exact f1, by rw [← e2]; exact f2, f3⟩
/-- a cell behind a write at j of a value that every segment there takes -/
theorem yJ_put {p c j v : Nat} {q : yCell} (hJ : yJ sp Wd) (h1 : Wd[p]? = some c) (h2 : sp[p]? = some q) (hv : v < 4722366482869645213696) (hg : ∀ g ∈ q.2, g.2.1 ≤ j → j < g.2.2.1 → (j - g.2.1) % g.2.2.2.1 = 0 → match g.1 with
    | 0 => v % 8 = 0 ∧ v / 8 < 4294967296 ∧ g.2.2.2.2.1 ≤ xs32 (v / 8) ∧ xs32 (v / 8) ≤ g.2.2.2.2.2
    | 1 => v % 8 = 1 ∧ v / 8 < 18446744073709551616
    | 4 => v < 18446744073709551616
    | _ => False) : yJ sp (Wd.set p (xPn c j 1 v)) := by
  refine ⟨by rw [List.length_set]; exact hJ.1, fun p' c' q' e1 e2 => ?_⟩
  by_cases hp : p = p'
  · subst hp
    have hlt := (List.getElem?_eq_some_iff.mp h1).1
    rw [List.getElem?_set_self hlt] at e1
    cases e1
    rw [h2] at e2
    cases e2
    obtain ⟨k1, k2⟩ := hJ.2 p c q h1 h2
    refine ⟨by rw [xPn_hdr]; exact k1, fun g hm i i1 i2 i3 => ?_⟩
    rw [xPn_one hv]
    by_cases hi : i = j
    · rw [if_pos hi]
      subst hi
      have := hg g hm i1 i2 i3
      generalize g.1 = kg at this ⊢
      match kg, this with
      | 0, this => exact this
      | 1, this => exact this
      | 4, this => exact this
    · rw [if_neg hi]
      exact k2 g hm i i1 i2 i3
  · rw [List.getElem?_set_ne hp] at e1
    exact hJ.2 p' c' q' e1 e2
theorem yCa_put {p c j v : Nat} {I V : yF} (hc : yCaOk τ Wd ca) (h1 : Wd[p]? = some c) (hv : v < 4722366482869645213696) (hj : (j : Int) = yv τ I) : yCaOk τ (Wd.set p (xPn c j 1 v)) (yKeep ca p I) := by
  intro q hq
  obtain ⟨m1, m2⟩ := List.mem_filter.mp hq
  obtain ⟨c', j', f1, f2, f3, f4, f5⟩ := hc q m1
  by_cases hp : p = q.1
  · have hlt := (List.getElem?_eq_some_iff.mp h1).1
    rw [← hp, h1] at f1
    cases f1
    have hjj : ¬ j' = j := by
      intro e
      subst e
      have hb : Nat.beq q.1 p = true := by rw [hp]; exact Nat.beq_refl _
      rw [hb] at m2
      have m3 : ((ySub q.2.1 I).1.isEmpty && !(decide ((ySub q.2.1 I).2 = 0))) = true := m2
      obtain ⟨m4, m5⟩ := xand m3
      have e0 : (ySub q.2.1 I).1 = [] := List.isEmpty_iff.mp m4
      have e1 : yv τ (ySub q.2.1 I) = (ySub q.2.1 I).2 := by unfold yv; rw [e0]; show (0 : Int) + _ = _; omega
      rw [ySub_eq, ← f2, ← hj] at e1
      rw [show decide ((ySub q.2.1 I).2 = 0) = true from decide_eq_true (by omega)] at m5
      cases m5
    refine ⟨xPn c j 1 v, j', by rw [← hp]; exact List.getElem?_set_self hlt, f2, ?_⟩
    rw [xPn_one hv, if_neg hjj]
    exact ⟨f3, f4, f5⟩
  · exact ⟨c', j', by rw [List.getElem?_set_ne hp]; exact f1, f2, f3, f4, f5⟩
theorem yCell_at {p : Nat} {q : yCell} (hJ : yJ sp Wd) (h : sp[p]? = some q) : ∃ c, Wd[p]? = some c ∧ c % 18446744073709551616 = q.1 ∧ ∀ g ∈ q.2, ySegOk c g := by
  have hl : p < Wd.length := by rw [hJ.1]; exact (List.getElem?_eq_some_iff.mp h).1
  refine ⟨Wd[p], List.getElem?_eq_getElem hl, hJ.2 p _ q (List.getElem?_eq_getElem hl) h⟩
/-! fields -/
def yo_gf (K : yKt) (sp : List yCell) (a1 a2 : Nat) (pc : Nat) (LA SA : List yA) (env : xEv) (fs : List yF) (ca : yCa) : Bool := match SA with
  | a :: r => bif Nat.beq a.1 2 then (match sp[a.2.2.toNat]? with
    | none => false
    | some q => bif Nat.beq q.1 (8 * a1 + 2) then (match yAtF q.2 a2 with
      | none => false
      | some g => bif Nat.beq g.1 2 then K (pc + 3) LA ((2, ([], g.2.2.2.2.1)) :: r) env fs ca else bif Nat.beq g.1 1 then yFr LA SA env fs ca (-9223372036854775808) 9223372036854775807 (fun F e' => K (pc + 3) LA ((1, F) :: r) e' fs ca) else bif Nat.beq g.1 0 then (match yCl ca a.2.2.toNat (yK a2) with
        | some V => K (pc + 3) LA ((0, V) :: r) env fs ca
        | none => yFr LA SA env fs ca g.2.2.2.2.1 g.2.2.2.2.2 (fun F e' => K (pc + 3) LA ((0, F) :: r) e' fs ((a.2.2.toNat, yK a2, F) :: ca))) else false) else false) else false
  | [] => false
theorem yc_getfield (hKc : ∀ pc L S Wd, G pc L S Wd → Kc pc L S Wd cc cs [] = some []) (hK : yHK G sp γ K) (hs : ySt sp γ τ L S Wd LA SA env fs ca) (h : yo_gf K sp a1 a2 pc LA SA env fs ca = true) : xo_getfield Kc a1 a2 pc L S Wd cc cs [] = some [] := by
  unfold yo_gf at h
  match SA, h, hs with
  | (ka, P) :: r, h, hs =>
    dsimp only at h
    obtain ⟨hk, hN⟩ := ybif h
    have hk : ka = 2 := xbeq hk
    subst hk
    obtain ⟨rc, t, rfl, h1, h2⟩ := yR_c (c := 0) hs.2.1
    have hrc : rc = 8 * P.2.toNat + 2 := h1
    cases hq : sp[P.2.toNat]? with
    | none => rw [hq] at hN; cases hN
    | some q =>
      rw [hq] at hN
      dsimp only at hN
      obtain ⟨hh, hN⟩ := ybif hN
      obtain ⟨c, c1, c2, c3⟩ := yCell_at hs.2.2.1 hq
      have hgc : xGet Wd (rc / 8) = c := by rw [show rc / 8 = P.2.toNat by omega, xGet_eq, List.getD_eq_getElem?_getD, c1]; rfl
      have goal : G (pc + 3) L (xDn c a2 1 :: t) Wd := by
        cases hg : yAtF q.2 a2 with
        | none => rw [hg] at hN; cases hN
        | some g =>
          rw [hg] at hN
          dsimp only at hN
          have hcov := List.find?_some hg
          obtain ⟨v1, v2⟩ := xand hcov
          obtain ⟨v2, v3⟩ := xand v2
          have hok := c3 g (List.mem_of_find?_eq_some hg) a2 (xble v1) (xblt v2) (xbeq v3)
          cases k2 : Nat.beq g.1 2 with
          | true =>
            rw [k2, cond_true] at hN
            rw [xbeq k2] at hok
            exact hK _ _ _ _ _ _ hN τ L _ Wd ⟨hs.1, ⟨hok, h2⟩, hs.2.2⟩
          | false =>
            rw [k2, cond_false] at hN
            cases k1 : Nat.beq g.1 1 with
            | true =>
              rw [k1, cond_true] at hN
              rw [xbeq k1] at hok
              obtain ⟨τ', F', e', f1, f2, f3⟩ := yFr_ok (z := xs64 (xDn c a2 1 / 8)) hs hN (yrng64 _).1 (yrng64 _).2
              exact hK _ _ _ _ _ _ f1 τ' L _ Wd ⟨f2.1, ⟨⟨hok.1, hok.2, f3.symm⟩, f2.2.1.2⟩, f2.2.2⟩
            | false =>
              rw [k1, cond_false] at hN
              obtain ⟨k0, hN⟩ := ybif hN
              rw [xbeq k0] at hok
              cases hcl : yCl ca P.2.toNat (yK a2) with
              | some V =>
                rw [hcl] at hN
                obtain ⟨c', j, d1, d2, d3, d4, d5⟩ := yCl_ok hs.2.2.2.2.2 hcl
                rw [c1] at d1
                cases d1
                rw [yK_eq] at d2
                have hj : j = a2 := by omega
                subst hj
                exact hK _ _ _ _ _ _ hN τ L _ Wd ⟨hs.1, ⟨⟨d3, d4, d5⟩, h2⟩, hs.2.2⟩
              | none =>
                rw [hcl] at hN
                obtain ⟨τ', F', e', f1, f2, f3⟩ := yFr_ok (z := xs32 (xDn c a2 1 / 8)) hs hN hok.2.2.1 hok.2.2.2
                refine hK _ _ _ _ _ _ f1 τ' L _ Wd ⟨f2.1, ⟨⟨hok.1, hok.2.1, f3.symm⟩, f2.2.1.2⟩, f2.2.2.1, f2.2.2.2.1, f2.2.2.2.2.1, ?_⟩
                intro qq hqq
                rcases List.mem_cons.mp hqq with rfl | hqq
                · exact ⟨c, a2, c1, (yK_eq τ' a2).symm, hok.1, hok.2.1, f3.symm⟩
                · exact f2.2.2.2.2.2 qq hqq
      unfold xo_getfield
      dsimp only
      rw [show rc % 8 = 2 by omega, show Nat.beq 2 2 = true from rfl, cond_true, xF_eq, hgc, c2, hh, cond_true, xF_eq, xF_eq]
      exact hKc _ _ _ _ goal
  | [], h, _ => cases h
end YHP
