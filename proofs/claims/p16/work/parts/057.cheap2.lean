section YHQ
variable {G : Nat → List Nat → List Nat → List Nat → Prop} {sp : List yCell} {K : yKt} {Kc : xKt} {cc cs : Nat}
variable {γ : yLk} {τ : Nat → Int} {L S Wd : List Nat} {LA SA : List yA} {env : xEv} {fs : List yF} {ca : yCa} {a1 a2 pc : Nat}
theorem yAtI_ok {gs : List ySeg} {I : yF} {g : ySeg} (h : yAtI env fs gs I = some g) : (yIn env fs I g.2.1 ((g.2.2.1 : Int) - 1) = true ∧ yStp g I = true) ∧ g ∈ gs := by
  unfold yAtI at h
  have h1 := List.find?_some h
  exact ⟨xand h1, List.mem_of_find?_eq_some h⟩
theorem yg_small {v : Nat} {a : yA} (h : yg τ v a) (hk : a.1 = 0 ∨ a.1 = 1) : v < 4722366482869645213696 := by
  obtain ⟨k, F⟩ := a
  dsimp only at hk
  rcases hk with rfl | rfl
  · obtain ⟨h1, h2, -⟩ := yg_int h
    omega
  · obtain ⟨h1, h2, -⟩ := yg_lon h
    omega
/-- every segment at j takes the value -/
theorem yAcc_ok {q : yCell} {v j : Nat} {a : yA} {I : yF} (hs : ySt sp γ τ L S Wd LA SA env fs ca) (hv : yg τ v a) (hj : (j : Int) = yv τ I) (h : q.2.all (fun g => yOff env fs g I || yAcc env fs g a) = true) : ∀ g ∈ q.2, g.2.1 ≤ j → j < g.2.2.1 → (j - g.2.1) % g.2.2.2.1 = 0 → match g.1 with
    | 0 => v % 8 = 0 ∧ v / 8 < 4294967296 ∧ g.2.2.2.2.1 ≤ xs32 (v / 8) ∧ xs32 (v / 8) ≤ g.2.2.2.2.2
    | 1 => v % 8 = 1 ∧ v / 8 < 18446744073709551616
    | 4 => v < 18446744073709551616
    | _ => False := by
  intro g hg i1 i2 i3
  have h1 := List.all_eq_true.mp h g hg
  cases ho : yOff env fs g I with
  | true => exact absurd ⟨i1, i2, i3⟩ (yOff_ok hs.2.2.2.1 hs.2.2.2.2.1 ho hj)
  | false =>
    have h2 : yAcc env fs g a = true := by
      have h1' : (yOff env fs g I || yAcc env fs g a) = true := h1
      rw [ho] at h1'
      exact h1'
    unfold yAcc at h2
    obtain ⟨ka, F⟩ := a
    cases k0 : Nat.beq g.1 0 with
    | true =>
      rw [k0, cond_true] at h2
      obtain ⟨g1, g2⟩ := xand h2
      have hka : ka = 0 := xbeq g1
      subst hka
      obtain ⟨b1, b2, b3⟩ := yg_int hv
      have hb := yIn_ok hs.2.2.2.1 hs.2.2.2.2.1 g2
      rw [xbeq k0]
      dsimp only at hb
      rw [← b3] at hb
      exact ⟨b1, b2, hb.1, hb.2⟩
    | false =>
      rw [k0, cond_false] at h2
      obtain ⟨k1, g1⟩ := ybif h2
      have hka : ka = 1 := xbeq g1
      subst hka
      obtain ⟨b1, b2, -⟩ := yg_lon hv
      rw [xbeq k1]
      exact ⟨b1, b2⟩
def yPut (a : yA) (ca : yCa) (p : Nat) (I : yF) : yCa := bif Nat.beq a.1 0 then (p, I, a.2) :: yKeep ca p I else yKeep ca p I
theorem yPut_ok {p c j v : Nat} {I : yF} {a : yA} (hc : yCaOk τ Wd ca) (h1 : Wd[p]? = some c) (hv : v < 4722366482869645213696) (hj : (j : Int) = yv τ I) (hg : yg τ v a) : yCaOk τ (Wd.set p (xPn c j 1 v)) (yPut a ca p I) := by
  have hk := yCa_put (V := I) (I := I) hc h1 hv hj
  unfold yPut
  obtain ⟨ka, F⟩ := a
  cases k0 : Nat.beq ka 0 with
  | false => exact hk
  | true =>
    have hka := xbeq k0
    subst hka
    obtain ⟨b1, b2, b3⟩ := yg_int hg
    intro q hq
    rcases List.mem_cons.mp hq with rfl | hq
    · refine ⟨xPn c j 1 v, j, List.getElem?_set_self (List.getElem?_eq_some_iff.mp h1).1, hj, ?_⟩
      rw [xPn_one hv, if_pos rfl]
      exact ⟨b1, b2, b3⟩
    · exact hk q hq
def yo_pf (K : yKt) (sp : List yCell) (a1 a2 : Nat) (pc : Nat) (LA SA : List yA) (env : xEv) (fs : List yF) (ca : yCa) : Bool := match SA with
  | v :: a :: r => bif Nat.beq a.1 2 && (Nat.beq v.1 0 || Nat.beq v.1 1) then (match sp[a.2.2.toNat]? with
    | none => false
    | some q => bif Nat.beq q.1 (8 * a1 + 2) && (q.2.all (fun g => yOff env fs g (yK a2) || yAcc env fs g v) && (bif Nat.beq v.1 0 then decide (xTyOf a1 a2 = .int) else decide (xTyOf a1 a2 = .long))) then K (pc + 3) LA r env fs (yPut v ca a.2.2.toNat (yK a2)) else false) else false
  | _ => false
theorem yc_putfield (hKc : ∀ pc L S Wd, G pc L S Wd → Kc pc L S Wd cc cs [] = some []) (hK : yHK G sp γ K) (hs : ySt sp γ τ L S Wd LA SA env fs ca) (h : yo_pf K sp a1 a2 pc LA SA env fs ca = true) : xo_putfield Kc a1 a2 pc L S Wd cc cs [] = some [] := by
  unfold yo_pf at h
  match SA, h, hs with
  | av :: (ka, P) :: r, h, hs =>
    dsimp only at h
    obtain ⟨hk, hN⟩ := ybif h
    obtain ⟨hk2, hkv⟩ := xand hk
    have hk2 : ka = 2 := xbeq hk2
    subst hk2
    obtain ⟨v, t, rfl, h1, h2⟩ := yR_c (c := 0) hs.2.1
    obtain ⟨rc, t, rfl, h3, h4⟩ := yR_c (c := 0) h2
    have hrc : rc = 8 * P.2.toNat + 2 := h3
    have hav : av.1 = 0 ∨ av.1 = 1 := by
      cases hb : Nat.beq av.1 0 with
      | true => exact Or.inl (xbeq hb)
      | false => rw [hb] at hkv; exact Or.inr (xbeq (show Nat.beq av.1 1 = true from hkv))
    cases hq : sp[P.2.toNat]? with
    | none => rw [hq] at hN; cases hN
    | some q =>
      rw [hq] at hN
      dsimp only at hN
      obtain ⟨hh, hN⟩ := ybif hN
      obtain ⟨hh, hall⟩ := xand hh
      obtain ⟨hall, hty⟩ := xand hall
      obtain ⟨c, c1, c2, c3⟩ := yCell_at hs.2.2.1 hq
      have hgc : xGet Wd (rc / 8) = c := by rw [show rc / 8 = P.2.toNat by omega, xGet_eq, List.getD_eq_getElem?_getD, c1]; rfl
      have hsm := yg_small h1 hav
      have hfit : xFit (xTyOf a1 a2) v = true := by
        rcases hav with e | e
        · rw [e, show Nat.beq 0 0 = true from rfl, cond_true] at hty
          rw [of_decide_eq_true hty]
          exact (ykind h1).1 e
        · rw [e, show Nat.beq 1 0 = false from rfl, cond_false] at hty
          rw [of_decide_eq_true hty]
          exact (ykind h1).2.1 e
      have hG := hK _ _ _ _ _ _ hN τ L t (Wd.set P.2.toNat (xPn c a2 1 v)) ⟨hs.1, h4, yJ_put hs.2.2.1 c1 hq hsm (yAcc_ok hs h1 (yK_eq τ a2).symm hall), hs.2.2.2.1, hs.2.2.2.2.1, yPut_ok hs.2.2.2.2.2 c1 hsm (yK_eq τ a2).symm h1⟩
      unfold xo_putfield
      dsimp only
      rw [show rc % 8 = 2 by omega, hfit, show Nat.blt v 4722366482869645213696 = true from Nat.ble_eq_true_of_le hsm, show (Nat.beq 2 2 && true && true) = true from rfl, cond_true, xF_eq, hgc, c2, hh, cond_true, xF_eq, xSet_eq, xF_eq, show rc / 8 = P.2.toNat by omega]
      exact hKc _ _ _ _ hG
  | [], h, _ => cases h
  | [_], h, _ => cases h
/-! arrays -/
/-- an int that is an index: its number -/
theorem yidx {x : Nat} {I : yF} {lo hi : Nat} (h : yg τ x (0, I)) (h1 : (lo : Int) ≤ yv τ I) (h2 : yv τ I ≤ (hi : Int) - 1) (hh : hi ≤ 2147483648) : ((x / 8 : Nat) : Int) = yv τ I ∧ lo ≤ x / 8 ∧ x / 8 < hi := by
  obtain ⟨b1, b2, b3⟩ := yg_int h
  unfold xs32 xb32 at b3
  omega
theorem yseg_at {c j : Nat} {g : ySeg} {I : yF} (hg : ySegOk c g) (hj : (j : Int) = yv τ I) (h1 : g.2.1 ≤ j) (h2 : j < g.2.2.1) (hst : yStp g I = true) : match g.1 with
  | 0 => xDn c j 1 % 8 = 0 ∧ xDn c j 1 / 8 < 4294967296 ∧ g.2.2.2.2.1 ≤ xs32 (xDn c j 1 / 8) ∧ xs32 (xDn c j 1 / 8) ≤ g.2.2.2.2.2
  | 1 => xDn c j 1 % 8 = 1 ∧ xDn c j 1 / 8 < 18446744073709551616
  | 2 => xDn c j 1 = 8 * g.2.2.2.2.1.toNat + 2
  | 4 => xDn c j 1 < 18446744073709551616
  | 5 => xDn c j 1 = g.2.2.2.2.1.toNat + 1
  | _ => False := by
  refine hg j h1 h2 ?_
  have e := yStp_ok (τ := τ) hst
  rw [← hj] at e
  have e6 : ((j - g.2.1 : Nat) : Int) = (j : Int) - g.2.1 := by omega
  rw [← e6] at e
  have e7 : (((j - g.2.1) % g.2.2.2.1 : Nat) : Int) = 0 := by rw [Int.natCast_emod]; exact e
  omega
def yo_ial (K : yKt) (sp : List yCell) (tg : Nat) (pc : Nat) (LA SA : List yA) (env : xEv) (fs : List yF) (ca : yCa) : Bool := match SA with
  | x :: a :: r => bif Nat.beq x.1 0 && Nat.beq a.1 2 then (match sp[a.2.2.toNat]? with
    | none => false
    | some q => bif Nat.beq (q.1 % 8) tg then (match yAtI env fs q.2 x.2 with
      | none => false
      | some g => bif Nat.beq g.1 0 && (Nat.ble g.2.2.1 (q.1 / 8) && Nat.ble g.2.2.1 2147483648) then (match yCl ca a.2.2.toNat x.2 with
        | some V => K (pc + 1) LA ((0, V) :: r) env fs ca
        | none => yFr LA SA env fs ca g.2.2.2.2.1 g.2.2.2.2.2 (fun F e' => bif yWf env.length x.2 then K (pc + 1) LA ((0, F) :: r) e' fs ((a.2.2.toNat, x.2, F) :: ca) else false)) else false) else false) else false
  | _ => false
theorem yt_ial {tg : Nat} (hK : yHK G sp γ K) (hs : ySt sp γ τ L S Wd LA SA env fs ca) (h : yo_ial K sp tg pc LA SA env fs ca = true) : ∃ x p c r, S = x :: (8 * p + 2) :: r ∧ x % 8 = 0 ∧ x / 8 < 2147483648 ∧ Wd[p]? = some c ∧ c % 8 = tg ∧ x / 8 < c % 18446744073709551616 / 8 ∧ xIsI (xDn c (x / 8) 1) = true ∧ G (pc + 1) L (xDn c (x / 8) 1 :: r) Wd := by
  unfold yo_ial at h
  match SA, h, hs with
  | (kx, I) :: (ka, P) :: r, h, hs =>
    dsimp only at h
    obtain ⟨hk, hN⟩ := ybif h
    have hkx : kx = 0 := xbeq (xand hk).1
    have hka : ka = 2 := xbeq (xand hk).2
    subst hkx
    subst hka
    obtain ⟨x, t, rfl, h1, h2⟩ := yR_c (c := 0) hs.2.1
    obtain ⟨rc, t, rfl, h3, h4⟩ := yR_c (c := 0) h2
    have hrc : rc = 8 * P.2.toNat + 2 := h3
    cases hq : sp[P.2.toNat]? with
    | none => rw [hq] at hN; cases hN
    | some q =>
      rw [hq] at hN
      dsimp only at hN
      obtain ⟨ht, hN⟩ := ybif hN
      obtain ⟨c, c1, c2, c3⟩ := yCell_at hs.2.2.1 hq
      cases hg : yAtI env fs q.2 I with
      | none => rw [hg] at hN; cases hN
      | some g =>
        rw [hg] at hN
        dsimp only at hN
        obtain ⟨hb, hN⟩ := ybif hN
        obtain ⟨k0, hb⟩ := xand hb
        obtain ⟨hl1, hl2⟩ := xand hb
        have hfs := (yAtI_ok hg).1
        obtain ⟨hin, hst⟩ := hfs
        obtain ⟨b1, b2⟩ := yIn_ok hs.2.2.2.1 hs.2.2.2.2.1 hin
        obtain ⟨i1, i2, i3⟩ := yidx h1 b1 b2 (xble hl2)
        have hok := yseg_at (c3 g (yAtI_ok hg).2) i1 i2 i3 hst
        rw [xbeq k0] at hok
        have hl1 := xble hl1
        have hl2 := xble hl2
        have hii : xIsI (xDn c (x / 8) 1) = true := by unfold xIsI; rw [hok.1]; rfl
        refine ⟨x, P.2.toNat, c, t, by rw [hrc], (yg_int h1).1, by omega, c1, by rw [← x8, c2]; exact xbeq ht, by rw [c2]; omega, hii, ?_⟩
        cases hcl : yCl ca P.2.toNat I with
        | some V =>
          rw [hcl] at hN
          obtain ⟨c', j, d1, d2, d3, d4, d5⟩ := yCl_ok hs.2.2.2.2.2 hcl
          rw [c1] at d1
          cases d1
          have hj : j = x / 8 := by omega
          subst hj
          exact hK _ _ _ _ _ _ hN τ L _ Wd ⟨hs.1, ⟨⟨d3, d4, d5⟩, h4⟩, hs.2.2⟩
        | none =>
          rw [hcl] at hN
          unfold yFr at hN
          obtain ⟨hw, hN⟩ := ybif hN
          obtain ⟨hwi, hN⟩ := ybif hN
          have f2 := hs.fresh hw hok.2.2.1 hok.2.2.2
          have f3 := yUp_new τ env.length (xs32 (xDn c (x / 8) 1 / 8))
          have hkeep : ∀ i, i < env.length → yUp τ env.length (xs32 (xDn c (x / 8) 1 / 8)) i = τ i := fun i hi => by unfold yUp; rw [if_neg (by omega)]
          refine hK _ _ _ _ _ _ hN _ L _ Wd ⟨f2.1, ⟨⟨hok.1, hok.2.1, f3.symm⟩, f2.2.1.2.2⟩, f2.2.2.1, f2.2.2.2.1, f2.2.2.2.2.1, ?_⟩
          intro qq hqq
          rcases List.mem_cons.mp hqq with rfl | hqq
          · exact ⟨c, x / 8, c1, by rw [yv_keep hkeep hwi]; exact i1, hok.1, hok.2.1, f3.symm⟩
          · exact f2.2.2.2.2.2 qq hqq
theorem yc_iaload (hKc : ∀ pc L S Wd, G pc L S Wd → Kc pc L S Wd cc cs [] = some []) (hK : yHK G sp γ K) (hs : ySt sp γ τ L S Wd LA SA env fs ca) (h : yo_ial K sp 1 pc LA SA env fs ca = true) : xo_iaload Kc a1 a2 pc L S Wd cc cs [] = some [] := by
  obtain ⟨x, p, c, r, rfl, g1, g2, g3, g4, g5, g6, g7⟩ := yt_ial hK hs h
  have hgc : xGet Wd ((8 * p + 2) / 8) = c := by rw [show (8 * p + 2) / 8 = p by omega, xGet_eq, List.getD_eq_getElem?_getD, g3]; rfl
  unfold xo_iaload
  dsimp only
  rw [g1, show Nat.beq 0 4 = false from rfl, cond_false, show Nat.blt (x / 8) 2147483648 = true from Nat.ble_eq_true_of_le g2, show (Nat.beq 0 0 && true) = true from rfl, cond_true, show (8 * p + 2) % 8 = 2 by omega, show Nat.beq 2 2 = true from rfl, cond_true, xF_eq, hgc, g4, show Nat.blt (x / 8) (c % 18446744073709551616 / 8) = true from Nat.ble_eq_true_of_le g5, show (Nat.beq 1 1 && true) = true from rfl, cond_true, xF_eq, g6, cond_true, xF_eq]
  exact hKc _ _ _ _ g7
theorem yc_baload (hKc : ∀ pc L S Wd, G pc L S Wd → Kc pc L S Wd cc cs [] = some []) (hK : yHK G sp γ K) (hs : ySt sp γ τ L S Wd LA SA env fs ca) (h : yo_ial K sp 5 pc LA SA env fs ca = true) : xo_baload Kc a1 a2 pc L S Wd cc cs [] = some [] := by
  obtain ⟨x, p, c, r, rfl, g1, g2, g3, g4, g5, g6, g7⟩ := yt_ial hK hs h
  have hgc : xGet Wd ((8 * p + 2) / 8) = c := by rw [show (8 * p + 2) / 8 = p by omega, xGet_eq, List.getD_eq_getElem?_getD, g3]; rfl
  unfold xo_baload
  dsimp only
  rw [g1, show Nat.beq 0 4 = false from rfl, cond_false, show Nat.blt (x / 8) 2147483648 = true from Nat.ble_eq_true_of_le g2, show (8 * p + 2) % 8 = 2 by omega, show (Nat.beq 0 0 && true && Nat.beq 2 2) = true from rfl, cond_true, xF_eq, hgc, g4, show Nat.blt (x / 8) (c % 18446744073709551616 / 8) = true from Nat.ble_eq_true_of_le g5, show (Nat.beq 5 5 && true) = true from rfl, cond_true, xF_eq, g6, cond_true, xF_eq]
  exact hKc _ _ _ _ g7
def yo_ias (K : yKt) (sp : List yCell) (pc : Nat) (LA SA : List yA) (env : xEv) (fs : List yF) (ca : yCa) : Bool := match SA with
  | v :: x :: a :: r => bif Nat.beq v.1 0 && (Nat.beq x.1 0 && Nat.beq a.1 2) then (match sp[a.2.2.toNat]? with
    | none => false
    | some q => bif Nat.beq (q.1 % 8) 1 && (Nat.ble (q.1 / 8) 2147483648 && (yIn env fs x.2 0 (((q.1 / 8 : Nat) : Int) - 1) && q.2.all (fun g => yOff env fs g x.2 || yAcc env fs g v))) then K (pc + 1) LA r env fs (yPut v ca a.2.2.toNat x.2) else false) else false
  | _ => false
theorem yc_iastore (hKc : ∀ pc L S Wd, G pc L S Wd → Kc pc L S Wd cc cs [] = some []) (hK : yHK G sp γ K) (hs : ySt sp γ τ L S Wd LA SA env fs ca) (h : yo_ias K sp pc LA SA env fs ca = true) : xo_iastore Kc a1 a2 pc L S Wd cc cs [] = some [] := by
  unfold yo_ias at h
  match SA, h, hs with
  | (kv, V) :: (kx, I) :: (ka, P) :: r, h, hs =>
    dsimp only at h
    obtain ⟨hk, hN⟩ := ybif h
    have hkv : kv = 0 := xbeq (xand hk).1
    have hkx : kx = 0 := xbeq (xand (xand hk).2).1
    have hka : ka = 2 := xbeq (xand (xand hk).2).2
    subst hkv
    subst hkx
    subst hka
    obtain ⟨v, t, rfl, h0, h00⟩ := yR_c (c := 0) hs.2.1
    obtain ⟨x, t, rfl, h1, h2⟩ := yR_c (c := 0) h00
    obtain ⟨rc, t, rfl, h3, h4⟩ := yR_c (c := 0) h2
    have hrc : rc = 8 * P.2.toNat + 2 := h3
    cases hq : sp[P.2.toNat]? with
    | none => rw [hq] at hN; cases hN
    | some q =>
      rw [hq] at hN
      dsimp only at hN
      obtain ⟨hb, hN⟩ := ybif hN
      obtain ⟨ht, hb⟩ := xand hb
      obtain ⟨hl, hb⟩ := xand hb
      obtain ⟨hin, hall⟩ := xand hb
      obtain ⟨c, c1, c2, c3⟩ := yCell_at hs.2.2.1 hq
      obtain ⟨b1, b2⟩ := yIn_ok hs.2.2.2.1 hs.2.2.2.2.1 hin
      obtain ⟨i1, i2, i3⟩ := yidx (lo := 0) h1 b1 b2 (xble hl)
      have hl := xble hl
      have hsm := yg_small h0 (Or.inl rfl)
      have hgc : xGet Wd (rc / 8) = c := by rw [show rc / 8 = P.2.toNat by omega, xGet_eq, List.getD_eq_getElem?_getD, c1]; rfl
      have hG := hK _ _ _ _ _ _ hN τ L t (Wd.set P.2.toNat (xPn c (x / 8) 1 v)) ⟨hs.1, h4, yJ_put hs.2.2.1 c1 hq hsm (yAcc_ok hs h0 i1 hall), hs.2.2.2.1, hs.2.2.2.2.1, yPut_ok hs.2.2.2.2.2 c1 hsm i1 h0⟩
      have hxi : xIsI v = true := (ykind h0).1 rfl
      have hc8 : c % 8 = 1 := by rw [← x8, c2]; exact xbeq ht
      unfold xo_iastore
      dsimp only
      rw [(yg_int h1).1, show Nat.beq 0 4 = false from rfl, cond_false, show Nat.blt (x / 8) 2147483648 = true from Nat.ble_eq_true_of_le (show x / 8 + 1 ≤ 2147483648 by omega), show rc % 8 = 2 by omega, hxi, show Nat.blt v 4722366482869645213696 = true from Nat.ble_eq_true_of_le hsm, show (Nat.beq 0 0 && true && Nat.beq 2 2 && true && true) = true from rfl, cond_true, xF_eq, hgc, hc8, c2, show Nat.blt (x / 8) (q.1 / 8) = true from Nat.ble_eq_true_of_le i3, show (Nat.beq 1 1 && true) = true from rfl, cond_true, xF_eq, xSet_eq, xF_eq, show rc / 8 = P.2.toNat by omega]
      exact hKc _ _ _ _ hG
  | [], h, _ => cases h
  | [_], h, _ => cases h
  | [_, _], h, _ => cases h
end YHQ
