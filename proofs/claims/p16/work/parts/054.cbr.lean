section YBR
variable {G : Nat → List Nat → List Nat → List Nat → Prop} {sp : List yCell} {K : yKt} {Kc : xKt} {cc cs : Nat}
variable {γ : yLk} {τ : Nat → Int} {L S Wd : List Nat} {LA SA : List yA} {env : xEv} {fs : List yF} {ca : yCa} {a1 a2 pc : Nat}
/-! two ints, any int -/
theorem yc_ior (hKc : ∀ pc L S Wd, G pc L S Wd → Kc pc L S Wd cc cs [] = some []) (hK : yHK G sp γ K) (hs : ySt sp γ τ L S Wd LA SA env fs ca) (h : yo_i2 K (fun _ _ => none) pc LA SA env fs ca = true) : xo_ior Kc a1 a2 pc L S Wd cc cs [] = some [] := by
  obtain ⟨y, x, r, rfl, g1, g2, g3⟩ := yt_i2 (f := fun x y => xN32 (nI x ||| nI y)) hK hs h (fun _ _ => ylt32 _) (fun X Y F x y τ e => by cases e)
  unfold xo_ior
  rw [xI2_conc g1 g2, xF_eq]
  exact hKc _ _ _ _ g3
theorem yc_ixor (hKc : ∀ pc L S Wd, G pc L S Wd → Kc pc L S Wd cc cs [] = some []) (hK : yHK G sp γ K) (hs : ySt sp γ τ L S Wd LA SA env fs ca) (h : yo_i2 K (fun _ _ => none) pc LA SA env fs ca = true) : xo_ixor Kc a1 a2 pc L S Wd cc cs [] = some [] := by
  obtain ⟨y, x, r, rfl, g1, g2, g3⟩ := yt_i2 (f := fun x y => xN32 (nI x ^^^ nI y)) hK hs h (fun _ _ => ylt32 _) (fun X Y F x y τ e => by cases e)
  unfold xo_ixor
  rw [xI2_conc g1 g2, xF_eq]
  exact hKc _ _ _ _ g3
theorem yc_ishl (hKc : ∀ pc L S Wd, G pc L S Wd → Kc pc L S Wd cc cs [] = some []) (hK : yHK G sp γ K) (hs : ySt sp γ τ L S Wd LA SA env fs ca) (h : yo_i2 K (fun _ _ => none) pc LA SA env fs ca = true) : xo_ishl Kc a1 a2 pc L S Wd cc cs [] = some [] := by
  obtain ⟨y, x, r, rfl, g1, g2, g3⟩ := yt_i2 (f := fun x y => xN32 (nI x <<< (nI y &&& 31))) hK hs h (fun _ _ => ylt32 _) (fun X Y F x y τ e => by cases e)
  unfold xo_ishl
  rw [xI2_conc g1 g2, xF_eq]
  exact hKc _ _ _ _ g3
theorem yc_ishr (hKc : ∀ pc L S Wd, G pc L S Wd → Kc pc L S Wd cc cs [] = some []) (hK : yHK G sp γ K) (hs : ySt sp γ τ L S Wd LA SA env fs ca) (h : yo_i2 K (fun _ _ => none) pc LA SA env fs ca = true) : xo_ishr Kc a1 a2 pc L S Wd cc cs [] = some [] := by
  obtain ⟨y, x, r, rfl, g1, g2, g3⟩ := yt_i2 (f := fun x y => xN32 (nI x >>> (nI y &&& 31))) hK hs h (fun _ _ => ylt32 _) (fun X Y F x y τ e => by cases e)
  unfold xo_ishr
  rw [xI2_conc g1 g2, xF_eq]
  exact hKc _ _ _ _ g3
theorem yc_iushr (hKc : ∀ pc L S Wd, G pc L S Wd → Kc pc L S Wd cc cs [] = some []) (hK : yHK G sp γ K) (hs : ySt sp γ τ L S Wd LA SA env fs ca) (h : yo_i2 K (fun _ _ => none) pc LA SA env fs ca = true) : xo_iushr Kc a1 a2 pc L S Wd cc cs [] = some [] := by
  obtain ⟨y, x, r, rfl, g1, g2, g3⟩ := yt_i2 (f := fun x y => xN32 ((nI x).toUInt32 >>> ((nI y).toUInt32 &&& Int32.toUInt32 31)).toInt32) hK hs h (fun _ _ => ylt32 _) (fun X Y F x y τ e => by cases e)
  unfold xo_iushr
  rw [xI2_conc g1 g2, xF_eq]
  exact hKc _ _ _ _ g3
/-! two ints, an int within bounds -/
def yo_ir (K : yKt) (rg : xEv → List yF → yF → yF → Option (Int × Int)) (pc : Nat) (LA SA : List yA) (env : xEv) (fs : List yF) (ca : yCa) : Bool := match SA with
  | a :: b :: r => bif Nat.beq a.1 0 && Nat.beq b.1 0 then (match rg env fs b.2 a.2 with
    | none => false
    | some q => yFr LA SA env fs ca q.1 q.2 (fun F e' => K (pc + 1) LA ((0, F) :: r) e' fs ca)) else false
  | _ => false
theorem yt_ir {rg : xEv → List yF → yF → yF → Option (Int × Int)} {f : Nat → Nat → Nat} (hK : yHK G sp γ K) (hs : ySt sp γ τ L S Wd LA SA env fs ca) (h : yo_ir K rg pc LA SA env fs ca = true) (hf : ∀ x y, f x y < 4294967296) (hop : ∀ (X Y : yF) (q : Int × Int) (x y : Nat), rg env fs X Y = some q → xs32 x = yv τ X → xs32 y = yv τ Y → q.1 ≤ xs32 (f x y) ∧ xs32 (f x y) ≤ q.2) : ∃ y x r, S = y :: x :: r ∧ x % 8 = 0 ∧ y % 8 = 0 ∧ (∃ X Y q, rg env fs X Y = some q ∧ xs32 (x / 8) = yv τ X ∧ xs32 (y / 8) = yv τ Y) ∧ G (pc + 1) L (f (x / 8) (y / 8) * 8 :: r) Wd := by
  unfold yo_ir at h
  match SA, h, hs with
  | (ka, Y) :: (kb, X) :: r, h, hs =>
    dsimp only at h
    obtain ⟨hk, h⟩ := ybif h
    have hka : ka = 0 := xbeq (xand hk).1
    have hkb : kb = 0 := xbeq (xand hk).2
    subst hka
    subst hkb
    obtain ⟨y, t, rfl, h1, h2⟩ := yR_c (c := 0) hs.2.1
    obtain ⟨x, t, rfl, h3, h4⟩ := yR_c (c := 0) h2
    obtain ⟨gy, -, vy⟩ := yg_int h1
    obtain ⟨gx, -, vx⟩ := yg_int h3
    cases ho : rg env fs X Y with
    | none => rw [ho] at h; cases h
    | some q =>
      rw [ho] at h
      obtain ⟨b1, b2⟩ := hop X Y q (x / 8) (y / 8) ho vx vy
      obtain ⟨τ', F', e', f1, f2, f3⟩ := yFr_ok (z := xs32 (f (x / 8) (y / 8))) hs h b1 b2
      exact ⟨y, x, t, rfl, gx, gy, ⟨X, Y, q, ho, vx, vy⟩, hK _ _ _ _ _ _ f1 τ' L _ Wd ⟨f2.1, ⟨yg_mk32 (hf _ _) f3.symm, f2.2.1.2.2⟩, f2.2.2⟩⟩
def yRgAnd (env : xEv) (fs : List yF) (X Y : yF) : Option (Int × Int) := match Y.1 with
  | [] => if 0 ≤ Y.2 then some (0, Y.2) else some (-2147483648, 2147483647)
  | _ => some (-2147483648, 2147483647)
theorem yand32 (x y : Nat) (h : 0 ≤ xs32 y) : 0 ≤ xs32 (xN32 (nI x &&& nI y)) ∧ xs32 (xN32 (nI x &&& nI y)) ≤ xs32 y := by
  have e : xN32 (nI x &&& nI y) = (nI x).toBitVec.toNat &&& (nI y).toBitVec.toNat := by
    unfold xN32
    rw [Int32.toBitVec_and, BitVec.toNat_and]
  have hle := Nat.and_le_right (n := (nI x).toBitVec.toNat) (m := (nI y).toBitVec.toNat)
  rw [← e] at hle
  have hy : (nI y).toBitVec.toNat = xN32 (nI y) := rfl
  have hyy : xs32 (xN32 (nI y)) = xs32 y := by rw [yxs32, xs32_eq]
  have hb := ylt32 (nI y)
  rw [hy] at hle
  generalize xN32 (nI x &&& nI y) = u at hle ⊢
  generalize xN32 (nI y) = w at hle hyy hb
  rw [← hyy] at h ⊢
  unfold xs32 xb32 at *
  omega
theorem yc_iand (hKc : ∀ pc L S Wd, G pc L S Wd → Kc pc L S Wd cc cs [] = some []) (hK : yHK G sp γ K) (hs : ySt sp γ τ L S Wd LA SA env fs ca) (h : yo_ir K yRgAnd pc LA SA env fs ca = true) : xo_iand Kc a1 a2 pc L S Wd cc cs [] = some [] := by
  obtain ⟨y, x, r, rfl, g1, g2, -, g3⟩ := yt_ir (f := fun x y => xN32 (nI x &&& nI y)) hK hs h (fun _ _ => ylt32 _) (fun X Y q x y e hx hy => by
    unfold yRgAnd at e
    obtain ⟨ly, ky⟩ := Y
    match ly, e with
    | [], e =>
      dsimp only at e
      by_cases hk : 0 ≤ ky
      · rw [if_pos hk] at e
        cases e
        have hy' : xs32 y = ky := hy.trans (yK_eq τ ky)
        have := yand32 x y (by omega)
        rw [hy'] at this
        exact this
      · rw [if_neg hk] at e
        cases e
        exact yrng32 _
    | _ :: _, e => cases e; exact yrng32 _)
  unfold xo_iand
  dsimp only
  have hx4 : Nat.beq x 4 = false := by
    cases hb : Nat.beq x 4 with
    | false => rfl
    | true => exact absurd (xbeq hb) (fun q => by omega)
  rw [hx4, Bool.and_false, cond_false, xI2_conc g1 g2, xF_eq]
  exact hKc _ _ _ _ g3
/-! division by a number above 0 -/
def yRgRem (env : xEv) (fs : List yF) (X Y : yF) : Option (Int × Int) := match Y.1 with
  | [] => if 0 < Y.2 ∧ Y.2 ≤ 2147483647 then (bif yGe env fs X then some (0, Y.2 - 1) else some (-2147483648, 2147483647)) else none
  | _ => none
def yRgDiv (env : xEv) (fs : List yF) (X Y : yF) : Option (Int × Int) := match Y.1 with
  | [] => if 0 < Y.2 ∧ Y.2 ≤ 2147483647 then (bif yGe env fs X then some (0, 2147483647) else some (-2147483648, 2147483647)) else none
  | _ => none
theorem ypos {x : Nat} (h : 0 ≤ xs32 x) : ∃ j : Nat, j < 2147483648 ∧ nI x = nI j ∧ xs32 x = (j : Int) := by
  refine ⟨x % 4294967296, ?_, (xnI_mod x).symm, ?_⟩
  · unfold xs32 xb32 at h
    omega
  · unfold xs32 xb32 at *
    omega
theorem yxj {j : Nat} (h : j < 2147483648) : xs32 (xN32 (nI j)) = (j : Int) := by rw [yxs32, nI_toInt h]
theorem yc_irem (hKc : ∀ pc L S Wd, G pc L S Wd → Kc pc L S Wd cc cs [] = some []) (hK : yHK G sp γ K) (hs : ySt sp γ τ L S Wd LA SA env fs ca) (h : yo_ir K yRgRem pc LA SA env fs ca = true) : xo_irem Kc a1 a2 pc L S Wd cc cs [] = some [] := by
  obtain ⟨y, x, r, rfl, g1, g2, ⟨X, Y, q, e, vx, vy⟩, g3⟩ := yt_ir (f := fun x y => xN32 (nI x - nI x / nI y * nI y)) hK hs h (fun _ _ => ylt32 _) (fun X Y q x y e hx hy => by
    unfold yRgRem at e
    obtain ⟨ly, ky⟩ := Y
    match ly, e with
    | [], e =>
      dsimp only at e
      by_cases hk : 0 < ky ∧ ky ≤ 2147483647
      · rw [if_pos hk] at e
        cases hg : yGe env fs X with
        | true =>
          rw [hg, cond_true] at e
          cases e
          have hX := yGe_ok hs.2.2.2.1 hs.2.2.2.2.1 hg
          rw [← hx] at hX
          obtain ⟨j, j1, j2, j3⟩ := ypos hX
          have hy' : xs32 y = ky := hy.trans (yK_eq τ ky)
          obtain ⟨d, d1, d2, d3⟩ := ypos (x := y) (by omega)
          have hd0 : 0 < d := by omega
          show 0 ≤ xs32 (xN32 (nI x - nI x / nI y * nI y)) ∧ xs32 (xN32 (nI x - nI x / nI y * nI y)) ≤ ky - 1
          rw [j2, d2, pk_rem j1 hd0 d1]
          have hm := Nat.mod_lt j hd0
          rw [yxj (by omega)]
          omega
        | false =>
          rw [hg, cond_false] at e
          cases e
          exact yrng32 _
      · rw [if_neg hk] at e; cases e
    | _ :: _, e => cases e)
  have hy0 : Nat.beq (xGet (y :: x :: r) 0 / 8 % 4294967296) 0 = false := by
    unfold yRgRem at e
    obtain ⟨ly, ky⟩ := Y
    match ly, e with
    | [], e =>
      dsimp only at e
      by_cases hk : 0 < ky ∧ ky ≤ 2147483647
      · cases hb : Nat.beq (xGet (y :: x :: r) 0 / 8 % 4294967296) 0 with
        | false => rfl
        | true =>
          have h0 : y / 8 % 4294967296 = 0 := xbeq hb
          have hy' : xs32 (y / 8) = ky := vy.trans (yK_eq τ ky)
          unfold xs32 xb32 at hy'
          omega
      · rw [if_neg hk] at e; cases e
    | _ :: _, e => cases e
  unfold xo_irem
  rw [xI2_conc g1 g2, hy0, cond_false, xF_eq]
  exact hKc _ _ _ _ g3
theorem yc_idiv (hKc : ∀ pc L S Wd, G pc L S Wd → Kc pc L S Wd cc cs [] = some []) (hK : yHK G sp γ K) (hs : ySt sp γ τ L S Wd LA SA env fs ca) (h : yo_ir K yRgDiv pc LA SA env fs ca = true) : xo_idiv Kc a1 a2 pc L S Wd cc cs [] = some [] := by
  obtain ⟨y, x, r, rfl, g1, g2, ⟨X, Y, q, e, vx, vy⟩, g3⟩ := yt_ir (f := fun x y => xN32 (nI x / nI y)) hK hs h (fun _ _ => ylt32 _) (fun X Y q x y e hx hy => by
    unfold yRgDiv at e
    obtain ⟨ly, ky⟩ := Y
    match ly, e with
    | [], e =>
      dsimp only at e
      by_cases hk : 0 < ky ∧ ky ≤ 2147483647
      · rw [if_pos hk] at e
        cases hg : yGe env fs X with
        | true =>
          rw [hg, cond_true] at e
          cases e
          have hX := yGe_ok hs.2.2.2.1 hs.2.2.2.2.1 hg
          rw [← hx] at hX
          obtain ⟨j, j1, j2, j3⟩ := ypos hX
          have hy' : xs32 y = ky := hy.trans (yK_eq τ ky)
          obtain ⟨d, d1, d2, d3⟩ := ypos (x := y) (by omega)
          have hd0 : 0 < d := by omega
          show 0 ≤ xs32 (xN32 (nI x / nI y)) ∧ xs32 (xN32 (nI x / nI y)) ≤ 2147483647
          rw [j2, d2, pk_div j1 hd0 d1]
          have hm := Nat.div_le_self j d
          generalize j / d = w at hm ⊢
          rw [yxj (by omega)]
          omega
        | false =>
          rw [hg, cond_false] at e
          cases e
          exact yrng32 _
      · rw [if_neg hk] at e; cases e
    | _ :: _, e => cases e)
  have hy0 : Nat.beq (xGet (y :: x :: r) 0 / 8 % 4294967296) 0 = false := by
    unfold yRgDiv at e
    obtain ⟨ly, ky⟩ := Y
    match ly, e with
    | [], e =>
      dsimp only at e
      by_cases hk : 0 < ky ∧ ky ≤ 2147483647
      · cases hb : Nat.beq (xGet (y :: x :: r) 0 / 8 % 4294967296) 0 with
        | false => rfl
        | true =>
          have h0 : y / 8 % 4294967296 = 0 := xbeq hb
          have hy' : xs32 (y / 8) = ky := vy.trans (yK_eq τ ky)
          unfold xs32 xb32 at hy'
          omega
      · rw [if_neg hk] at e; cases e
    | _ :: _, e => cases e
  unfold xo_idiv
  rw [xI2_conc g1 g2, hy0, cond_false, xF_eq]
  exact hKc _ _ _ _ g3
/-! branches: conditions 0 lt, 1 eq, 2 gt, 3 ge, 4 ne, 5 le -/
def yAlts (op : Nat) (X Y : yF) : List (List yF × Bool) := match op with
  | 0 => [([ySub (ySub Y X) (yK 1)], true), ([ySub X Y], false)]
  | 1 => [([ySub X Y, ySub Y X], true), ([ySub (ySub X Y) (yK 1)], false), ([ySub (ySub Y X) (yK 1)], false)]
  | 2 => [([ySub (ySub X Y) (yK 1)], true), ([ySub Y X], false)]
  | 3 => [([ySub (ySub Y X) (yK 1)], false), ([ySub X Y], true)]
  | 4 => [([ySub X Y, ySub Y X], false), ([ySub (ySub X Y) (yK 1)], true), ([ySub (ySub Y X) (yK 1)], true)]
  | 5 => [([ySub (ySub X Y) (yK 1)], false), ([ySub Y X], true)]
  | _ => []
def yCmp (env : xEv) (fs : List yF) (op : Nat) (X Y : yF) (k : Bool → xEv → List yF → Bool) : Bool := Nat.blt op 6 && (yAlts op X Y).all (fun q => yTry env fs q.1 (k q.2))
theorem yCmp_ok {op sg : Nat} {X Y : yF} {k : Bool → xEv → List yF → Bool} (h : yCmp env fs op X Y k = true) (hE : yEO γ τ env) (hF : yFO τ fs) (hsg : xSgn (yv τ X) (yv τ Y) sg) : ∃ e' f', k (xHo op sg) e' f' = true ∧ yEO γ τ e' ∧ yFO τ f' := by
  obtain ⟨h6, h⟩ := xand h
  have go : ∀ (Gs : List yF) (v : Bool), (Gs, v) ∈ yAlts op X Y → yFO τ Gs → xHo op sg = v → ∃ e' f', k (xHo op sg) e' f' = true ∧ yEO γ τ e' ∧ yFO τ f' := by
    intro Gs v hm hG hv
    obtain ⟨e', f1, f2, f3⟩ := yTry_ok (List.all_eq_true.mp h _ hm) hE hF hG
    exact ⟨e', _, by rw [hv]; exact f1, f2, f3⟩
  have one : ∀ F : yF, 0 ≤ yv τ F → yFO τ [F] := fun F hf G hG => by
    rcases List.mem_cons.mp hG with rfl | hG
    · exact hf
    · cases hG
  have two : ∀ F F2 : yF, 0 ≤ yv τ F → 0 ≤ yv τ F2 → yFO τ [F, F2] := fun F F2 hf hf2 G hG => by
    rcases List.mem_cons.mp hG with rfl | hG
    · exact hf
    · exact one F2 hf2 G hG
  have hXY : yv τ (ySub X Y) = yv τ X - yv τ Y := ySub_eq τ X Y
  have hYX : yv τ (ySub Y X) = yv τ Y - yv τ X := ySub_eq τ Y X
  have hXY1 : yv τ (ySub (ySub X Y) (yK 1)) = yv τ X - yv τ Y - 1 := by rw [ySub_eq, ySub_eq, yK_eq]
  have hYX1 : yv τ (ySub (ySub Y X) (yK 1)) = yv τ Y - yv τ X - 1 := by rw [ySub_eq, ySub_eq, yK_eq]
  have h6 := xblt h6
  match op, h6, go with
  | 0, _, go => rcases hsg with ⟨rfl, q⟩ | ⟨rfl, q⟩ | ⟨rfl, q⟩
                · exact go _ _ List.mem_cons_self (one _ (by rw [hYX1]; omega)) rfl
                · exact go _ _ (List.mem_cons_of_mem _ List.mem_cons_self) (one _ (by rw [hXY]; omega)) rfl
                · exact go _ _ (List.mem_cons_of_mem _ List.mem_cons_self) (one _ (by rw [hXY]; omega)) rfl
  | 1, _, go => rcases hsg with ⟨rfl, q⟩ | ⟨rfl, q⟩ | ⟨rfl, q⟩
                · exact go _ _ (List.mem_cons_of_mem _ (List.mem_cons_of_mem _ List.mem_cons_self)) (one _ (by rw [hYX1]; omega)) rfl
                · exact go _ _ List.mem_cons_self (two _ _ (by rw [hXY]; omega) (by rw [hYX]; omega)) rfl
                · exact go _ _ (List.mem_cons_of_mem _ List.mem_cons_self) (one _ (by rw [hXY1]; omega)) rfl
  | 2, _, go => rcases hsg with ⟨rfl, q⟩ | ⟨rfl, q⟩ | ⟨rfl, q⟩
                · exact go _ _ (List.mem_cons_of_mem _ List.mem_cons_self) (one _ (by rw [hYX]; omega)) rfl
                · exact go _ _ (List.mem_cons_of_mem _ List.mem_cons_self) (one _ (by rw [hYX]; omega)) rfl
                · exact go _ _ List.mem_cons_self (one _ (by rw [hXY1]; omega)) rfl
  | 3, _, go => rcases hsg with ⟨rfl, q⟩ | ⟨rfl, q⟩ | ⟨rfl, q⟩
                · exact go _ _ List.mem_cons_self (one _ (by rw [hYX1]; omega)) rfl
                · exact go _ _ (List.mem_cons_of_mem _ List.mem_cons_self) (one _ (by rw [hXY]; omega)) rfl
                · exact go _ _ (List.mem_cons_of_mem _ List.mem_cons_self) (one _ (by rw [hXY]; omega)) rfl
  | 4, _, go => rcases hsg with ⟨rfl, q⟩ | ⟨rfl, q⟩ | ⟨rfl, q⟩
                · exact go _ _ (List.mem_cons_of_mem _ (List.mem_cons_of_mem _ List.mem_cons_self)) (one _ (by rw [hYX1]; omega)) rfl
                · exact go _ _ List.mem_cons_self (two _ _ (by rw [hXY]; omega) (by rw [hYX]; omega)) rfl
                · exact go _ _ (List.mem_cons_of_mem _ List.mem_cons_self) (one _ (by rw [hXY1]; omega)) rfl
  | 5, _, go => rcases hsg with ⟨rfl, q⟩ | ⟨rfl, q⟩ | ⟨rfl, q⟩
                · exact go _ _ (List.mem_cons_of_mem _ List.mem_cons_self) (one _ (by rw [hYX]; omega)) rfl
                · exact go _ _ (List.mem_cons_of_mem _ List.mem_cons_self) (one _ (by rw [hYX]; omega)) rfl
                · exact go _ _ List.mem_cons_self (one _ (by rw [hXY1]; omega)) rfl
  | n + 6, h6, _ => omega
def yo_if (K : yKt) (a1 a2 : Nat) (pc : Nat) (LA SA : List yA) (env : xEv) (fs : List yF) (ca : yCa) : Bool := match SA with
  | a :: r => bif Nat.beq a.1 0 then yCmp env fs a2 a.2 (yK 0) (fun v e' f' => K (bif v then a1 else pc + 3) LA r e' f' ca) else false
  | [] => false
theorem yc_ifC (hKc : ∀ pc L S Wd, G pc L S Wd → Kc pc L S Wd cc cs [] = some []) (hK : yHK G sp γ K) (hs : ySt sp γ τ L S Wd LA SA env fs ca) (h : yo_if K a1 a2 pc LA SA env fs ca = true) : xo_ifC Kc a1 a2 pc L S Wd cc cs [] = some [] := by
  unfold yo_if at h
  match SA, h, hs with
  | (ka, X) :: r, h, hs =>
    dsimp only at h
    obtain ⟨hk, hN⟩ := ybif h
    have hk : ka = 0 := xbeq hk
    subst hk
    obtain ⟨x, t, rfl, h1, h2⟩ := yR_c (c := 0) hs.2.1
    obtain ⟨gx, -, vx⟩ := yg_int h1
    have hsg : xSgn (yv τ X) (yv τ (yK 0)) (xSg (xb32 (x / 8)) 2147483648) := by
      have := xSg_32 (x / 8) 0
      rw [xs32_eq, xs32_eq, vx] at this
      rw [yK_eq]
      exact this
    obtain ⟨e', f', k1, k2, k3⟩ := yCmp_ok hN hs.2.2.2.1 hs.2.2.2.2.1 hsg
    have hG := hK _ _ _ _ _ _ k1 τ L t Wd ⟨hs.1, h2, hs.2.2.1, k2, k3, hs.2.2.2.2.2⟩
    unfold xo_ifC
    dsimp only
    rw [gx, show Nat.beq 0 0 = true from rfl, cond_true]
    cases hh : xHo a2 (xSg (xb32 (x / 8)) 2147483648) with
    | true =>
      rw [hh, cond_true] at hG
      exact hKc _ _ _ _ hG
    | false =>
      rw [hh, cond_false] at hG
      rw [cond_false, xF_eq]
      exact hKc _ _ _ _ hG
  | [], h, _ => cases h
def yo_icmp (K : yKt) (a1 a2 : Nat) (pc : Nat) (LA SA : List yA) (env : xEv) (fs : List yF) (ca : yCa) : Bool := match SA with
  | a :: b :: r => bif Nat.beq a.1 0 && Nat.beq b.1 0 then yCmp env fs a2 b.2 a.2 (fun v e' f' => K (bif v then a1 else pc + 3) LA r e' f' ca) else false
  | _ => false
theorem yc_icmp (hKc : ∀ pc L S Wd, G pc L S Wd → Kc pc L S Wd cc cs [] = some []) (hK : yHK G sp γ K) (hs : ySt sp γ τ L S Wd LA SA env fs ca) (h : yo_icmp K a1 a2 pc LA SA env fs ca = true) : xo_icmp Kc a1 a2 pc L S Wd cc cs [] = some [] := by
  unfold yo_icmp at h
  match SA, h, hs with
  | (ka, Y) :: (kb, X) :: r, h, hs =>
    dsimp only at h
    obtain ⟨hk, hN⟩ := ybif h
    have hka : ka = 0 := xbeq (xand hk).1
    have hkb : kb = 0 := xbeq (xand hk).2
    subst hka
    subst hkb
    obtain ⟨y, t, rfl, h1, h2⟩ := yR_c (c := 0) hs.2.1
    obtain ⟨x, t, rfl, h3, h4⟩ := yR_c (c := 0) h2
    obtain ⟨gy, -, vy⟩ := yg_int h1
    obtain ⟨gx, -, vx⟩ := yg_int h3
    have hsg : xSgn (yv τ X) (yv τ Y) (xSg (xb32 (x / 8)) (xb32 (y / 8))) := by
      have := xSg_32 (x / 8) (y / 8)
      rw [xs32_eq, xs32_eq, vx, vy] at this
      exact this
    obtain ⟨e', f', k1, k2, k3⟩ := yCmp_ok hN hs.2.2.2.1 hs.2.2.2.2.1 hsg
    have hG := hK _ _ _ _ _ _ k1 τ L t Wd ⟨hs.1, h4, hs.2.2.1, k2, k3, hs.2.2.2.2.2⟩
    unfold xo_icmp
    dsimp only
    rw [gx, gy, show (Nat.beq 0 0 && Nat.beq 0 0) = true from rfl, cond_true]
    cases hh : xHo a2 (xSg (xb32 (x / 8)) (xb32 (y / 8))) with
    | true =>
      rw [hh, cond_true] at hG
      exact hKc _ _ _ _ hG
    | false =>
      rw [hh, cond_false] at hG
      rw [cond_false, xF_eq]
      exact hKc _ _ _ _ hG
  | [], h, _ => cases h
  | [_], h, _ => cases h
theorem yc_goto (hKc : ∀ pc L S Wd, G pc L S Wd → Kc pc L S Wd cc cs [] = some []) (hK : yHK G sp γ K) (hs : ySt sp γ τ L S Wd LA SA env fs ca) (h : K a1 LA SA env fs ca = true) : xo_goto Kc a1 a2 pc L S Wd cc cs [] = some [] := hKc _ _ _ _ (hK _ _ _ _ _ _ h τ L S Wd hs)
end YBR
