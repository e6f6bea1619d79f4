section YLO
variable {G : Nat → List Nat → List Nat → List Nat → Prop} {sp : List yCell} {K : yKt} {Kc : xKt} {cc cs : Nat}
variable {γ : yLk} {τ : Nat → Int} {L S Wd : List Nat} {LA SA : List yA} {env : xEv} {fs : List yF} {ca : yCa} {a1 a2 pc : Nat}
theorem xL2_conc {x y : Nat} {r : List Nat} {f : Nat → Nat → Nat} {k : List Nat → xRes} (h1 : x % 8 = 1) (h2 : y % 8 = 1) : xL2 (y :: x :: r) f k = k ((f (x / 8) (y / 8) * 8 + 1) :: r) := by
  unfold xL2
  dsimp only
  rw [h1, h2, show (Nat.beq 1 1 && Nat.beq 1 1) = true from rfl, cond_true, xF_eq]
theorem xLI_conc {x y : Nat} {r : List Nat} {f : Nat → Nat → Nat} {k : List Nat → xRes} (h1 : x % 8 = 1) (h2 : y % 8 = 0) : xLI (y :: x :: r) f k = k ((f (x / 8) (y / 8) * 8 + 1) :: r) := by
  unfold xLI
  dsimp only
  rw [h1, h2, show (Nat.beq 1 1 && Nat.beq 0 0) = true from rfl, cond_true, xF_eq]
/-- two longs (ky 1), a long and an int (ky 0), a long out of a form of theirs -/
def yo_l2 (K : yKt) (ky : Nat) (op : yF → yF → Option yF) (pc : Nat) (LA SA : List yA) (env : xEv) (fs : List yF) (ca : yCa) : Bool := match SA with
  | a :: b :: r => bif Nat.beq a.1 ky && Nat.beq b.1 1 then (match op b.2 a.2 with
    | none => yFr LA SA env fs ca (-9223372036854775808) 9223372036854775807 (fun F e' => K (pc + 1) LA ((1, F) :: r) e' fs ca)
    | some F => yI64 LA SA env fs ca F (fun F e' => K (pc + 1) LA ((1, F) :: r) e' fs ca)) else false
  | _ => false
theorem yt_l2 {op : yF → yF → Option yF} {f : Nat → Nat → Nat} (hK : yHK G sp γ K) (hs : ySt sp γ τ L S Wd LA SA env fs ca) (h : yo_l2 K 1 op pc LA SA env fs ca = true) (hf : ∀ x y, f x y < 18446744073709551616) (hop : ∀ (X Y F : yF) (x y : Nat) (τ : Nat → Int), op X Y = some F → xs64 x = yv τ X → xs64 y = yv τ Y → -9223372036854775808 ≤ yv τ F → yv τ F ≤ 9223372036854775807 → xs64 (f x y) = yv τ F) : ∃ y x r, S = y :: x :: r ∧ x % 8 = 1 ∧ y % 8 = 1 ∧ G (pc + 1) L ((f (x / 8) (y / 8) * 8 + 1) :: r) Wd := by
  unfold yo_l2 at h
  match SA, h, hs with
  | (ka, Y) :: (kb, X) :: r, h, hs =>
    dsimp only at h
    obtain ⟨hk, hN⟩ := ybif h
    have hka : ka = 1 := xbeq (xand hk).1
    have hkb : kb = 1 := xbeq (xand hk).2
    subst hka
    subst hkb
    obtain ⟨y, t, rfl, h1, h2⟩ := yR_c (c := 0) hs.2.1
    obtain ⟨x, t, rfl, h3, h4⟩ := yR_c (c := 0) h2
    obtain ⟨gy, -, vy⟩ := yg_lon h1
    obtain ⟨gx, -, vx⟩ := yg_lon h3
    refine ⟨y, x, t, rfl, gx, gy, ?_⟩
    have fin : ∀ {τ' : Nat → Int} {F' : yF} {e' : xEv}, K (pc + 1) LA ((1, F') :: r) e' fs ca = true → ySt sp γ τ' L (y :: x :: t) Wd LA ((1, Y) :: (1, X) :: r) e' fs ca → yv τ' F' = xs64 (f (x / 8) (y / 8)) → G (pc + 1) L ((f (x / 8) (y / 8) * 8 + 1) :: t) Wd := by
      intro τ' F' e' f1 f2 f3
      exact hK _ _ _ _ _ _ f1 τ' L _ Wd ⟨f2.1, ⟨yg_mk64 (hf _ _) f3.symm, f2.2.1.2.2⟩, f2.2.2⟩
    cases ho : op X Y with
    | none =>
      rw [ho] at hN
      obtain ⟨τ', F', e', f1, f2, f3⟩ := yFr_ok (z := xs64 (f (x / 8) (y / 8))) hs hN (yrng64 _).1 (yrng64 _).2
      exact fin f1 f2 f3
    | some F =>
      rw [ho] at hN
      obtain ⟨τ', F', e', f1, f2, f3⟩ := yI64_ok (z := xs64 (f (x / 8) (y / 8))) hs hN (yrng64 _).1 (yrng64 _).2 (fun q1 q2 => hop X Y F _ _ τ ho vx vy q1 q2)
      exact fin f1 f2 f3
theorem yt_li {f : Nat → Nat → Nat} (hK : yHK G sp γ K) (hs : ySt sp γ τ L S Wd LA SA env fs ca) (h : yo_l2 K 0 (fun _ _ => none) pc LA SA env fs ca = true) (hf : ∀ x y, f x y < 18446744073709551616) : ∃ y x r, S = y :: x :: r ∧ x % 8 = 1 ∧ y % 8 = 0 ∧ G (pc + 1) L ((f (x / 8) (y / 8) * 8 + 1) :: r) Wd := by
  unfold yo_l2 at h
  match SA, h, hs with
  | (ka, Y) :: (kb, X) :: r, h, hs =>
    dsimp only at h
    obtain ⟨hk, hN⟩ := ybif h
    have hka : ka = 0 := xbeq (xand hk).1
    have hkb : kb = 1 := xbeq (xand hk).2
    subst hka
    subst hkb
    obtain ⟨y, t, rfl, h1, h2⟩ := yR_c (c := 0) hs.2.1
    obtain ⟨x, t, rfl, h3, h4⟩ := yR_c (c := 0) h2
    obtain ⟨gy, -, vy⟩ := yg_int h1
    obtain ⟨gx, -, vx⟩ := yg_lon h3
    obtain ⟨τ', F', e', f1, f2, f3⟩ := yFr_ok (z := xs64 (f (x / 8) (y / 8))) hs hN (yrng64 _).1 (yrng64 _).2
    exact ⟨y, x, t, rfl, gx, gy, hK _ _ _ _ _ _ f1 τ' L _ Wd ⟨f2.1, ⟨yg_mk64 (hf _ _) f3.symm, f2.2.1.2.2⟩, f2.2.2⟩⟩
theorem yc_ladd (hKc : ∀ pc L S Wd, G pc L S Wd → Kc pc L S Wd cc cs [] = some []) (hK : yHK G sp γ K) (hs : ySt sp γ τ L S Wd LA SA env fs ca) (h : yo_l2 K 1 (fun X Y => some (yAdd X Y)) pc LA SA env fs ca = true) : xo_ladd Kc a1 a2 pc L S Wd cc cs [] = some [] := by
  obtain ⟨y, x, r, rfl, g1, g2, g3⟩ := yt_l2 (f := fun x y => (x + y) % 18446744073709551616) hK hs h (fun _ _ => Nat.mod_lt _ (by decide)) (fun X Y F x y τ e hx hy q1 q2 => by
    cases e
    rw [yAdd_eq, ← hx, ← hy] at q1 q2 ⊢
    exact yadd64 q1 q2)
  unfold xo_ladd
  dsimp only
  have hx4 : Nat.beq x 21 = false := by
    cases hb : Nat.beq x 21 with
    | false => rfl
    | true => exact absurd (xbeq hb) (fun q => by omega)
  rw [hx4, Bool.and_false, cond_false, xL2_conc g1 g2, xF_eq]
  exact hKc _ _ _ _ g3
theorem yc_lsub (hKc : ∀ pc L S Wd, G pc L S Wd → Kc pc L S Wd cc cs [] = some []) (hK : yHK G sp γ K) (hs : ySt sp γ τ L S Wd LA SA env fs ca) (h : yo_l2 K 1 (fun X Y => some (ySub X Y)) pc LA SA env fs ca = true) : xo_lsub Kc a1 a2 pc L S Wd cc cs [] = some [] := by
  obtain ⟨y, x, r, rfl, g1, g2, g3⟩ := yt_l2 (f := fun x y => xN64 (lN x - lN y)) hK hs h (fun _ _ => ylt64 _) (fun X Y F x y τ e hx hy q1 q2 => by
    cases e
    rw [ySub_eq, ← hx, ← hy] at q1 q2 ⊢
    exact ysub64 q1 q2)
  unfold xo_lsub
  rw [xL2_conc g1 g2, xF_eq]
  exact hKc _ _ _ _ g3
theorem yc_lmul (hKc : ∀ pc L S Wd, G pc L S Wd → Kc pc L S Wd cc cs [] = some []) (hK : yHK G sp γ K) (hs : ySt sp γ τ L S Wd LA SA env fs ca) (h : yo_l2 K 1 yMul pc LA SA env fs ca = true) : xo_lmul Kc a1 a2 pc L S Wd cc cs [] = some [] := by
  obtain ⟨y, x, r, rfl, g1, g2, g3⟩ := yt_l2 (f := fun x y => (x * y) % 18446744073709551616) hK hs h (fun _ _ => Nat.mod_lt _ (by decide)) (fun X Y F x y τ e hx hy q1 q2 => by
    rw [yMul_eq e, ← hx, ← hy] at q1 q2 ⊢
    exact ymul64 q1 q2)
  unfold xo_lmul
  rw [xL2_conc g1 g2, xF_eq]
  exact hKc _ _ _ _ g3
theorem yc_land (hKc : ∀ pc L S Wd, G pc L S Wd → Kc pc L S Wd cc cs [] = some []) (hK : yHK G sp γ K) (hs : ySt sp γ τ L S Wd LA SA env fs ca) (h : yo_l2 K 1 (fun _ _ => none) pc LA SA env fs ca = true) : xo_land Kc a1 a2 pc L S Wd cc cs [] = some [] := by
  obtain ⟨y, x, r, rfl, g1, g2, g3⟩ := yt_l2 (f := fun x y => xN64 (lN x &&& lN y)) hK hs h (fun _ _ => ylt64 _) (fun X Y F x y τ e => by cases e)
  unfold xo_land
  rw [xL2_conc g1 g2, xF_eq]
  exact hKc _ _ _ _ g3
theorem yc_lor (hKc : ∀ pc L S Wd, G pc L S Wd → Kc pc L S Wd cc cs [] = some []) (hK : yHK G sp γ K) (hs : ySt sp γ τ L S Wd LA SA env fs ca) (h : yo_l2 K 1 (fun _ _ => none) pc LA SA env fs ca = true) : xo_lor Kc a1 a2 pc L S Wd cc cs [] = some [] := by
  obtain ⟨y, x, r, rfl, g1, g2, g3⟩ := yt_l2 (f := fun x y => xN64 (lN x ||| lN y)) hK hs h (fun _ _ => ylt64 _) (fun X Y F x y τ e => by cases e)
  unfold xo_lor
  rw [xL2_conc g1 g2, xF_eq]
  exact hKc _ _ _ _ g3
theorem yc_lxor (hKc : ∀ pc L S Wd, G pc L S Wd → Kc pc L S Wd cc cs [] = some []) (hK : yHK G sp γ K) (hs : ySt sp γ τ L S Wd LA SA env fs ca) (h : yo_l2 K 1 (fun _ _ => none) pc LA SA env fs ca = true) : xo_lxor Kc a1 a2 pc L S Wd cc cs [] = some [] := by
  obtain ⟨y, x, r, rfl, g1, g2, g3⟩ := yt_l2 (f := fun x y => xN64 (lN x ^^^ lN y)) hK hs h (fun _ _ => ylt64 _) (fun X Y F x y τ e => by cases e)
  unfold xo_lxor
  rw [xL2_conc g1 g2, xF_eq]
  exact hKc _ _ _ _ g3
theorem yc_lshl (hKc : ∀ pc L S Wd, G pc L S Wd → Kc pc L S Wd cc cs [] = some []) (hK : yHK G sp γ K) (hs : ySt sp γ τ L S Wd LA SA env fs ca) (h : yo_l2 K 0 (fun _ _ => none) pc LA SA env fs ca = true) : xo_lshl Kc a1 a2 pc L S Wd cc cs [] = some [] := by
  obtain ⟨y, x, r, rfl, g1, g2, g3⟩ := yt_li (f := fun x y => xN64 (lN x <<< ((nI y).toInt64 &&& 63))) hK hs h (fun _ _ => ylt64 _)
  unfold xo_lshl
  rw [xLI_conc g1 g2, xF_eq]
  exact hKc _ _ _ _ g3
theorem yc_lshr (hKc : ∀ pc L S Wd, G pc L S Wd → Kc pc L S Wd cc cs [] = some []) (hK : yHK G sp γ K) (hs : ySt sp γ τ L S Wd LA SA env fs ca) (h : yo_l2 K 0 (fun _ _ => none) pc LA SA env fs ca = true) : xo_lshr Kc a1 a2 pc L S Wd cc cs [] = some [] := by
  obtain ⟨y, x, r, rfl, g1, g2, g3⟩ := yt_li (f := fun x y => xN64 (lN x >>> ((nI y).toInt64 &&& 63))) hK hs h (fun _ _ => ylt64 _)
  unfold xo_lshr
  rw [xLI_conc g1 g2, xF_eq]
  exact hKc _ _ _ _ g3
theorem yc_lushr (hKc : ∀ pc L S Wd, G pc L S Wd → Kc pc L S Wd cc cs [] = some []) (hK : yHK G sp γ K) (hs : ySt sp γ τ L S Wd LA SA env fs ca) (h : yo_l2 K 0 (fun _ _ => none) pc LA SA env fs ca = true) : xo_lushr Kc a1 a2 pc L S Wd cc cs [] = some [] := by
  obtain ⟨y, x, r, rfl, g1, g2, g3⟩ := yt_li (f := fun x y => xN64 ((lN x).toUInt64 >>> ((nI y).toInt64.toUInt64 &&& Int64.toUInt64 63)).toInt64) hK hs h (fun _ _ => ylt64 _)
  unfold xo_lushr
  rw [xLI_conc g1 g2, xF_eq]
  exact hKc _ _ _ _ g3
/-! conversions, signs -/
def yo_i2l (K : yKt) (pc : Nat) (LA SA : List yA) (env : xEv) (fs : List yF) (ca : yCa) : Bool := match SA with
  | a :: r => bif Nat.beq a.1 0 then K (pc + 1) LA ((1, a.2) :: r) env fs ca else false
  | [] => false
theorem yc_i2l (hKc : ∀ pc L S Wd, G pc L S Wd → Kc pc L S Wd cc cs [] = some []) (hK : yHK G sp γ K) (hs : ySt sp γ τ L S Wd LA SA env fs ca) (h : yo_i2l K pc LA SA env fs ca = true) : xo_i2l Kc a1 a2 pc L S Wd cc cs [] = some [] := by
  unfold yo_i2l at h
  match SA, h, hs with
  | (ka, X) :: r, h, hs =>
    dsimp only at h
    obtain ⟨hk, hN⟩ := ybif h
    have hk : ka = 0 := xbeq hk
    subst hk
    obtain ⟨x, t, rfl, h1, h2⟩ := yR_c (c := 0) hs.2.1
    obtain ⟨gx, -, vx⟩ := yg_int h1
    have hG := hK _ _ _ _ _ _ hN τ L ((xN64 (nI (x / 8)).toInt64 * 8 + 1) :: t) Wd ⟨hs.1, ⟨yg_mk64 (ylt64 _) (by rw [yxs64, xi64, xs32_eq]; exact vx), h2⟩, hs.2.2⟩
    unfold xo_i2l
    dsimp only
    rw [gx, show Nat.beq 0 0 = true from rfl, cond_true, xF_eq, xF_eq]
    exact hKc _ _ _ _ hG
  | [], h, _ => cases h
def yo_l2i (K : yKt) (pc : Nat) (LA SA : List yA) (env : xEv) (fs : List yF) (ca : yCa) : Bool := match SA with
  | a :: r => bif Nat.beq a.1 1 then yI32 LA SA env fs ca a.2 (fun F e' => K (pc + 1) LA ((0, F) :: r) e' fs ca) else false
  | [] => false
theorem yc_l2i (hKc : ∀ pc L S Wd, G pc L S Wd → Kc pc L S Wd cc cs [] = some []) (hK : yHK G sp γ K) (hs : ySt sp γ τ L S Wd LA SA env fs ca) (h : yo_l2i K pc LA SA env fs ca = true) : xo_l2i Kc a1 a2 pc L S Wd cc cs [] = some [] := by
  unfold yo_l2i at h
  match SA, h, hs with
  | (ka, X) :: r, h, hs =>
    dsimp only at h
    obtain ⟨hk, hN⟩ := ybif h
    have hk : ka = 1 := xbeq hk
    subst hk
    obtain ⟨x, t, rfl, h1, h2⟩ := yR_c (c := 0) hs.2.1
    obtain ⟨gx, -, vx⟩ := yg_lon h1
    obtain ⟨τ', F', e', f1, f2, f3⟩ := yI32_ok (z := xs32 (xN32 (lN (x / 8)).toInt32)) hs hN (yrng32 _).1 (yrng32 _).2 (fun q1 q2 => by
      rw [yxs32, Int64.toInt_toInt32, xs64_eq, vx]
      exact ybm q1 q2)
    have hG := hK _ _ _ _ _ _ f1 τ' L ((xN32 (lN (x / 8)).toInt32 * 8) :: t) Wd ⟨f2.1, ⟨yg_mk32 (ylt32 _) f3.symm, f2.2.1.2⟩, f2.2.2⟩
    unfold xo_l2i
    dsimp only
    rw [gx, show Nat.beq 1 1 = true from rfl, cond_true, xF_eq, xF_eq]
    exact hKc _ _ _ _ hG
  | [], h, _ => cases h
def yo_ineg (K : yKt) (pc : Nat) (LA SA : List yA) (env : xEv) (fs : List yF) (ca : yCa) : Bool := match SA with
  | a :: r => bif Nat.beq a.1 0 then yI32 LA SA env fs ca (yScl (-1) a.2) (fun F e' => K (pc + 1) LA ((0, F) :: r) e' fs ca) else false
  | [] => false
theorem yc_ineg (hKc : ∀ pc L S Wd, G pc L S Wd → Kc pc L S Wd cc cs [] = some []) (hK : yHK G sp γ K) (hs : ySt sp γ τ L S Wd LA SA env fs ca) (h : yo_ineg K pc LA SA env fs ca = true) : xo_ineg Kc a1 a2 pc L S Wd cc cs [] = some [] := by
  unfold yo_ineg at h
  match SA, h, hs with
  | (ka, X) :: r, h, hs =>
    dsimp only at h
    obtain ⟨hk, hN⟩ := ybif h
    have hk : ka = 0 := xbeq hk
    subst hk
    obtain ⟨x, t, rfl, h1, h2⟩ := yR_c (c := 0) hs.2.1
    obtain ⟨gx, -, vx⟩ := yg_int h1
    obtain ⟨τ', F', e', f1, f2, f3⟩ := yI32_ok (z := xs32 (xN32 (-(nI (x / 8))))) hs hN (yrng32 _).1 (yrng32 _).2 (fun q1 q2 => by
      rw [yScl_eq, ← vx] at q1 q2 ⊢
      rw [yxs32, Int32.toInt_neg, xs32_eq, show (-1 : Int) * xs32 (x / 8) = -xs32 (x / 8) by omega]
      exact ybm (by omega) (by omega))
    have hG := hK _ _ _ _ _ _ f1 τ' L ((xN32 (-(nI (x / 8))) * 8) :: t) Wd ⟨f2.1, ⟨yg_mk32 (ylt32 _) f3.symm, f2.2.1.2⟩, f2.2.2⟩
    unfold xo_ineg
    dsimp only
    rw [gx, show Nat.beq 0 0 = true from rfl, cond_true, xF_eq, xF_eq]
    exact hKc _ _ _ _ hG
  | [], h, _ => cases h
def yo_lcmp (K : yKt) (pc : Nat) (LA SA : List yA) (env : xEv) (fs : List yF) (ca : yCa) : Bool := match SA with
  | a :: b :: r => bif Nat.beq a.1 1 && Nat.beq b.1 1 then yTry env fs [ySub (ySub a.2 b.2) (yK 1)] (fun e' f' => K (pc + 1) LA ((0, yK (-1)) :: r) e' f' ca) && (yTry env fs [ySub b.2 a.2, ySub a.2 b.2] (fun e' f' => K (pc + 1) LA ((0, yK 0) :: r) e' f' ca) && yTry env fs [ySub (ySub b.2 a.2) (yK 1)] (fun e' f' => K (pc + 1) LA ((0, yK 1) :: r) e' f' ca)) else false
  | _ => false
theorem yc_lcmp (hKc : ∀ pc L S Wd, G pc L S Wd → Kc pc L S Wd cc cs [] = some []) (hK : yHK G sp γ K) (hs : ySt sp γ τ L S Wd LA SA env fs ca) (h : yo_lcmp K pc LA SA env fs ca = true) : xo_lcmp Kc a1 a2 pc L S Wd cc cs [] = some [] := by
  unfold yo_lcmp at h
  match SA, h, hs with
  | (ka, Y) :: (kb, X) :: r, h, hs =>
    dsimp only at h
    obtain ⟨hk, hN⟩ := ybif h
    have hka : ka = 1 := xbeq (xand hk).1
    have hkb : kb = 1 := xbeq (xand hk).2
    subst hka
    subst hkb
    obtain ⟨n1, n2⟩ := xand hN
    obtain ⟨n2, n3⟩ := xand n2
    obtain ⟨y, t, rfl, h1, h2⟩ := yR_c (c := 0) hs.2.1
    obtain ⟨x, t, rfl, h3, h4⟩ := yR_c (c := 0) h2
    obtain ⟨gy, -, vy⟩ := yg_lon h1
    obtain ⟨gx, -, vx⟩ := yg_lon h3
    have hsg := xSg_64 (x / 8) (y / 8)
    rw [xs64_eq, xs64_eq, vx, vy] at hsg
    have one : ∀ F : yF, 0 ≤ yv τ F → yFO τ [F] := fun F hf G hG => by
      rcases List.mem_cons.mp hG with rfl | hG
      · exact hf
      · cases hG
    have two : ∀ F F2 : yF, 0 ≤ yv τ F → 0 ≤ yv τ F2 → yFO τ [F, F2] := fun F F2 hf hf2 G hG => by
      rcases List.mem_cons.mp hG with rfl | hG
      · exact hf
      · exact one F2 hf2 G hG
    have key : G (pc + 1) L (xCmpC (xSg (xb64 (x / 8)) (xb64 (y / 8))) :: t) Wd := by
      rcases hsg with ⟨q1, q2⟩ | ⟨q1, q2⟩ | ⟨q1, q2⟩
      · obtain ⟨e', f1, f2, f3⟩ := yTry_ok n1 hs.2.2.2.1 hs.2.2.2.2.1 (one _ (by rw [ySub_eq, ySub_eq, yK_eq]; omega))
        rw [q1]
        exact hK _ _ _ _ _ _ f1 τ L _ Wd ⟨hs.1, ⟨⟨rfl, by decide, by rw [yK_eq]; decide⟩, h4⟩, hs.2.2.1, f2, f3, hs.2.2.2.2.2⟩
      · obtain ⟨e', f1, f2, f3⟩ := yTry_ok n2 hs.2.2.2.1 hs.2.2.2.2.1 (two _ _ (by rw [ySub_eq]; omega) (by rw [ySub_eq]; omega))
        rw [q1]
        exact hK _ _ _ _ _ _ f1 τ L _ Wd ⟨hs.1, ⟨⟨rfl, by decide, by rw [yK_eq]; decide⟩, h4⟩, hs.2.2.1, f2, f3, hs.2.2.2.2.2⟩
      · obtain ⟨e', f1, f2, f3⟩ := yTry_ok n3 hs.2.2.2.1 hs.2.2.2.2.1 (one _ (by rw [ySub_eq, ySub_eq, yK_eq]; omega))
        rw [q1]
        exact hK _ _ _ _ _ _ f1 τ L _ Wd ⟨hs.1, ⟨⟨rfl, by decide, by rw [yK_eq]; decide⟩, h4⟩, hs.2.2.1, f2, f3, hs.2.2.2.2.2⟩
    unfold xCmpC at key
    unfold xo_lcmp
    dsimp only
    rw [gx, gy, show (Nat.beq 1 1 && Nat.beq 1 1) = true from rfl, cond_true, xF_eq, xF_eq]
    exact hKc _ _ _ _ key
  | [], h, _ => cases h
  | [_], h, _ => cases h
/-! the stack -/
def yCat (a : yA) : Nat := bif Nat.beq a.1 1 then 2 else bif Nat.beq a.1 0 || (Nat.beq a.1 2 || (Nat.beq a.1 3 || Nat.beq a.1 6)) then 1 else 0
theorem yCat_ok {v : Nat} {a : yA} (h : yg τ v a) : (yCat a = 1 → xCat v = 1) ∧ (yCat a = 2 → xCat v = 2) := by
  obtain ⟨k, F⟩ := a
  unfold yCat xCat
  match k, h with
  | 0, h => refine ⟨fun _ => ?_, fun q => by cases q⟩; unfold xIsL; rw [(yg_int h).1]; rfl
  | 1, h => refine ⟨fun q => (by cases q), fun _ => ?_⟩; unfold xIsL; rw [(yg_lon h).1]; rfl
  | 2, h => refine ⟨fun _ => ?_, fun q => by cases q⟩; unfold xIsL; rw [show v % 8 = 2 from by have : v = 8 * F.2.toNat + 2 := h; omega]; rfl
  | 3, h => refine ⟨fun _ => ?_, fun q => by cases q⟩; rw [show v = 3 from h]; rfl
  | 4, h => exact ⟨fun q => (by cases q), fun q => (by cases q)⟩
  | 5, h => exact ⟨fun q => (by cases q), fun q => (by cases q)⟩
  | 6, h => refine ⟨fun _ => ?_, fun q => by cases q⟩; rw [show v = 6 from h]; rfl
  | k + 7, h => exact ⟨fun q => (by cases q), fun q => (by cases q)⟩
def yo_dup (K : yKt) (pc : Nat) (LA SA : List yA) (env : xEv) (fs : List yF) (ca : yCa) : Bool := match SA with
  | a :: r => bif Nat.beq (yCat a) 1 then K (pc + 1) LA (a :: a :: r) env fs ca else false
  | [] => false
theorem yc_dup (hKc : ∀ pc L S Wd, G pc L S Wd → Kc pc L S Wd cc cs [] = some []) (hK : yHK G sp γ K) (hs : ySt sp γ τ L S Wd LA SA env fs ca) (h : yo_dup K pc LA SA env fs ca = true) : xo_dup Kc a1 a2 pc L S Wd cc cs [] = some [] := by
  unfold yo_dup at h
  match SA, h, hs with
  | a :: r, h, hs =>
    dsimp only at h
    obtain ⟨hk, hN⟩ := ybif h
    obtain ⟨x, t, rfl, h1, h2⟩ := yR_c (c := 0) hs.2.1
    have hG := hK _ _ _ _ _ _ hN τ L (x :: x :: t) Wd ⟨hs.1, ⟨h1, h1, h2⟩, hs.2.2⟩
    unfold xo_dup
    dsimp only
    rw [(yCat_ok h1).1 (xbeq hk), show Nat.beq 1 1 = true from rfl, cond_true, xF_eq]
    exact hKc _ _ _ _ hG
  | [], h, _ => cases h
def yo_dup_x1 (K : yKt) (pc : Nat) (LA SA : List yA) (env : xEv) (fs : List yF) (ca : yCa) : Bool := match SA with
  | a :: b :: r => bif Nat.beq (yCat a) 1 && Nat.beq (yCat b) 1 then K (pc + 1) LA (a :: b :: a :: r) env fs ca else false
  | _ => false
theorem yc_dup_x1 (hKc : ∀ pc L S Wd, G pc L S Wd → Kc pc L S Wd cc cs [] = some []) (hK : yHK G sp γ K) (hs : ySt sp γ τ L S Wd LA SA env fs ca) (h : yo_dup_x1 K pc LA SA env fs ca = true) : xo_dup_x1 Kc a1 a2 pc L S Wd cc cs [] = some [] := by
  unfold yo_dup_x1 at h
  match SA, h, hs with
  | a :: b :: r, h, hs =>
    dsimp only at h
    obtain ⟨hk, hN⟩ := ybif h
    obtain ⟨x, t, rfl, h1, h2⟩ := yR_c (c := 0) hs.2.1
    obtain ⟨y, t, rfl, h3, h4⟩ := yR_c (c := 0) h2
    have hG := hK _ _ _ _ _ _ hN τ L (x :: y :: x :: t) Wd ⟨hs.1, ⟨h1, h3, h1, h4⟩, hs.2.2⟩
    unfold xo_dup_x1
    dsimp only
    rw [(yCat_ok h1).1 (xbeq (xand hk).1), (yCat_ok h3).1 (xbeq (xand hk).2), show (Nat.beq 1 1 && Nat.beq 1 1) = true from rfl, cond_true, xF_eq]
    exact hKc _ _ _ _ hG
  | [], h, _ => cases h
  | [_], h, _ => cases h
def yo_dup2 (K : yKt) (pc : Nat) (LA SA : List yA) (env : xEv) (fs : List yF) (ca : yCa) : Bool := match SA with
  | a :: r => bif Nat.beq (yCat a) 2 then K (pc + 1) LA (a :: a :: r) env fs ca else (match r with
    | b :: r' => bif Nat.beq (yCat a) 1 && Nat.beq (yCat b) 1 then K (pc + 1) LA (a :: b :: a :: b :: r') env fs ca else false
    | [] => false)
  | [] => false
theorem yc_dup2 (hKc : ∀ pc L S Wd, G pc L S Wd → Kc pc L S Wd cc cs [] = some []) (hK : yHK G sp γ K) (hs : ySt sp γ τ L S Wd LA SA env fs ca) (h : yo_dup2 K pc LA SA env fs ca = true) : xo_dup2 Kc a1 a2 pc L S Wd cc cs [] = some [] := by
  unfold yo_dup2 at h
  match SA, h, hs with
  | a :: r, h, hs =>
    dsimp only at h
    obtain ⟨x, t, rfl, h1, h2⟩ := yR_c (c := 0) hs.2.1
    cases hk : Nat.beq (yCat a) 2 with
    | true =>
      rw [hk, cond_true] at h
      have hG := hK _ _ _ _ _ _ h τ L (x :: x :: t) Wd ⟨hs.1, ⟨h1, h1, h2⟩, hs.2.2⟩
      unfold xo_dup2
      dsimp only
      rw [(yCat_ok h1).2 (xbeq hk), show Nat.beq 2 2 = true from rfl, cond_true, xF_eq]
      exact hKc _ _ _ _ hG
    | false =>
      rw [hk, cond_false] at h
      match r, h, h2, hs with
      | b :: r', h, h2, hs =>
        dsimp only at h
        obtain ⟨hk2, hN⟩ := ybif h
        obtain ⟨y, t, rfl, h3, h4⟩ := yR_c (c := 0) h2
        have hG := hK _ _ _ _ _ _ hN τ L (x :: y :: x :: y :: t) Wd ⟨hs.1, ⟨h1, h3, h1, h3, h4⟩, hs.2.2⟩
        unfold xo_dup2
        dsimp only
        rw [(yCat_ok h1).1 (xbeq (xand hk2).1), show Nat.beq 1 2 = false from rfl, cond_false]
        rw [(yCat_ok h3).1 (xbeq (xand hk2).2), show Nat.beq 1 1 = true from rfl, cond_true, xF_eq]
        exact hKc _ _ _ _ hG
      | [], h, _, _ => cases h
  | [], h, _ => cases h
end YLO
