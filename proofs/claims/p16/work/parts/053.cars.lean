theorem ybm {z : Int} (h1 : -2147483648 ≤ z) (h2 : z ≤ 2147483647) : z.bmod 4294967296 = z := by
  rw [Int.bmod]
  split <;> omega
theorem ybm64 {z : Int} (h1 : -9223372036854775808 ≤ z) (h2 : z ≤ 9223372036854775807) : z.bmod 18446744073709551616 = z := by
  rw [Int.bmod]
  split <;> omega
theorem yrng32 (u : Nat) : -2147483648 ≤ xs32 u ∧ xs32 u ≤ 2147483647 := by unfold xs32 xb32; omega
theorem yrng64 (u : Nat) : -9223372036854775808 ≤ xs64 u ∧ xs64 u ≤ 9223372036854775807 := by unfold xs64 xb64; omega
theorem ylt32 (x : Int32) : xN32 x < 4294967296 := x.toBitVec.isLt
theorem ylt64 (x : Int64) : xN64 x < 18446744073709551616 := x.toBitVec.isLt
theorem yxs32 (x : Int32) : xs32 (xN32 x) = x.toInt := by rw [← xs32_eq, xN32_eq]
theorem yxs64 (x : Int64) : xs64 (xN64 x) = x.toInt := by rw [← xs64_eq, xN64_eq]
theorem yadd32 {x y : Nat} (h1 : -2147483648 ≤ xs32 x + xs32 y) (h2 : xs32 x + xs32 y ≤ 2147483647) : xs32 ((x + y) % 4294967296) = xs32 x + xs32 y := by
  unfold xs32 xb32 at *
  omega
theorem ysub32 {x y : Nat} (h1 : -2147483648 ≤ xs32 x - xs32 y) (h2 : xs32 x - xs32 y ≤ 2147483647) : xs32 ((x + 4294967296 - y % 4294967296) % 4294967296) = xs32 x - xs32 y := by
  unfold xs32 xb32 at *
  omega
theorem ymul32 {x y : Nat} (h1 : -2147483648 ≤ xs32 x * xs32 y) (h2 : xs32 x * xs32 y ≤ 2147483647) : xs32 ((x * y) % 4294967296) = xs32 x * xs32 y := by
  rw [← xs32_eq, xnI_mod, ← pk_mul, Int32.toInt_mul, xs32_eq, xs32_eq]
  exact ybm h1 h2
theorem yadd64 {x y : Nat} (h1 : -9223372036854775808 ≤ xs64 x + xs64 y) (h2 : xs64 x + xs64 y ≤ 9223372036854775807) : xs64 ((x + y) % 18446744073709551616) = xs64 x + xs64 y := by
  unfold xs64 xb64 at *
  omega
theorem ysub64 {x y : Nat} (h1 : -9223372036854775808 ≤ xs64 x - xs64 y) (h2 : xs64 x - xs64 y ≤ 9223372036854775807) : xs64 (xN64 (lN x - lN y)) = xs64 x - xs64 y := by
  rw [yxs64, Int64.toInt_sub, xs64_eq, xs64_eq]
  exact ybm64 h1 h2
theorem ymul64 {x y : Nat} (h1 : -9223372036854775808 ≤ xs64 x * xs64 y) (h2 : xs64 x * xs64 y ≤ 9223372036854775807) : xs64 ((x * y) % 18446744073709551616) = xs64 x * xs64 y := by
  rw [← xs64_eq, xlN_mod, ← lN_mul, Int64.toInt_mul, xs64_eq, xs64_eq]
  exact ybm64 h1 h2
section YAR
variable {G : Nat → List Nat → List Nat → List Nat → Prop} {sp : List yCell} {K : yKt} {Kc : xKt} {cc cs : Nat}
variable {γ : yLk} {τ : Nat → Int} {L S Wd : List Nat} {LA SA : List yA} {env : xEv} {fs : List yF} {ca : yCa} {a1 a2 pc : Nat}
/-- a value of a form, or a fresh one -/
theorem yFr_ok {lo hi z : Int} {k : yF → xEv → Bool} (hs : ySt sp γ τ L S Wd LA SA env fs ca) (h : yFr LA SA env fs ca lo hi k = true) (h1 : lo ≤ z) (h2 : z ≤ hi) : ∃ (τ' : Nat → Int) (F' : yF) (env' : xEv), k F' env' = true ∧ ySt sp γ τ' L S Wd LA SA env' fs ca ∧ yv τ' F' = z := by
  unfold yFr at h
  obtain ⟨hw, h⟩ := ybif h
  exact ⟨_, _, _, h, hs.fresh hw h1 h2, yUp_new τ env.length z⟩
theorem yI32_ok {F : yF} {z : Int} {k : yF → xEv → Bool} (hs : ySt sp γ τ L S Wd LA SA env fs ca) (h : yI32 LA SA env fs ca F k = true) (h1 : -2147483648 ≤ z) (h2 : z ≤ 2147483647) (hz : -2147483648 ≤ yv τ F → yv τ F ≤ 2147483647 → z = yv τ F) : ∃ (τ' : Nat → Int) (F' : yF) (env' : xEv), k F' env' = true ∧ ySt sp γ τ' L S Wd LA SA env' fs ca ∧ yv τ' F' = z := by
  unfold yI32 at h
  cases hi : yIn env fs F (-2147483648) 2147483647 with
  | true =>
    rw [hi, cond_true] at h
    obtain ⟨g1, g2⟩ := yIn_ok hs.2.2.2.1 hs.2.2.2.2.1 hi
    exact ⟨τ, F, env, h, hs, (hz g1 g2).symm⟩
  | false =>
    rw [hi, cond_false] at h
    exact yFr_ok hs h h1 h2
theorem yI64_ok {F : yF} {z : Int} {k : yF → xEv → Bool} (hs : ySt sp γ τ L S Wd LA SA env fs ca) (h : yI64 LA SA env fs ca F k = true) (h1 : -9223372036854775808 ≤ z) (h2 : z ≤ 9223372036854775807) (hz : -9223372036854775808 ≤ yv τ F → yv τ F ≤ 9223372036854775807 → z = yv τ F) : ∃ (τ' : Nat → Int) (F' : yF) (env' : xEv), k F' env' = true ∧ ySt sp γ τ' L S Wd LA SA env' fs ca ∧ yv τ' F' = z := by
  unfold yI64 at h
  cases hi : yIn env fs F (-9223372036854775808) 9223372036854775807 with
  | true =>
    rw [hi, cond_true] at h
    obtain ⟨g1, g2⟩ := yIn_ok hs.2.2.2.1 hs.2.2.2.2.1 hi
    exact ⟨τ, F, env, h, hs, (hz g1 g2).symm⟩
  | false =>
    rw [hi, cond_false] at h
    exact yFr_ok hs h h1 h2
theorem yg_mk32 {u : Nat} {F : yF} (hu : u < 4294967296) (h : xs32 u = yv τ F) : yg τ (u * 8) (0, F) := ⟨Nat.mul_mod_left _ _, by rw [Nat.mul_div_cancel _ (by decide)]; exact hu, by rw [Nat.mul_div_cancel _ (by decide)]; exact h⟩
theorem yg_mk64 {u : Nat} {F : yF} (hu : u < 18446744073709551616) (h : xs64 u = yv τ F) : yg τ (u * 8 + 1) (1, F) := ⟨by omega, by rw [show (u * 8 + 1) / 8 = u by omega]; exact hu, by rw [show (u * 8 + 1) / 8 = u by omega]; exact h⟩
theorem yR_c {c : Nat} {a : yA} {A : List yA} (h : yR τ L (a :: A)) : ∃ (c : Nat) (t : List Nat), L = c :: t ∧ yg τ c a ∧ yR τ t A := by
  cases L with
  | nil => cases h
  | cons c t => exact ⟨c, t, rfl, h.1, h.2⟩
/-! stores -/
def yo_st (K : yKt) (kd len a1 : Nat) (pc : Nat) (LA SA : List yA) (env : xEv) (fs : List yF) (ca : yCa) : Bool := match SA with
  | a :: r => bif (Nat.beq a.1 kd || (Nat.beq kd 2 && Nat.beq a.1 6)) && Nat.blt a1 LA.length then K (pc + len) (yStA LA a1 a) r env fs ca else false
  | [] => false
theorem yt_st {kd len : Nat} (hK : yHK G sp γ K) (hs : ySt sp γ τ L S Wd LA SA env fs ca) (h : yo_st K kd len a1 pc LA SA env fs ca = true) : ∃ v r, S = v :: r ∧ (∃ a, yg τ v a ∧ (a.1 = kd ∨ (kd = 2 ∧ a.1 = 6))) ∧ a1 < L.length ∧ ∀ L', (∀ k : List Nat → xRes, xStL L a1 v k = k L') → G (pc + len) L' r Wd := by
  unfold yo_st at h
  match SA, h with
  | a :: r, h =>
    dsimp only at h
    obtain ⟨hk, h⟩ := ybif h
    obtain ⟨hk, hl⟩ := xand hk
    obtain ⟨v, t, rfl, h1, h2⟩ := yR_c (c := 0) hs.2.1
    refine ⟨v, t, rfl, ⟨a, h1, ?_⟩, by rw [yR_len hs.1]; exact xblt hl, fun L' hL => hK _ _ _ _ _ _ h τ L' t Wd ⟨yStA_ok hs.1 h1 hL, h2, hs.2.2⟩⟩
    cases hb : Nat.beq a.1 kd with
    | true => exact Or.inl (xbeq hb)
    | false =>
      rw [hb, Bool.false_or] at hk
      exact Or.inr ⟨xbeq (xand hk).1, xbeq (xand hk).2⟩
  | [], h => cases h
theorem yc_istore1 (hKc : ∀ pc L S Wd, G pc L S Wd → Kc pc L S Wd cc cs [] = some []) (hK : yHK G sp γ K) (hs : ySt sp γ τ L S Wd LA SA env fs ca) (h : yo_st K 0 1 a1 pc LA SA env fs ca = true) : xo_istore1 Kc a1 a2 pc L S Wd cc cs [] = some [] := by
  obtain ⟨v, r, rfl, ⟨a, g1, g2⟩, g3, g4⟩ := yt_st hK hs h
  have hi : xIsI v = true := (ykind g1).1 (by rcases g2 with q | ⟨q, -⟩; exact q; cases q)
  obtain ⟨L1, hL⟩ := xStL_ex L a1 v
  unfold xo_istore1
  dsimp only
  rw [hi, xLen_eq, show Nat.blt a1 L.length = true from Nat.ble_eq_true_of_le g3, Bool.and_self, cond_true, hL, xF_eq]
  exact hKc _ _ _ _ (g4 L1 hL)
theorem yc_istore2 (hKc : ∀ pc L S Wd, G pc L S Wd → Kc pc L S Wd cc cs [] = some []) (hK : yHK G sp γ K) (hs : ySt sp γ τ L S Wd LA SA env fs ca) (h : yo_st K 0 2 a1 pc LA SA env fs ca = true) : xo_istore2 Kc a1 a2 pc L S Wd cc cs [] = some [] := by
  obtain ⟨v, r, rfl, ⟨a, g1, g2⟩, g3, g4⟩ := yt_st hK hs h
  have hi : xIsI v = true := (ykind g1).1 (by rcases g2 with q | ⟨q, -⟩; exact q; cases q)
  obtain ⟨L1, hL⟩ := xStL_ex L a1 v
  unfold xo_istore2
  dsimp only
  rw [hi, xLen_eq, show Nat.blt a1 L.length = true from Nat.ble_eq_true_of_le g3, Bool.and_self, cond_true, hL, xF_eq]
  exact hKc _ _ _ _ (g4 L1 hL)
theorem yc_astore1 (hKc : ∀ pc L S Wd, G pc L S Wd → Kc pc L S Wd cc cs [] = some []) (hK : yHK G sp γ K) (hs : ySt sp γ τ L S Wd LA SA env fs ca) (h : yo_st K 2 1 a1 pc LA SA env fs ca = true) : xo_astore1 Kc a1 a2 pc L S Wd cc cs [] = some [] := by
  obtain ⟨v, r, rfl, ⟨a, g1, g2⟩, g3, g4⟩ := yt_st hK hs h
  have hi : xIsR v = true := (ykind g1).2.2 (by rcases g2 with q | ⟨-, q⟩; exact Or.inl q; exact Or.inr q)
  obtain ⟨L1, hL⟩ := xStL_ex L a1 v
  unfold xo_astore1
  dsimp only
  rw [hi, xLen_eq, show Nat.blt a1 L.length = true from Nat.ble_eq_true_of_le g3, Bool.and_self, cond_true, hL, xF_eq]
  exact hKc _ _ _ _ (g4 L1 hL)
theorem yc_astore2 (hKc : ∀ pc L S Wd, G pc L S Wd → Kc pc L S Wd cc cs [] = some []) (hK : yHK G sp γ K) (hs : ySt sp γ τ L S Wd LA SA env fs ca) (h : yo_st K 2 2 a1 pc LA SA env fs ca = true) : xo_astore2 Kc a1 a2 pc L S Wd cc cs [] = some [] := by
  obtain ⟨v, r, rfl, ⟨a, g1, g2⟩, g3, g4⟩ := yt_st hK hs h
  have hi : xIsR v = true := (ykind g1).2.2 (by rcases g2 with q | ⟨-, q⟩; exact Or.inl q; exact Or.inr q)
  obtain ⟨L1, hL⟩ := xStL_ex L a1 v
  unfold xo_astore2
  dsimp only
  rw [hi, xLen_eq, show Nat.blt a1 L.length = true from Nat.ble_eq_true_of_le g3, Bool.and_self, cond_true, hL, xF_eq]
  exact hKc _ _ _ _ (g4 L1 hL)
def yo_lst (K : yKt) (len a1 : Nat) (pc : Nat) (LA SA : List yA) (env : xEv) (fs : List yF) (ca : yCa) : Bool := match SA with
  | a :: r => bif Nat.beq a.1 1 && Nat.blt (a1 + 1) LA.length then K (pc + len) ((yStA LA a1 a).set (a1 + 1) (9, ([], 0))) r env fs ca else false
  | [] => false
theorem yt_lst {len : Nat} (hK : yHK G sp γ K) (hs : ySt sp γ τ L S Wd LA SA env fs ca) (h : yo_lst K len a1 pc LA SA env fs ca = true) : ∃ v r, S = v :: r ∧ xIsL v = true ∧ a1 + 1 < L.length ∧ ∀ L', (∀ k : List Nat → xRes, xStL L a1 v k = k L') → G (pc + len) (L'.set (a1 + 1) 11) r Wd := by
  unfold yo_lst at h
  match SA, h with
  | a :: r, h =>
    dsimp only at h
    obtain ⟨hk, h⟩ := ybif h
    obtain ⟨hk, hl⟩ := xand hk
    obtain ⟨v, t, rfl, h1, h2⟩ := yR_c (c := 0) hs.2.1
    exact ⟨v, t, rfl, (ykind h1).2.1 (xbeq hk), by rw [yR_len hs.1]; exact xblt hl, fun L' hL => hK _ _ _ _ _ _ h τ _ t Wd ⟨yR_set (yStA_ok hs.1 h1 hL) (yg9 τ 11 _), h2, hs.2.2⟩⟩
  | [], h => cases h
theorem yc_lstore1 (hKc : ∀ pc L S Wd, G pc L S Wd → Kc pc L S Wd cc cs [] = some []) (hK : yHK G sp γ K) (hs : ySt sp γ τ L S Wd LA SA env fs ca) (h : yo_lst K 1 a1 pc LA SA env fs ca = true) : xo_lstore1 Kc a1 a2 pc L S Wd cc cs [] = some [] := by
  obtain ⟨v, r, rfl, hi, g3, g4⟩ := yt_lst hK hs h
  obtain ⟨L1, hL⟩ := xStL_ex L a1 v
  unfold xo_lstore1
  dsimp only
  rw [hi, xLen_eq, show Nat.blt (a1 + 1) L.length = true from Nat.ble_eq_true_of_le g3, Bool.and_self, cond_true, hL, xSet_eq, xF_eq]
  exact hKc _ _ _ _ (g4 L1 hL)
theorem yc_lstore2 (hKc : ∀ pc L S Wd, G pc L S Wd → Kc pc L S Wd cc cs [] = some []) (hK : yHK G sp γ K) (hs : ySt sp γ τ L S Wd LA SA env fs ca) (h : yo_lst K 2 a1 pc LA SA env fs ca = true) : xo_lstore2 Kc a1 a2 pc L S Wd cc cs [] = some [] := by
  obtain ⟨v, r, rfl, hi, g3, g4⟩ := yt_lst hK hs h
  obtain ⟨L1, hL⟩ := xStL_ex L a1 v
  unfold xo_lstore2
  dsimp only
  rw [hi, xLen_eq, show Nat.blt (a1 + 1) L.length = true from Nat.ble_eq_true_of_le g3, Bool.and_self, cond_true, hL, xSet_eq, xF_eq]
  exact hKc _ _ _ _ (g4 L1 hL)
/-! ints -/
def yo_iinc (K : yKt) (a1 a2 : Nat) (pc : Nat) (LA SA : List yA) (env : xEv) (fs : List yF) (ca : yCa) : Bool := match LA[a1]? with
  | none => false
  | some a => bif Nat.beq a.1 0 then yI32 LA SA env fs ca (yAdd a.2 (yK (xs32 a2))) (fun F e' => K (pc + 3) (yStA LA a1 (0, F)) SA e' fs ca) else false
theorem yc_iinc (hKc : ∀ pc L S Wd, G pc L S Wd → Kc pc L S Wd cc cs [] = some []) (hK : yHK G sp γ K) (hs : ySt sp γ τ L S Wd LA SA env fs ca) (h : yo_iinc K a1 a2 pc LA SA env fs ca = true) : xo_iinc Kc a1 a2 pc L S Wd cc cs [] = some [] := by
  unfold yo_iinc at h
  cases hl : LA[a1]? with
  | none => rw [hl] at h; cases h
  | some a =>
    rw [hl] at h
    dsimp only at h
    obtain ⟨hk, h⟩ := ybif h
    obtain ⟨ka, F⟩ := a
    have hk : ka = 0 := xbeq hk
    subst hk
    obtain ⟨v, h1, h2⟩ := yR_get hs.1 hl
    obtain ⟨g1, g2, g3⟩ := yg_int h2
    have hlen := (List.getElem?_eq_some_iff.mp h1).1
    have hg : xGet L a1 = v := by rw [xGet_eq, List.getD_eq_getElem?_getD, h1]; rfl
    obtain ⟨L1, hL⟩ := xStL_ex L a1 ((v / 8 + a2) % 4294967296 * 8)
    obtain ⟨τ', F', e', f1, f2, f3⟩ := yI32_ok (z := xs32 ((v / 8 + a2) % 4294967296)) hs h (yrng32 _).1 (yrng32 _).2 (fun q1 q2 => by
      rw [yAdd_eq, yK_eq, ← g3] at q1 q2 ⊢
      exact yadd32 q1 q2)
    have hG := hK _ _ _ _ _ _ f1 τ' L1 S Wd ⟨yStA_ok f2.1 (yg_mk32 (Nat.mod_lt _ (by decide)) f3.symm) hL, f2.2⟩
    unfold xo_iinc
    rw [xF_eq, hg, g1, xLen_eq, show Nat.blt a1 L.length = true from Nat.ble_eq_true_of_le hlen]
    show (bif (Nat.beq 0 0 && true) then _ else none) = _
    rw [show (Nat.beq 0 0 && true) = true from rfl, cond_true, xF_eq, hL, xF_eq]
    exact hKc _ _ _ _ hG
theorem xI2_conc {x y : Nat} {r : List Nat} {e : xEv} {f : Nat → Nat → Nat} {k : List Nat → xRes} {re : List Nat → xEv → xRes} (h1 : x % 8 = 0) (h2 : y % 8 = 0) : xI2 (y :: x :: r) e f k re = k (f (x / 8) (y / 8) * 8 :: r) := by
  unfold xI2
  dsimp only
  rw [h1, h2, show (Nat.beq 0 0 && Nat.beq 0 0) = true from rfl, cond_true, xF_eq]
/-- two ints on the stack, an int out of a form of theirs -/
def yo_i2 (K : yKt) (op : yF → yF → Option yF) (pc : Nat) (LA SA : List yA) (env : xEv) (fs : List yF) (ca : yCa) : Bool := match SA with
  | a :: b :: r => bif Nat.beq a.1 0 && Nat.beq b.1 0 then (match op b.2 a.2 with
    | none => yFr LA SA env fs ca (-2147483648) 2147483647 (fun F e' => K (pc + 1) LA ((0, F) :: r) e' fs ca)
    | some F => yI32 LA SA env fs ca F (fun F e' => K (pc + 1) LA ((0, F) :: r) e' fs ca)) else false
  | _ => false
theorem yt_i2 {op : yF → yF → Option yF} {f : Nat → Nat → Nat} (hK : yHK G sp γ K) (hs : ySt sp γ τ L S Wd LA SA env fs ca) (h : yo_i2 K op pc LA SA env fs ca = true) (hf : ∀ x y, f x y < 4294967296) (hop : ∀ (X Y F : yF) (x y : Nat) (τ : Nat → Int), op X Y = some F → xs32 x = yv τ X → xs32 y = yv τ Y → -2147483648 ≤ yv τ F → yv τ F ≤ 2147483647 → xs32 (f x y) = yv τ F) : ∃ y x r, S = y :: x :: r ∧ x % 8 = 0 ∧ y % 8 = 0 ∧ G (pc + 1) L (f (x / 8) (y / 8) * 8 :: r) Wd := by
  unfold yo_i2 at h
  match SA, h, hs with
  | (ka, Y) :: (kb, X) :: r, h, hs =>
    dsimp only at h
    obtain ⟨hk, h⟩ := ybif h
    have hka : ka = 0 := xbeq (xand hk).1
    have hkb : kb = 0 := xbeq (xand hk).2
    subst hka
    subst hkb
    obtain ⟨y, t, rfl, h1, h2⟩ := yR_c (c := 0) hs.2.1
    obtain ⟨x, t, rfl, h3, h4⟩ := yR_c (c := 0) h2
    obtain ⟨gy, -, vy⟩ := yg_int h1
    obtain ⟨gx, -, vx⟩ := yg_int h3
    refine ⟨y, x, t, rfl, gx, gy, ?_⟩
    have fin : ∀ {τ' : Nat → Int} {F' : yF} {e' : xEv}, K (pc + 1) LA ((0, F') :: r) e' fs ca = true → ySt sp γ τ' L (y :: x :: t) Wd LA ((0, Y) :: (0, X) :: r) e' fs ca → yv τ' F' = xs32 (f (x / 8) (y / 8)) → G (pc + 1) L (f (x / 8) (y / 8) * 8 :: t) Wd := by
      intro τ' F' e' f1 f2 f3
      exact hK _ _ _ _ _ _ f1 τ' L _ Wd ⟨f2.1, ⟨yg_mk32 (hf _ _) f3.symm, f2.2.1.2.2⟩, f2.2.2⟩
    cases ho : op X Y with
    | none =>
      rw [ho] at h
      obtain ⟨τ', F', e', f1, f2, f3⟩ := yFr_ok (z := xs32 (f (x / 8) (y / 8))) hs h (yrng32 _).1 (yrng32 _).2
      exact fin f1 f2 f3
    | some F =>
      rw [ho] at h
      obtain ⟨τ', F', e', f1, f2, f3⟩ := yI32_ok (z := xs32 (f (x / 8) (y / 8))) hs h (yrng32 _).1 (yrng32 _).2 (fun q1 q2 => hop X Y F _ _ τ ho vx vy q1 q2)
      exact fin f1 f2 f3
def yMul (X Y : yF) : Option yF := match X.1 with
  | [] => some (yScl X.2 Y)
  | _ => match Y.1 with
    | [] => some (yScl Y.2 X)
    | _ => none
theorem yMul_eq {X Y F : yF} (h : yMul X Y = some F) : yv τ F = yv τ X * yv τ Y := by
  unfold yMul at h
  obtain ⟨lx, kx⟩ := X
  obtain ⟨ly, ky⟩ := Y
  match lx, h with
  | [], h =>
    cases h
    rw [yScl_eq, show yv τ (([], kx) : yF) = kx from yK_eq τ kx]
  | q :: t, h =>
    dsimp only at h
    match ly, h with
    | [], h =>
      cases h
      rw [yScl_eq, show yv τ (([], ky) : yF) = ky from yK_eq τ ky, Int.mul_comm]
    | _ :: _, h => cases h
theorem yc_iadd (hKc : ∀ pc L S Wd, G pc L S Wd → Kc pc L S Wd cc cs [] = some []) (hK : yHK G sp γ K) (hs : ySt sp γ τ L S Wd LA SA env fs ca) (h : yo_i2 K (fun X Y => some (yAdd X Y)) pc LA SA env fs ca = true) : xo_iadd Kc a1 a2 pc L S Wd cc cs [] = some [] := by
  obtain ⟨y, x, r, rfl, g1, g2, g3⟩ := yt_i2 (f := fun x y => (x + y) % 4294967296) hK hs h (fun _ _ => Nat.mod_lt _ (by decide)) (fun X Y F x y τ e hx hy q1 q2 => by
    cases e
    rw [yAdd_eq, ← hx, ← hy] at q1 q2 ⊢
    exact yadd32 q1 q2)
  unfold xo_iadd
  rw [xI2_conc g1 g2, xF_eq]
  exact hKc _ _ _ _ g3
theorem yc_isub (hKc : ∀ pc L S Wd, G pc L S Wd → Kc pc L S Wd cc cs [] = some []) (hK : yHK G sp γ K) (hs : ySt sp γ τ L S Wd LA SA env fs ca) (h : yo_i2 K (fun X Y => some (ySub X Y)) pc LA SA env fs ca = true) : xo_isub Kc a1 a2 pc L S Wd cc cs [] = some [] := by
  obtain ⟨y, x, r, rfl, g1, g2, g3⟩ := yt_i2 (f := fun x y => (x + 4294967296 - y % 4294967296) % 4294967296) hK hs h (fun _ _ => Nat.mod_lt _ (by decide)) (fun X Y F x y τ e hx hy q1 q2 => by
    cases e
    rw [ySub_eq, ← hx, ← hy] at q1 q2 ⊢
    exact ysub32 q1 q2)
  unfold xo_isub
  rw [xI2_conc g1 g2, xF_eq]
  exact hKc _ _ _ _ g3
theorem yc_imul (hKc : ∀ pc L S Wd, G pc L S Wd → Kc pc L S Wd cc cs [] = some []) (hK : yHK G sp γ K) (hs : ySt sp γ τ L S Wd LA SA env fs ca) (h : yo_i2 K yMul pc LA SA env fs ca = true) : xo_imul Kc a1 a2 pc L S Wd cc cs [] = some [] := by
  obtain ⟨y, x, r, rfl, g1, g2, g3⟩ := yt_i2 (f := fun x y => (x * y) % 4294967296) hK hs h (fun _ _ => Nat.mod_lt _ (by decide)) (fun X Y F x y τ e hx hy q1 q2 => by
    rw [yMul_eq e, ← hx, ← hy] at q1 q2 ⊢
    exact ymul32 q1 q2)
  unfold xo_imul
  rw [xI2_conc g1 g2, xF_eq]
  exact hKc _ _ _ _ g3
end YAR
