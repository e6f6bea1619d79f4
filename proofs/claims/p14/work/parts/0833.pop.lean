/-! bits counted: bytes side by side -/
theorem zand256 (A B C D : Nat) (hB : B < 256) (hD : D < 256) : (256 * A + B) &&& (256 * C + D) = 256 * (A &&& C) + (B &&& D) := by
  have h1 : ((256 * A + B) &&& (256 * C + D)) / 2 ^ 8 = A &&& C := by
    rw [Nat.and_div_two_pow]
    rw [show (256 * A + B) / 2 ^ 8 = A by omega, show (256 * C + D) / 2 ^ 8 = C by omega]
  have h2 : ((256 * A + B) &&& (256 * C + D)) % 2 ^ 8 = B &&& D := by
    rw [Nat.and_mod_two_pow]
    rw [show (256 * A + B) % 2 ^ 8 = B by omega, show (256 * C + D) % 2 ^ 8 = D by omega]
  generalize (256 * A + B) &&& (256 * C + D) = z at h1 h2 ⊢
  omega
def m55 : Nat → Nat
  | 0 => 0
  | n + 1 => 256 * m55 n + 85
def m33 : Nat → Nat
  | 0 => 0
  | n + 1 => 256 * m33 n + 51
def m0f : Nat → Nat
  | 0 => 0
  | n + 1 => 256 * m0f n + 15
def b1 (n x : Nat) : Nat := x - (x / 2 &&& m55 n)
def b2 (n x : Nat) : Nat := (b1 n x &&& m33 n) + (b1 n x / 4 &&& m33 n)
def b3 (n x : Nat) : Nat := (b2 n x + b2 n x / 16) &&& m0f n
def w1 (b : Nat) : Nat := b - (b / 2 &&& 85)
def w2 (b : Nat) : Nat := (w1 b &&& 51) + (w1 b / 4 &&& 51)
def w3 (b : Nat) : Nat := (w2 b + w2 b / 16) &&& 15
theorem wk1 : ∀ b : Fin 256, w1 b.val < 256 ∧ (b.val / 2 &&& 85) ≤ b.val ∧ ((128 + b.val / 2) &&& 85) = (b.val / 2 &&& 85) := by decide +kernel
theorem wk2 : ∀ b : Fin 256, w2 b.val < 128 ∧ ∀ t : Fin 4, ((64 * t.val + w1 b.val / 4) &&& 51) = (w1 b.val / 4 &&& 51) := by decide +kernel
theorem wk3 : ∀ b : Fin 256, w3 b.val ≤ 8 := by decide +kernel
theorem wk3b : ∀ c : Fin 128, ∀ t : Fin 16, ((c.val + c.val / 16) % 16) = ((c.val + (16 * t.val + c.val / 16)) % 16) := by decide +kernel
theorem b1_step (n y b : Nat) (hb : b < 256) : b1 (n + 1) (256 * y + b) = 256 * b1 n y + w1 b ∧ (y / 2 &&& m55 n) ≤ y := by
  have hk := wk1 ⟨b, hb⟩
  dsimp only at hk
  have hy : (y / 2 &&& m55 n) ≤ y := Nat.le_trans Nat.and_le_left (Nat.div_le_self _ _)
  refine ⟨?_, hy⟩
  have e : (256 * y + b) / 2 = 256 * (y / 2) + (128 * (y % 2) + b / 2) := by omega
  have e2 : ((256 * y + b) / 2 &&& m55 (n + 1)) = 256 * (y / 2 &&& m55 n) + (b / 2 &&& 85) := by
    rw [e]
    show (256 * (y / 2) + (128 * (y % 2) + b / 2)) &&& (256 * m55 n + 85) = _
    rw [zand256 _ _ _ _ (by omega) (by omega)]
    by_cases h : y % 2 = 0
    · rw [h, Nat.mul_zero, Nat.zero_add]
    · rw [show y % 2 = 1 by omega, Nat.mul_one, hk.2.2]
  unfold b1 w1
  rw [e2]
  omega
theorem b2_step (n y b : Nat) (hb : b < 256) : b2 (n + 1) (256 * y + b) = 256 * b2 n y + w2 b := by
  have h1 := (b1_step n y b hb).1
  have hk := wk1 ⟨b, hb⟩
  have hk2 := wk2 ⟨b, hb⟩
  dsimp only at hk hk2
  unfold b2
  rw [h1]
  show ((256 * b1 n y + w1 b) &&& (256 * m33 n + 51)) + ((256 * b1 n y + w1 b) / 4 &&& (256 * m33 n + 51)) = _
  rw [zand256 _ _ _ _ hk.1 (by omega), show (256 * b1 n y + w1 b) / 4 = 256 * (b1 n y / 4) + (64 * (b1 n y % 4) + w1 b / 4) by omega, zand256 _ _ _ _ (by omega) (by omega)]
  have ht := hk2.2 ⟨b1 n y % 4, by omega⟩
  dsimp only at ht
  rw [ht]
  unfold w2
  omega
theorem and15 (x : Nat) : x &&& 15 = x % 16 := by
  have := Nat.and_two_pow_sub_one_eq_mod x 4
  exact this
theorem wk2c : ∀ b : Fin 256, w2 b.val % 16 ≤ 4 ∧ w2 b.val ≤ 68 := by decide +kernel
theorem b2_lo (n y : Nat) : b2 n y % 16 ≤ 4 := by
  cases n with
  | zero =>
    have : b2 0 y = 0 := by
      unfold b2
      show (b1 0 y &&& 0) + (b1 0 y / 4 &&& 0) = 0
      rw [Nat.and_zero, Nat.and_zero]
    rw [this]
    decide
  | succ n =>
    have h := b2_step n (y / 256) (y % 256) (by omega)
    rw [show 256 * (y / 256) + y % 256 = y by omega] at h
    have hk := wk2c ⟨y % 256, by omega⟩
    dsimp only at hk
    omega
theorem b3_step (n y b : Nat) (hb : b < 256) : b3 (n + 1) (256 * y + b) = 256 * b3 n y + w3 b := by
  have h2 := b2_step n y b hb
  have hk2 := wk2 ⟨b, hb⟩
  have hk3 := wk2c ⟨b, hb⟩
  have hlo := b2_lo n y
  dsimp only at hk2 hk3
  unfold b3
  rw [h2]
  have e : 256 * b2 n y + w2 b + (256 * b2 n y + w2 b) / 16 = 256 * (b2 n y + b2 n y / 16) + (w2 b + (16 * (b2 n y % 16) + w2 b / 16)) := by omega
  rw [e]
  show (256 * (b2 n y + b2 n y / 16) + (w2 b + (16 * (b2 n y % 16) + w2 b / 16))) &&& (256 * m0f n + 15) = _
  have hs := wk3b ⟨w2 b, hk2.1⟩ ⟨b2 n y % 16, by omega⟩
  dsimp only at hs
  have hw : w3 b = (w2 b + w2 b / 16) % 16 := and15 _
  rw [zand256 _ _ _ _ (by omega) (by omega), and15, hw, hs]
/-! the bits of a number, one by one and by bytes -/
def bs (x : Nat) : Nat → Nat
  | 0 => 0
  | n + 1 => bs x n + (if x.testBit n then 1 else 0)
theorem wk4 : ∀ b : Fin 256, w3 b.val = bs b.val 8 := by decide +kernel
theorem bs_cg {x y n : Nat} (h : ∀ i, i < n → x.testBit i = y.testBit i) : bs x n = bs y n := by
  induction n with
  | zero => rfl
  | succ n ih =>
    show bs x n + (if x.testBit n then 1 else 0) = bs y n + (if y.testBit n then 1 else 0)
    rw [ih (fun i hi => h i (by omega)), h n (by omega)]
theorem bs_add (x k : Nat) : bs x (8 + k) = bs x 8 + bs (x / 256) k := by
  induction k with
  | zero => rfl
  | succ k ih =>
    show bs x (8 + k) + (if x.testBit (8 + k) then 1 else 0) = bs x 8 + (bs (x / 256) k + (if (x / 256).testBit k then 1 else 0))
    have : (x / 256).testBit k = x.testBit (8 + k) := by
      rw [show (256 : Nat) = 2 ^ 8 from rfl, Nat.testBit_div_two_pow, Nat.add_comm]
    rw [ih, this]
    omega
theorem bs_byte (x : Nat) : bs x 8 = w3 (x % 256) := by
  have h := wk4 ⟨x % 256, by omega⟩
  dsimp only at h
  rw [h]
  refine bs_cg (fun i hi => ?_)
  rw [show (256 : Nat) = 2 ^ 8 from rfl, Nat.testBit_mod_two_pow]
  simp [hi]
/-- the bytes of b3 are the counts of the bytes -/
theorem b3_dig (x : Nat) : ∃ c0 c1 c2 c3 c4 c5 c6 c7 : Nat, b3 8 x = c0 + 256 * (c1 + 256 * (c2 + 256 * (c3 + 256 * (c4 + 256 * (c5 + 256 * (c6 + 256 * c7)))))) ∧ (c0 ≤ 8 ∧ c1 ≤ 8 ∧ c2 ≤ 8 ∧ c3 ≤ 8 ∧ c4 ≤ 8 ∧ c5 ≤ 8 ∧ c6 ≤ 8 ∧ c7 ≤ 8) ∧ bs x 64 = c0 + c1 + c2 + c3 + c4 + c5 + c6 + c7 := by
  have st : ∀ n y, b3 (n + 1) y = 256 * b3 n (y / 256) + w3 (y % 256) := fun n y => by
    have := b3_step n (y / 256) (y % 256) (by omega)
    rwa [show 256 * (y / 256) + y % 256 = y by omega] at this
  have b0 : ∀ y, b3 0 y = 0 := fun y => by
    unfold b3
    show _ &&& 0 = 0
    rw [Nat.and_zero]
  have hc : ∀ y, w3 (y % 256) ≤ 8 := fun y => wk3 ⟨y % 256, by omega⟩
  have s0 := bs_add x 56
  have s1 := bs_add (x / 256) 48
  have s2 := bs_add (x / 256 / 256) 40
  have s3 := bs_add (x / 256 / 256 / 256) 32
  have s4 := bs_add (x / 256 / 256 / 256 / 256) 24
  have s5 := bs_add (x / 256 / 256 / 256 / 256 / 256) 16
  have s6 := bs_add (x / 256 / 256 / 256 / 256 / 256 / 256) 8
  rw [bs_byte] at s0 s1 s2 s3 s4 s5 s6
  rw [bs_byte] at s6
  refine ⟨w3 (x % 256), w3 (x / 256 % 256), w3 (x / 256 / 256 % 256), w3 (x / 256 / 256 / 256 % 256), w3 (x / 256 / 256 / 256 / 256 % 256), w3 (x / 256 / 256 / 256 / 256 / 256 % 256), w3 (x / 256 / 256 / 256 / 256 / 256 / 256 % 256), w3 (x / 256 / 256 / 256 / 256 / 256 / 256 / 256 % 256), ?_, ⟨hc _, hc _, hc _, hc _, hc _, hc _, hc _, hc _⟩, ?_⟩
  · rw [st, st, st, st, st, st, st, st, b0]
    omega
  · rw [show (64 : Nat) = 8 + 56 from rfl, s0, show (56 : Nat) = 8 + 48 from rfl, s1, show (48 : Nat) = 8 + 40 from rfl, s2, show (40 : Nat) = 8 + 32 from rfl, s3, show (32 : Nat) = 8 + 24 from rfl, s4, show (24 : Nat) = 8 + 16 from rfl, s5, show (16 : Nat) = 8 + 8 from rfl, s6]
    omega
theorem po1 {y c C : Nat} (h : y = c + 256 * C) (hc : c ≤ 8) : y / 256 = C := by omega
theorem po2 {z a b Z : Nat} (h : z = a + 256 * b + 65536 * Z) (ha : a ≤ 16) (hb : b ≤ 16) : z / 65536 = Z := by omega
theorem po3 {u a b c d U : Nat} (h : u = a + 256 * b + 65536 * c + 16777216 * d + 4294967296 * U) (ha : a ≤ 32) (hb : b ≤ 32) (hc : c ≤ 32) (hd : d ≤ 32) : u / 4294967296 = U := by omega
theorem po4 {u a V U g H : Nat} (h : u = a + 256 * V) (hU : U = g + 256 * H) (hs : a + g ≤ 64) : (u + U) % 128 = a + g := by omega
theorem po6 (c0 c1 c2 X : Nat) : c0 + 256 * (c1 + 256 * (c2 + 256 * X)) + (c1 + 256 * (c2 + 256 * X)) = (c0 + c1) + 256 * (c1 + c2) + 65536 * ((c2 + 256 * X) + X) := by omega
theorem po5 (c0 c1 c2 c3 c4 c5 c6 Z : Nat) : (c0 + c1) + 256 * (c1 + c2) + 65536 * ((c2 + 256 * (c3 + 256 * (c4 + 256 * (c5 + 256 * (c6 + 256 * Z))))) + (c3 + 256 * (c4 + 256 * (c5 + 256 * (c6 + 256 * Z))))) + ((c2 + 256 * (c3 + 256 * (c4 + 256 * (c5 + 256 * (c6 + 256 * Z))))) + (c3 + 256 * (c4 + 256 * (c5 + 256 * (c6 + 256 * Z))))) = (c0 + c1 + (c2 + c3)) + 256 * (c1 + c2 + (c3 + c4)) + 65536 * (c2 + c3 + (c4 + c5)) + 16777216 * (c3 + c4 + (c5 + c6)) + 4294967296 * ((c4 + 256 * (c5 + 256 * (c6 + 256 * Z))) + (c5 + 256 * (c6 + 256 * Z)) + ((c6 + 256 * Z) + Z)) := by omega
theorem po7 (a b c d U : Nat) : a + 256 * b + 65536 * c + 16777216 * d + 4294967296 * U = a + 256 * (b + 256 * c + 65536 * d + 16777216 * U) := by omega
theorem po8 (c4 c5 c6 Z : Nat) : (c4 + 256 * (c5 + 256 * (c6 + 256 * Z))) + (c5 + 256 * (c6 + 256 * Z)) + ((c6 + 256 * Z) + Z) = (c4 + c5 + (c6 + Z)) + 256 * ((c5 + 256 * (c6 + 256 * Z)) + (c6 + 256 * Z) + Z) := by omega
theorem pop_in {y c0 c1 c2 c3 c4 c5 c6 c7 : Nat} (h : y = c0 + 256 * (c1 + 256 * (c2 + 256 * (c3 + 256 * (c4 + 256 * (c5 + 256 * (c6 + 256 * c7))))))) (l0 : c0 ≤ 8) (hs : c0 + c1 + (c2 + c3) + (c4 + c5 + (c6 + c7)) ≤ 64) (hf : c0 + c1 + (c2 + c3) + (c4 + c5 + (c6 + c7)) = c0 + c1 + c2 + c3 + c4 + c5 + c6 + c7) (d0 : c0 + c1 ≤ 16) (d1 : c1 + c2 ≤ 16) (d2 : c0 + c1 + (c2 + c3) ≤ 32) (d3 : c1 + c2 + (c3 + c4) ≤ 32) (d4 : c2 + c3 + (c4 + c5) ≤ 32) (d5 : c3 + c4 + (c5 + c6) ≤ 32) : ((y + y / 256) + (y + y / 256) / 65536 + ((y + y / 256) + (y + y / 256) / 65536) / 4294967296) % 128 = c0 + c1 + c2 + c3 + c4 + c5 + c6 + c7 := by
  rw [po1 h l0]
  have z1 : y + (c1 + 256 * (c2 + 256 * (c3 + 256 * (c4 + 256 * (c5 + 256 * (c6 + 256 * c7)))))) = _ := (congrArg (fun q => q + (c1 + 256 * (c2 + 256 * (c3 + 256 * (c4 + 256 * (c5 + 256 * (c6 + 256 * c7))))))) h).trans (po6 c0 c1 c2 _)
  generalize hz : y + (c1 + 256 * (c2 + 256 * (c3 + 256 * (c4 + 256 * (c5 + 256 * (c6 + 256 * c7)))))) = z at z1 ⊢
  rw [po2 z1 d0 d1]
  have u1 := (congrArg (fun q => q + ((c2 + 256 * (c3 + 256 * (c4 + 256 * (c5 + 256 * (c6 + 256 * c7))))) + (c3 + 256 * (c4 + 256 * (c5 + 256 * (c6 + 256 * c7)))))) z1).trans (po5 c0 c1 c2 c3 c4 c5 c6 c7)
  generalize hu : z + ((c2 + 256 * (c3 + 256 * (c4 + 256 * (c5 + 256 * (c6 + 256 * c7))))) + (c3 + 256 * (c4 + 256 * (c5 + 256 * (c6 + 256 * c7))))) = u at u1 ⊢
  rw [po3 u1 d2 d3 d4 d5]
  exact (po4 (u1.trans (po7 _ _ _ _ _)) (po8 c4 c5 c6 c7) hs).trans hf
theorem pop_ok (x y : Nat) (h : y = b3 8 x) : ((y + y / 256) + (y + y / 256) / 65536 + ((y + y / 256) + (y + y / 256) / 65536) / 4294967296) % 128 = bs x 64 := by
  obtain ⟨c0, c1, c2, c3, c4, c5, c6, c7, h1, ⟨l0, l1, l2, l3, l4, l5, l6, l7⟩, h3⟩ := b3_dig x
  have h4 := h.trans h1
  clear h h1
  rw [h3]
  clear h3
  exact pop_in h4 l0 (by clear h4; omega) (by clear h4; omega) (by clear h4; omega) (by clear h4; omega) (by clear h4; omega) (by clear h4; omega) (by clear h4; omega) (by clear h4; omega)
