/-! the best of candidates: of like ones the least player -/
theorem fr_tr {a b x y u v : Int} (hb : 0 < b) (hy : 0 < y) (hv : 0 < v) (h1 : x * b ≤ a * y) (h2 : a * v < u * b) : x * v < u * y := by
  have e1 : x * b * v ≤ a * y * v := Int.mul_le_mul_of_nonneg_right h1 (Int.le_of_lt hv)
  have e2 : a * v * y < u * b * y := Int.mul_lt_mul_of_pos_right h2 hy
  have e3 : a * y * v = a * v * y := Int.mul_right_comm a y v
  have e4 : x * b * v = x * v * b := Int.mul_right_comm x b v
  have e5 : u * b * y = u * y * b := Int.mul_right_comm u b y
  have e6 : x * v * b < u * y * b := by
    rw [← e4, ← e5]
    omega
  exact Int.lt_of_mul_lt_mul_right e6 (Int.le_of_lt hb)
theorem fr_te {a b x y u v : Int} (hb : 0 < b) (hy : 0 < y) (hv : 0 < v) (h1 : x * b ≤ a * y) (h2 : a * v = u * b) : x * v ≤ u * y := by
  have e1 : x * b * v ≤ a * y * v := Int.mul_le_mul_of_nonneg_right h1 (Int.le_of_lt hv)
  have e2 : a * v * y = u * b * y := by rw [h2]
  have e3 : a * y * v = a * v * y := Int.mul_right_comm a y v
  have e4 : x * b * v = x * v * b := Int.mul_right_comm x b v
  have e5 : u * b * y = u * y * b := Int.mul_right_comm u b y
  have e6 : x * v * b ≤ u * y * b := by
    rw [← e4, ← e5]
    omega
  exact Int.le_of_mul_le_mul_right e6 hb
def zBe (C : Int → Int → Int → Prop) (h a b : Int) : Prop := (h = -1 ∧ ∀ p x y, ¬ C p x y) ∨ (0 ≤ h ∧ 0 < b ∧ C h a b ∧ ∀ p x y, C p x y → x * b < a * y ∨ (x * b = a * y ∧ h ≤ p))
theorem zBe_un {C D : Int → Int → Int → Prop} {h a b k c d : Int} (h1 : zBe C h a b) (h2 : zBe D k c d) (e : ∀ p x y, C p x y ↔ D p x y) : h = k := by
  rcases h1 with ⟨g1, g2⟩ | ⟨g0, g1, g2, g3⟩
  · rcases h2 with ⟨j1, j2⟩ | ⟨j0, j1, j2, j3⟩
    · omega
    · exact absurd ((e _ _ _).mpr j2) (g2 _ _ _)
  · rcases h2 with ⟨j1, j2⟩ | ⟨j0, j1, j2, j3⟩
    · exact absurd ((e _ _ _).mp g2) (j2 _ _ _)
    · have r1 := g3 _ _ _ ((e _ _ _).mpr j2)
      have r2 := j3 _ _ _ ((e _ _ _).mp g2)
      omega
/-- one more candidate -/
theorem zBe_o {C D : Int → Int → Int → Prop} {h a b h2 a2 b2 p u v m : Int} (h1 : zBe C h a b) (hD : ∀ q x y, D q x y ↔ C q x y ∨ (q = p ∧ x = u ∧ y = v)) (hv : 0 < v) (hp : 0 ≤ p) (hC : ∀ q x y, C q x y → 0 < y) (hm : (h = -1 ∧ m = 1) ∨ (h ≠ -1 ∧ m = u * b - a * v)) (hr : ((0 < m ∨ (m = 0 ∧ p < h)) ∧ h2 = p ∧ a2 = u ∧ b2 = v) ∨ ((m < 0 ∨ (m = 0 ∧ h ≤ p)) ∧ h2 = h ∧ a2 = a ∧ b2 = b)) : zBe D h2 a2 b2 := by
  have hself : D p u v := (hD _ _ _).mpr (Or.inr ⟨rfl, rfl, rfl⟩)
  right
  rcases h1 with ⟨g1, g2⟩ | ⟨g0, g1, g2, g3⟩
  · have e : h2 = p ∧ a2 = u ∧ b2 = v := by omega
    obtain ⟨rfl, rfl, rfl⟩ := e
    refine ⟨hp, hv, hself, fun q x y hq => ?_⟩
    rcases (hD _ _ _).mp hq with hq | ⟨rfl, rfl, rfl⟩
    · exact absurd hq (g2 _ _ _)
    · exact Or.inr ⟨rfl, Int.le_refl _⟩
  · rcases hr with ⟨r1, rfl, rfl, rfl⟩ | ⟨r1, rfl, rfl, rfl⟩
    · refine ⟨hp, hv, hself, fun q x y hq => ?_⟩
      rcases (hD _ _ _).mp hq with hq | ⟨rfl, rfl, rfl⟩
      · have hy := hC _ _ _ hq
        rcases g3 _ _ _ hq with k | ⟨k, k2⟩
        · by_cases c : m = 0
          · left
            have e : a * b2 = a2 * b := by omega
            -- below at once, for the old best is as great as the new one
            have z : x * b < a * y := k
            have e1 : x * b * b2 < a * y * b2 := Int.mul_lt_mul_of_pos_right z hv
            have e2 : a * y * b2 = a2 * y * b := by rw [Int.mul_right_comm a y b2, e, Int.mul_right_comm a2 b y]
            have e3 : x * b * b2 = x * b2 * b := Int.mul_right_comm x b b2
            exact Int.lt_of_mul_lt_mul_right (by rw [← e3, ← e2]; exact e1) (Int.le_of_lt g1)
          · left
            exact fr_tr g1 hy hv (Int.le_of_lt k) (by omega)
        · by_cases c : m = 0
          · right
            have e : a * b2 = a2 * b := by omega
            have e2 : x * b2 * b = a2 * y * b := by rw [Int.mul_right_comm x b2 b, k, Int.mul_right_comm a y b2, e, Int.mul_right_comm a2 b y]
            refine ⟨Int.eq_of_mul_eq_mul_right (by omega) e2, by omega⟩
          · left
            exact fr_tr g1 hy hv (Int.le_of_eq k) (by omega)
      · exact Or.inr ⟨rfl, Int.le_refl _⟩
    · refine ⟨g0, g1, (hD _ _ _).mpr (Or.inl g2), fun q x y hq => ?_⟩
      rcases (hD _ _ _).mp hq with hq | ⟨rfl, rfl, rfl⟩
      · exact g3 _ _ _ hq
      · rcases r1 with r1 | ⟨r1, r2⟩
        · left
          omega
        · right
          omega
theorem zBe_cg {C D : Int → Int → Int → Prop} {h a b : Int} (h1 : zBe C h a b) (e : ∀ p x y, D p x y ↔ C p x y) : zBe D h a b := by
  rcases h1 with ⟨g1, g2⟩ | ⟨g0, g1, g2, g3⟩
  · exact Or.inl ⟨g1, fun p x y z => g2 p x y ((e _ _ _).mp z)⟩
  · exact Or.inr ⟨g0, g1, (e _ _ _).mpr g2, fun p x y z => g3 p x y ((e _ _ _).mp z)⟩
/-! numbers at ends of years: y bounds the years looked at -/
def srt (Y : Nat → Int) (n : Nat) : Prop := ∀ i j : Nat, i ≤ j → j < n → Y i ≤ Y j
def kcy (Y : Nat → Int) (y : Int) : Nat → Nat
  | 0 => 0
  | n + 1 => if Y n ≤ y then n + 1 else kcy Y y n
theorem kcy_c (Y : Nat → Int) (y : Int) (n : Nat) : (∀ i, kcy Y y n ≤ i → i < n → y < Y i) ∧ kcy Y y n ≤ n ∧ (kcy Y y n = 0 ∨ Y (kcy Y y n - 1) ≤ y) := by
  induction n with
  | zero => exact ⟨fun i _ h => absurd h (Nat.not_lt_zero i), Nat.le_refl 0, Or.inl rfl⟩
  | succ n ih =>
    obtain ⟨h1, h2, h3⟩ := ih
    have e : kcy Y y (n + 1) = if Y n ≤ y then n + 1 else kcy Y y n := rfl
    by_cases hc : Y n ≤ y
    · rw [if_pos hc] at e
      rw [e]
      exact ⟨fun i hi hj => by omega, Nat.le_refl _, Or.inr hc⟩
    · rw [if_neg hc] at e
      rw [e]
      refine ⟨fun i hi hj => ?_, by omega, h3⟩
      by_cases q : i = n
      · rw [q]
        omega
      · exact h1 i hi (by omega)
theorem kcy_u {Y : Nat → Int} {y : Int} {n k : Nat} (hs : srt Y n) (hk : k ≤ n) (h1 : ∀ i, i < k → Y i ≤ y) (h2 : n ≤ k ∨ y < Y k) : k = kcy Y y n := by
  obtain ⟨c1, c2, c3⟩ := kcy_c Y y n
  by_cases a : kcy Y y n < k
  · have := c1 _ (Nat.le_refl _) (by omega)
    have := h1 _ a
    omega
  · by_cases b : k < kcy Y y n
    · have z1 := hs k (kcy Y y n - 1) (by omega) (by omega)
      rcases c3 with c3 | c3
      · omega
      · rcases h2 with h2 | h2 <;> omega
    · omega
/-- the end of a year, told by the meetings -/
theorem kcy_e {Y : Nat → Int} {n e : Nat} (hs : srt Y n) (he : e < n) (h : n ≤ e + 1 ∨ Y (e + 1) ≠ Y e) : e + 1 = kcy Y (Y e) n := by
  refine kcy_u hs he (fun i hi => hs i e (by omega) he) ?_
  rcases h with h | h
  · exact Or.inl h
  · by_cases c : n ≤ e + 1
    · exact Or.inl c
    · have := hs e (e + 1) (by omega) (by omega)
      exact Or.inr (by omega)
/-- the class's bits of a year: those of the meetings told since the last end -/
theorem hmc_y {Y A B : Nat → Int} {p : Int} {n i : Nat} (hs : srt Y n) (hi : i < n) (hc : i = 0 ∨ Y i ≠ Y (i - 1)) : hmc Y A B p (Y i) i = 0 := by
  have t : ∀ k, k ≤ i → hmc Y A B p (Y i) k = 0 := by
    intro k
    induction k with
    | zero => exact fun _ => rfl
    | succ k ih =>
      intro hk
      have := hmc_s Y A B p (Y i) (n := k) rfl
      have z := hs k (i - 1) (by omega) (by omega)
      have z2 := hs (i - 1) i (by omega) hi
      have := ih (by omega)
      omega
  exact t i (Nat.le_refl i)
theorem hmc_m {Y A B : Nat → Int} {p y : Int} {n e : Nat} (hs : srt Y n) (he : e < n) (hy : y = Y e) (h : n ≤ e + 1 ∨ Y (e + 1) ≠ Y e) : hmc Y A B p y n = hmc Y A B p y (e + 1) := by
  subst hy
  have t : ∀ k, e + 1 ≤ k → k ≤ n → hmc Y A B p (Y e) k = hmc Y A B p (Y e) (e + 1) := by
    intro k hk
    induction hk with
    | refl => exact fun _ => rfl
    | step hk ih =>
      rename_i k
      intro hn
      have hk : e + 1 ≤ k := hk
      have hn : k + 1 ≤ n := hn
      have i1 := ih (by omega)
      have h3 := hmc_s Y A B p (Y e) (n := k) rfl
      have h4 := hmc_01 Y A B p (Y e) (e + 1)
      have z1 := hs (e + 1) k hk (by omega)
      have z2 := hs e (e + 1) (by omega) (by omega)
      have z3 : Y (e + 1) ≠ Y e := by
        rcases h with h | h
        · omega
        · exact h
      show hmc Y A B p (Y e) (k + 1) = hmc Y A B p (Y e) (e + 1)
      omega
  exact t n (by omega) (Nat.le_refl n)
/-- his numbers at the ends of his years below y, the last one first -/
noncomputable def lsp (M : Nat → Prop) (N : Nat → Int) : Nat → List Int
  | 0 => []
  | y + 1 => @ite _ (M y) (Classical.propDecidable _) (N y :: lsp M N y) (lsp M N y)
theorem lsp_y {M : Nat → Prop} {N : Nat → Int} {y k : Nat} (hk : k = y + 1) (h : M y) : lsp M N k = N y :: lsp M N y := by
  subst hk
  exact if_pos h
theorem lsp_n {M : Nat → Prop} {N : Nat → Int} {y k : Nat} (hk : k = y + 1) (h : ¬ M y) : lsp M N k = lsp M N y := by
  subst hk
  exact if_neg h
theorem lsp_cg {M : Nat → Prop} {N : Nat → Int} {a b : Nat} (hab : a ≤ b) (h : ∀ y, a ≤ y → y < b → ¬ M y) : lsp M N b = lsp M N a := by
  induction hab with
  | refl => rfl
  | step hk ih =>
    rename_i k
    rw [lsp_n rfl (h k hk (by omega))]
    exact ih (fun y h1 h2 => h y h1 (by omega))
/-! candidates by years -/
section CDG
variable {M : Int → Nat → Prop} {V : Int → Nat → Int → Int → Prop} {P : Int}
def cdg (M : Int → Nat → Prop) (V : Int → Nat → Int → Int → Prop) (P : Int) (yb : Nat) (p x d : Int) : Prop := 0 ≤ p ∧ p < P ∧ ∃ y : Nat, y < yb ∧ M p y ∧ V p y x d
def cdl (M : Int → Nat → Prop) (V : Int → Nat → Int → Int → Prop) (P : Int) (y : Nat) (l p x d : Int) : Prop := 0 ≤ p ∧ p < P ∧ ∃ z : Nat, M p z ∧ V p z x d ∧ (z < y ∨ (z = y ∧ p < l))
theorem cdl_0 {y : Nat} (p x d : Int) : cdl M V P y 0 p x d ↔ cdg M V P y p x d := by
  constructor
  · rintro ⟨h0, h1, z, h2, h3, h4⟩
    rcases h4 with h4 | ⟨_, h4⟩
    · exact ⟨h0, h1, z, h4, h2, h3⟩
    · omega
  · rintro ⟨h0, h1, z, h4, h2, h3⟩
    exact ⟨h0, h1, z, h2, h3, Or.inl h4⟩
theorem cdl_P {y : Nat} {l : Int} (hl : P ≤ l) (p x d : Int) : cdg M V P (y + 1) p x d ↔ cdl M V P y l p x d := by
  constructor
  · rintro ⟨h0, h1, z, h4, h2, h3⟩
    exact ⟨h0, h1, z, h2, h3, by omega⟩
  · rintro ⟨h0, h1, z, h2, h3, h4⟩
    exact ⟨h0, h1, z, by omega, h2, h3⟩
theorem cdl_n {y : Nat} {l k : Int} (hk : k = l + 1) (h : ∀ x d, M l y → ¬ V l y x d) (p x d : Int) : cdl M V P y k p x d ↔ cdl M V P y l p x d := by
  subst hk
  constructor
  · rintro ⟨h0, h1, z, h2, h3, h4⟩
    refine ⟨h0, h1, z, h2, h3, ?_⟩
    by_cases c : z = y ∧ p = l
    · obtain ⟨rfl, rfl⟩ := c
      exact absurd h3 (h x d h2)
    · omega
  · rintro ⟨h0, h1, z, h2, h3, h4⟩
    exact ⟨h0, h1, z, h2, h3, by omega⟩
theorem cdl_y {y : Nat} {l k u v : Int} (hk : k = l + 1) (hl : 0 ≤ l ∧ l < P) (hM : M l y) (hV : ∀ x d, V l y x d ↔ x = u ∧ d = v) (p x d : Int) : cdl M V P y k p x d ↔ cdl M V P y l p x d ∨ (p = l ∧ x = u ∧ d = v) := by
  subst hk
  constructor
  · rintro ⟨h0, h1, z, h2, h3, h4⟩
    by_cases c : z = y ∧ p = l
    · obtain ⟨rfl, rfl⟩ := c
      exact Or.inr ⟨rfl, (hV x d).mp h3⟩
    · exact Or.inl ⟨h0, h1, z, h2, h3, by omega⟩
  · rintro (⟨h0, h1, z, h2, h3, h4⟩ | ⟨rfl, h2⟩)
    · exact ⟨h0, h1, z, h2, h3, by omega⟩
    · exact ⟨hl.1, hl.2, y, hM, (hV x d).mpr h2, by omega⟩
theorem cdg_cg {a b : Nat} (hab : a ≤ b) (h : ∀ p y, a ≤ y → y < b → ¬ M p y) (p x d : Int) : cdg M V P b p x d ↔ cdg M V P a p x d := by
  constructor
  · rintro ⟨h0, h1, z, h4, h2, h3⟩
    refine ⟨h0, h1, z, ?_, h2, h3⟩
    by_cases c : z < a
    · exact c
    · exact absurd h2 (h p z (by omega) h4)
  · rintro ⟨h0, h1, z, h4, h2, h3⟩
    exact ⟨h0, h1, z, by omega, h2, h3⟩
end CDG
/-! the least of the first k of a list, whatever the order of looking -/
def zMi (l : List Int) (k : Nat) (x : Int) : Prop := (∀ j, j < k → x ≤ l.getD j 0) ∧ ∃ j, j < k ∧ x = l.getD j 0
theorem zMi_un {l : List Int} {k : Nat} {x y : Int} (h : zMi l k x) (g : zMi l k y) : x = y := by
  obtain ⟨h1, i, h2, h3⟩ := h
  obtain ⟨g1, j, g2, g3⟩ := g
  have a := h1 j g2
  have b := g1 i h2
  omega
theorem zMi_1 {l : List Int} {x : Int} (h : x = l.getD 0 0) : zMi l 1 x := ⟨fun j hj => by rw [show j = 0 by omega, h]; exact Int.le_refl _, 0, by omega, h⟩
theorem zMi_s {l : List Int} {k n : Nat} {x y v : Int} (h : zMi l k x) (hv : v = l.getD k 0) (hn : n = k + 1) (hy : (y = x ∨ y = v) ∧ y ≤ x ∧ y ≤ v) : zMi l n y := by
  obtain ⟨h1, i, h2, h3⟩ := h
  subst hn
  refine ⟨fun j hj => ?_, ?_⟩
  · by_cases e : j = k
    · rw [e, ← hv]
      exact hy.2.2
    · have := h1 j (by omega)
      omega
  · rcases hy.1 with e | e
    · exact ⟨i, by omega, by rw [e, h3]⟩
    · exact ⟨k, by omega, by rw [e, hv]⟩
/-! the class's ring of the last nine -/
def rgo (f : Nat → Int) (c p : Int) (l : List Int) : Prop := c = l.length ∧ ∀ j : Nat, j < 9 → j < l.length → f (p * 9 + (c - 1 - j) % 9).toNat = l.getD j 0
theorem rgo_0 {f : Nat → Int} {p : Int} : rgo f 0 p [] := ⟨rfl, fun j _ h => absurd h (Nat.not_lt_zero j)⟩
theorem rgo_s {f g : Nat → Int} {c c1 p v : Int} {l : List Int} (h : rgo f c p l) (hg : g = zPt f (p * 9 + c % 9).toNat v) (h1 : 0 ≤ p ∧ c1 = c + 1) : rgo g c1 p (v :: l) := by
  obtain ⟨h2, h3⟩ := h
  obtain ⟨h4, rfl⟩ := h1
  refine ⟨by rw [h2]; rfl, fun j hj hl => ?_⟩
  have hl : j < l.length + 1 := hl
  rw [hg]
  cases j with
  | zero =>
    rw [show (p * 9 + (c + 1 - 1 - ((0 : Nat) : Int)) % 9).toNat = (p * 9 + c % 9).toNat by rw [show c + 1 - 1 - ((0 : Nat) : Int) = c by omega], zPt_eq]
    rfl
  | succ j =>
    have e : (c + 1 - 1 - ((j + 1 : Nat) : Int)) = c - 1 - (j : Int) := by omega
    rw [e, zPt_ne (by omega)]
    exact h3 j (by omega) (by omega)
theorem rgo_n {f g : Nat → Int} {c d p q v : Int} {l : List Int} (h : rgo f c p l) (hg : g = zPt f (q * 9 + d % 9).toNat v) (h1 : 0 ≤ p ∧ 0 ≤ q ∧ p ≠ q) : rgo g c p l := by
  obtain ⟨h2, h3⟩ := h
  refine ⟨h2, fun j hj hl => ?_⟩
  rw [hg, zPt_ne (by omega)]
  exact h3 j hj hl
/-! sums over players -/
def smp (f g : Nat → Int) : Nat → Int
  | 0 => 0
  | n + 1 => smp f g n + (if f n = 1 then g n else 0)
theorem smp_y {f g : Nat → Int} {n k : Nat} (hk : k = n + 1) (h : f n = 1) : smp f g k = smp f g n + g n := by
  subst hk
  show smp f g n + (if f n = 1 then g n else 0) = _
  rw [if_pos h]
theorem smp_n {f g : Nat → Int} {n k : Nat} (hk : k = n + 1) (h : f n ≠ 1) : smp f g k = smp f g n := by
  subst hk
  show smp f g n + (if f n = 1 then g n else 0) = _
  rw [if_neg h, Int.add_zero]
theorem smp_cg {f g f' g' : Nat → Int} {n : Nat} (hf : ∀ i, i < n → (f' i = 1 ↔ f i = 1)) (hg : ∀ i, i < n → f i = 1 → g' i = g i) : smp f' g' n = smp f g n := by
  induction n with
  | zero => rfl
  | succ n ih =>
    have i1 := ih (fun i hi => hf i (by omega)) (fun i hi => hg i (by omega))
    by_cases c : f n = 1
    · rw [smp_y rfl c, smp_y rfl ((hf n (by omega)).mpr c), i1, hg n (by omega) c]
    · rw [smp_n rfl c, smp_n rfl (fun z => c ((hf n (by omega)).mp z)), i1]
theorem smp_le {f g : Nat → Int} {a b : Nat} (hab : a ≤ b) (h : ∀ i, a ≤ i → i < b → f i ≠ 1) : smp f g b = smp f g a := by
  induction hab with
  | refl => rfl
  | step hk ih =>
    rename_i k
    rw [smp_n rfl (h k hk (by omega))]
    exact ih (fun i h1 h2 => h i h1 (by omega))
theorem smp_b {f g : Nat → Int} {n : Nat} (h : ∀ i, i < n → -100000 ≤ g i ∧ g i ≤ 100000) : -(100000 * (n : Int)) ≤ smp f g n ∧ smp f g n ≤ 100000 * (n : Int) := by
  induction n with
  | zero => exact ⟨by show -(100000 * ((0 : Nat) : Int)) ≤ 0; omega, by show (0 : Int) ≤ 100000 * ((0 : Nat) : Int); omega⟩
  | succ n ih =>
    have i1 := ih (fun i hi => h i (by omega))
    have i2 := h n (by omega)
    by_cases c : f n = 1
    · rw [smp_y rfl c]
      omega
    · rw [smp_n rfl c]
      omega
theorem smp_c (f : Nat → Int) (n : Nat) : 0 ≤ smp f (fun _ => 1) n ∧ smp f (fun _ => 1) n ≤ (n : Int) ∧ ∀ i, i < n → f i = 1 → 1 ≤ smp f (fun _ => 1) n := by
  induction n with
  | zero => exact ⟨Int.le_refl 0, by show (0 : Int) ≤ ((0 : Nat) : Int); omega, fun i h => absurd h (Nat.not_lt_zero i)⟩
  | succ n ih =>
    obtain ⟨i1, i2, i3⟩ := ih
    by_cases c : f n = 1
    · rw [smp_y rfl c]
      exact ⟨by omega, by omega, fun i _ _ => by omega⟩
    · rw [smp_n rfl c]
      refine ⟨by omega, by omega, fun i hi hf => ?_⟩
      by_cases e : i = n
      · rw [e] at hf
        exact absurd hf c
      · exact i3 i (by omega) hf
/-- one more player, as the loops have it -/
theorem smp_st {f g : Nat → Int} {i i1 s s1 x b : Int} (h : s = smp f g i.toNat) (hb : b = f i.toNat) (hi : 0 ≤ i ∧ i1 = i + 1) (hx : (b = 1 ∧ x = g i.toNat ∧ s1 = s + x) ∨ (b ≠ 1 ∧ s1 = s)) : s1 = smp f g i1.toNat := by
  rcases hx with ⟨h1, h2, h3⟩ | ⟨h1, h2⟩
  · rw [smp_y (n := i.toNat) (by omega) (by omega), ← h, h3, h2]
  · rw [smp_n (n := i.toNat) (by omega) (by omega), ← h, h2]
/-! numbers behind so many meetings, from the start -/
noncomputable def nbr (ch A B E Y G : Nat → Int) (v : Int) (k : Nat) : Nat → Int := (pln (pst ch A B E Y G) (fun _ => 1) ((fun _ => v), (fun _ => 0), (fun _ => 0)) k).1
section NBR
variable {ch A B E Y G A' B' E' Y' G' : Nat → Int} {v w n n' : Int} {R S : zPS}
theorem nbr_k (h' : zRn (psr ch A' B' E' Y' G') (fun _ => 1) w R n') (e : v = w ∧ n' = n) (hA : ∀ i : Nat, (i : Int) < n → A' i = A i) (hB : ∀ i : Nat, (i : Int) < n → B' i = B i) (hE : ∀ i : Nat, (i : Int) < n → E' i = E i) (hY : ∀ i : Nat, (i : Int) < n → Y' i = Y i) (hG : ∀ i : Nat, (i : Int) < n → G' i = G i) (bA : ∀ i : Nat, (i : Int) < n → 0 ≤ A i ∧ A i < 10) (bB : ∀ i : Nat, (i : Int) < n → 0 ≤ B i ∧ B i < 10) (bY : ∀ i : Nat, (i : Int) < n → 0 ≤ Y i) (p : Nat) (hp : p < 10) : nbr ch A B E Y G v n.toNat p = R.1 p := by
  have h : zSn (pst ch A B E Y G) (fun _ => 1) v (pln (pst ch A B E Y G) (fun _ => 1) ((fun _ => v), (fun _ => 0), (fun _ => 0)) n.toNat) n := ⟨((fun _ => v), (fun _ => 0), (fun _ => 0)), fun _ _ => ⟨rfl, rfl, rfl⟩, rfl⟩
  exact (zSn_k h h' e hA hB hE hY hG (fun _ _ => rfl) bA bB bY p hp).1
theorem nbr_c (h : zSn (pst ch A B E Y G) (fun _ => 1) v S n) (bA : ∀ i : Nat, (i : Int) < n → 0 ≤ A i ∧ A i < 10) (bB : ∀ i : Nat, (i : Int) < n → 0 ≤ B i ∧ B i < 10) (bY : ∀ i : Nat, (i : Int) < n → 0 ≤ Y i) (p : Nat) (hp : p < 10) : S.1 p = nbr ch A B E Y G v n.toNat p := by
  have hR : zRn (psr ch A B E Y G) (fun _ => 1) v (pln (psr ch A B E Y G) (fun _ => 1) ((fun _ => v), (fun _ => 0), (fun _ => -1)) n.toNat) n := ⟨((fun _ => v), (fun _ => 0), (fun _ => -1)), fun _ _ => ⟨rfl, rfl, rfl⟩, rfl⟩
  have k1 := (zSn_k h hR ⟨rfl, rfl⟩ (fun _ _ => rfl) (fun _ _ => rfl) (fun _ _ => rfl) (fun _ _ => rfl) (fun _ _ => rfl) (fun _ _ => rfl) bA bB bY p hp).1
  have k2 := nbr_k hR ⟨rfl, rfl⟩ (fun _ _ => rfl) (fun _ _ => rfl) (fun _ _ => rfl) (fun _ _ => rfl) (fun _ _ => rfl) bA bB bY p hp
  rw [k1, k2]
theorem nbr_cg {k : Nat} (hA : ∀ i : Nat, (i : Int) < k → A' i = A i) (hB : ∀ i : Nat, (i : Int) < k → B' i = B i) (hE : ∀ i : Nat, (i : Int) < k → E' i = E i) (hY : ∀ i : Nat, (i : Int) < k → Y' i = Y i) (hG : ∀ i : Nat, (i : Int) < k → G' i = G i) (bA : ∀ i : Nat, (i : Int) < k → 0 ≤ A i ∧ A i < 10) (bB : ∀ i : Nat, (i : Int) < k → 0 ≤ B i ∧ B i < 10) (bY : ∀ i : Nat, (i : Int) < k → 0 ≤ Y i) (p : Nat) (hp : p < 10) : nbr ch A' B' E' Y' G' v k p = nbr ch A B E Y G v k p := by
  have hR : zRn (psr ch A' B' E' Y' G') (fun _ => 1) v (pln (psr ch A' B' E' Y' G') (fun _ => 1) ((fun _ => v), (fun _ => 0), (fun _ => -1)) (k : Int).toNat) (k : Int) := ⟨((fun _ => v), (fun _ => 0), (fun _ => -1)), fun _ _ => ⟨rfl, rfl, rfl⟩, rfl⟩
  have k1 := nbr_k (v := v) hR ⟨rfl, rfl⟩ hA hB hE hY hG bA bB bY p hp
  have k2 := nbr_k (v := v) hR ⟨rfl, rfl⟩ (fun _ _ => rfl) (fun _ _ => rfl) (fun _ _ => rfl) (fun _ _ => rfl) (fun _ _ => rfl) (fun i hi => by rw [hA i hi]; exact bA i hi) (fun i hi => by rw [hB i hi]; exact bB i hi) (fun i hi => by rw [hY i hi]; exact bY i hi) p hp
  have e : (k : Int).toNat = k := rfl
  rw [e] at k1 k2
  rw [k1, k2]
/-- the reference's numbers at the end of a year -/
theorem zGt_n {g y : Int} (h : zGt (psr ch A B E Y G) v Y y g S) (hs : srt Y g.toNat) (hg : 0 ≤ g ∧ g ≤ 60) (bA : ∀ i : Nat, (i : Int) < g → 0 ≤ A i ∧ A i < 10) (bB : ∀ i : Nat, (i : Int) < g → 0 ≤ B i ∧ B i < 10) (bY : ∀ i : Nat, (i : Int) < g → 0 ≤ Y i) (p : Nat) (hp : p < 10) : S.1 p = nbr ch A B E Y G v (kcy Y y g.toNat) p ∧ -100000 ≤ S.1 p ∧ S.1 p ≤ 100000 := by
  obtain ⟨k, k0, k1, h1, h2, h3, h4⟩ := h
  have e : k.toNat = kcy Y y g.toNat := by
    refine kcy_u hs (by omega) (fun i hi => h2 i (by omega)) ?_
    rcases h3 with h3 | h3
    · exact Or.inl (by omega)
    · exact Or.inr h3
  have b := (h4 p hp).1
  refine ⟨?_, by omega, by omega⟩
  rw [← e]
  exact (nbr_k h1 ⟨rfl, rfl⟩ (fun _ _ => rfl) (fun _ _ => rfl) (fun _ _ => rfl) (fun _ _ => rfl) (fun _ _ => rfl) (fun i hi => bA i (by omega)) (fun i hi => bB i (by omega)) (fun i hi => bY i (by omega)) p hp).symm
end NBR
theorem kcy_cg {Y Y' : Nat → Int} {y : Int} {n : Nat} (h : ∀ i, i < n → Y' i = Y i) : kcy Y' y n = kcy Y y n := by
  induction n with
  | zero => rfl
  | succ n ih =>
    show (if Y' n ≤ y then n + 1 else kcy Y' y n) = (if Y n ≤ y then n + 1 else kcy Y y n)
    rw [h n (by omega), ih (fun i hi => h i (by omega))]
/-! candidates by a question -/
def bcv (q k : Int) (P : Nat) (M N : Nat → Nat → Int) (p y : Nat) (x d : Int) : Prop :=
  (q = 2 ∧ d = smp (fun o => M o y) (fun _ => 1) P ∧ x = N p y * d - smp (fun o => M o y) (fun o => N o y) P) ∨ (q ≠ 2 ∧ d = 1 ∧ ∃ j : Nat, ((q = 0 ∧ j = 1) ∨ (q ≠ 0 ∧ (j : Int) = k)) ∧ j ≤ (lsp (fun z => M p z = 1) (N p) (y + 1)).length ∧ zMi (lsp (fun z => M p z = 1) (N p) (y + 1)) j x)
def bM (M : Nat → Nat → Int) : Int → Nat → Prop := fun p y => M p.toNat y = 1
def bV (q k : Int) (P : Nat) (M N : Nat → Nat → Int) : Int → Nat → Int → Int → Prop := fun p y x d => bcv q k P M N p.toNat y x d
/-- the best of all -/
def bBe (q k : Int) (P : Nat) (M N : Nat → Nat → Int) (yb : Nat) (h a b : Int) : Prop := zBe (cdg (bM M) (bV q k P M N) (P : Int) yb) h a b
theorem bcv_p {q k : Int} {P : Nat} {M N : Nat → Nat → Int} {p y : Nat} {x d : Int} (h : bcv q k P M N p y x d) (hp : p < P) (hM : M p y = 1) : 0 < d := by
  rcases h with ⟨_, h, _⟩ | ⟨_, h, _⟩
  · have := (smp_c (fun o => M o y) P).2.2 p hp hM
    omega
  · omega
theorem lsp_c2 {M M' : Nat → Prop} {N N' : Nat → Int} (y : Nat) (hM : ∀ z, z < y → (M' z ↔ M z)) (hN : ∀ z, z < y → M z → N' z = N z) : lsp M' N' y = lsp M N y := by
  induction y with
  | zero => rfl
  | succ y ih =>
    have i1 := ih (fun z hz => hM z (by omega)) (fun z hz => hN z (by omega))
    by_cases c : M y
    · rw [lsp_y rfl c, lsp_y rfl ((hM y (by omega)).mpr c), i1, hN y (by omega) c]
    · rw [lsp_n rfl c, lsp_n rfl (fun z => c ((hM y (by omega)).mp z)), i1]
theorem bcv_cg {q k : Int} {P : Nat} {M N M' N' : Nat → Nat → Int} {p y : Nat} {x d : Int} (hp : p < P) (hM : ∀ o z, o < P → z ≤ y → M' o z = M o z) (hN : ∀ o z, o < P → z ≤ y → M o z = 1 → N' o z = N o z) (hm : M p y = 1) (h : bcv q k P M N p y x d) : bcv q k P M' N' p y x d := by
  have e1 : ∀ g g' : Nat → Int, (∀ o, o < P → M o y = 1 → g' o = g o) → smp (fun o => M' o y) g' P = smp (fun o => M o y) g P := fun g g' hg => smp_cg (fun o ho => by rw [hM o y ho (Nat.le_refl y)]) hg
  rcases h with ⟨h1, h2, h3⟩ | ⟨h1, h2, h3⟩
  · refine Or.inl ⟨h1, ?_, ?_⟩
    · rw [e1 (fun _ => 1) (fun _ => 1) (fun _ _ _ => rfl)]
      exact h2
    · rw [e1 (fun o => N o y) (fun o => N' o y) (fun o ho hmo => hN o y ho (Nat.le_refl y) hmo), hN p y hp (Nat.le_refl y) hm]
      exact h3
  · refine Or.inr ⟨h1, h2, ?_⟩
    rw [lsp_c2 (M := fun z => M p z = 1) (M' := fun z => M' p z = 1) (N := N p) (N' := N' p) (y + 1) (fun z hz => by rw [hM p z hp (by omega)]) (fun z hz hmz => hN p z hp (by omega) hmz)]
    exact h3
theorem bBe_cg {q k : Int} {P yb : Nat} {M N M' N' : Nat → Nat → Int} {h a b : Int} (g : bBe q k P M N yb h a b) (hM : ∀ o z, o < P → M' o z = M o z) (hN : ∀ o z, o < P → M o z = 1 → N' o z = N o z) : bBe q k P M' N' yb h a b := by
  refine zBe_cg g (fun p x d => ?_)
  constructor
  · rintro ⟨h0, h1, y, h2, h3, h4⟩
    have h3 : M' p.toNat y = 1 := h3
    have h5 : M p.toNat y = 1 := by
      rw [← hM p.toNat y (by omega)]
      exact h3
    exact ⟨h0, h1, y, h2, h5, bcv_cg (M := M') (N := N') (by omega) (fun o z ho _ => (hM o z ho).symm) (fun o z ho _ hm => (hN o z ho (by rw [← hM o z ho]; exact hm)).symm) h3 h4⟩
  · rintro ⟨h0, h1, y, h2, h3, h4⟩
    have h3 : M p.toNat y = 1 := h3
    have h5 : M' p.toNat y = 1 := by
      rw [hM p.toNat y (by omega)]
      exact h3
    exact ⟨h0, h1, y, h2, h5, bcv_cg (M := M) (N := N) (by omega) (fun o z ho _ => hM o z ho) (fun o z ho _ hm => hN o z ho hm) h3 h4⟩
/-! one offer -/
def zOf (h a b p u v h2 a2 b2 : Int) : Prop := ∃ m, ((h = -1 ∧ m = 1) ∨ (h ≠ -1 ∧ m = u * b - a * v)) ∧ (((0 < m ∨ (m = 0 ∧ p < h)) ∧ h2 = p ∧ a2 = u ∧ b2 = v) ∨ ((m < 0 ∨ (m = 0 ∧ h ≤ p)) ∧ h2 = h ∧ a2 = a ∧ b2 = b))
theorem zOf_1 {h a b p u v h2 a2 b2 : Int} (e : h = -1 ∧ h2 = p ∧ a2 = u ∧ b2 = v) : zOf h a b p u v h2 a2 b2 := ⟨1, Or.inl ⟨e.1, rfl⟩, Or.inl ⟨Or.inl (by decide), e.2⟩⟩
theorem zOf_m {h a b p u v h2 a2 b2 x y : Int} (hx : x = u * b) (hy : y = a * v) (e : h ≠ -1 ∧ (((0 < x - y ∨ (x - y = 0 ∧ p < h)) ∧ h2 = p ∧ a2 = u ∧ b2 = v) ∨ ((x - y < 0 ∨ (x - y = 0 ∧ h ≤ p)) ∧ h2 = h ∧ a2 = a ∧ b2 = b))) : zOf h a b p u v h2 a2 b2 := ⟨x - y, Or.inr ⟨e.1, by rw [hx, hy]⟩, e.2⟩
/-- one more candidate by an offer -/
theorem zBe_of {C D : Int → Int → Int → Prop} {h a b p u v h2 a2 b2 : Int} (h1 : zBe C h a b) (ho : zOf h a b p u v h2 a2 b2) (hD : ∀ q x y, D q x y ↔ C q x y ∨ (q = p ∧ x = u ∧ y = v)) (hv : 0 < v) (hp : 0 ≤ p) (hC : ∀ q x y, C q x y → 0 < y) : zBe D h2 a2 b2 := by
  obtain ⟨m, hm, hr⟩ := ho
  exact zBe_o h1 hD hv hp hC hm hr
/-! the class's ring: the least of the last k -/
def rgm (f : Nat → Int) (p c k x : Int) : Prop := (∀ j : Int, 1 ≤ j → j ≤ k → x ≤ f (p * 9 + (c - j) % 9).toNat) ∧ ∃ j : Int, 1 ≤ j ∧ j ≤ k ∧ x = f (p * 9 + (c - j) % 9).toNat
theorem rgm_1 {f : Nat → Int} {p c k x : Int} (h : x = f (p * 9 + (c - 1) % 9).toNat) (hk : k = 1) : rgm f p c k x := by
  subst hk
  refine ⟨fun j h1 h2 => ?_, 1, by omega, by omega, h⟩
  rw [show j = 1 by omega, h]
  exact Int.le_refl _
theorem rgm_s {f : Nat → Int} {p c k k1 x v y : Int} (h : rgm f p c k x) (hv : v = f (p * 9 + (c - k1) % 9).toNat) (hk : k1 = k + 1 ∧ 0 ≤ k) (hy : y ≤ x ∧ y ≤ v ∧ (y = x ∨ y = v)) : rgm f p c k1 y := by
  obtain ⟨h1, j, h2, h3, h4⟩ := h
  refine ⟨fun i hi hj => ?_, ?_⟩
  · by_cases e : i = k1
    · rw [e, ← hv]
      exact hy.2.1
    · have := h1 i hi (by omega)
      omega
  · rcases hy.2.2 with e | e
    · exact ⟨j, h2, by omega, by rw [e, h4]⟩
    · exact ⟨k1, by omega, by omega, by rw [e, hv]⟩
theorem rgm_m {f : Nat → Int} {p c k x : Int} {l : List Int} (h : rgm f p c k x) (hr : rgo f c p l) (hk : 1 ≤ k ∧ k ≤ 9 ∧ k ≤ c) : zMi l k.toNat x := by
  obtain ⟨h1, j, h2, h3, h4⟩ := h
  obtain ⟨r1, r2⟩ := hr
  refine ⟨fun i hi => ?_, (j - 1).toNat, by omega, ?_⟩
  · have e := r2 i (by omega) (by omega)
    have z := h1 ((i : Int) + 1) (by omega) (by omega)
    rw [show c - ((i : Int) + 1) = c - 1 - (i : Int) by omega, e] at z
    exact z
  · have e := r2 (j - 1).toNat (by omega) (by omega)
    rw [show c - 1 - (((j - 1).toNat : Nat) : Int) = c - j by omega] at e
    rw [h4, e]
/-! a year judged, player by player -/
abbrev zJT : Type := Int × Int × Int × (Nat → Int) × (Nat → Int)
def zJw (F : Nat → Int) (p k : Int) (t u : zJT) : Prop := u.2.2.2.1 = zPt t.2.2.2.1 (p * 9 + t.2.2.2.2 p.toNat % 9).toNat (F p.toNat) ∧ u.2.2.2.2 = zPt t.2.2.2.2 p.toNat (t.2.2.2.2 p.toNat + 1) ∧ ((t.2.2.2.2 p.toNat + 1 < k ∧ u.1 = t.1 ∧ u.2.1 = t.2.1 ∧ u.2.2.1 = t.2.2.1) ∨ (k ≤ t.2.2.2.2 p.toNat + 1 ∧ (k < 1 ∨ ∃ x, rgm u.2.2.2.1 p (t.2.2.2.2 p.toNat + 1) k x ∧ zOf t.1 t.2.1 t.2.2.1 p x 1 u.1 u.2.1 u.2.2.1)))
def zJs (who q k c s : Int) (F : Nat → Int) (p : Int) (t u : zJT) : Prop :=
  (zbt who p.toNat ≠ 1 ∧ u = t) ∨ (zbt who p.toNat = 1 ∧ q = 0 ∧ zOf t.1 t.2.1 t.2.2.1 p (F p.toNat) 1 u.1 u.2.1 u.2.2.1 ∧ u.2.2.2 = t.2.2.2) ∨ (zbt who p.toNat = 1 ∧ q = 1 ∧ zJw F p k t u) ∨ (zbt who p.toNat = 1 ∧ q ≠ 0 ∧ q ≠ 1 ∧ zOf t.1 t.2.1 t.2.2.1 p (F p.toNat * c - s) c u.1 u.2.1 u.2.2.1 ∧ u.2.2.2 = t.2.2.2)
def zJr (who q k c s : Int) (F : Nat → Int) : Nat → zJT → zJT → Prop
  | 0 => fun t u => u = t
  | n + 1 => fun t u => ∃ w, zJr who q k c s F n t w ∧ zJs who q k c s F (n : Int) w u
theorem zJr_s {who q k c s i i1 : Int} {F : Nat → Int} {t w u : zJT} (h : zJr who q k c s F i.toNat t w) (hi : 0 ≤ i ∧ i1 = i + 1) (hs : zJs who q k c s F i w u) : zJr who q k c s F i1.toNat t u := by
  rw [show i1.toNat = i.toNat + 1 by omega]
  refine ⟨w, h, ?_⟩
  rw [show ((i.toNat : Nat) : Int) = i by omega]
  exact hs
section JDG
variable {who q k : Int} {F : Nat → Int} {P y : Nat} {M N : Nat → Nat → Int}
/-- what holds when the players below l are judged -/
def zJi (q k : Int) (P : Nat) (M N : Nat → Nat → Int) (y l : Nat) (t : zJT) : Prop := zBe (cdl (bM M) (bV q k P M N) (P : Int) y (l : Int)) t.1 t.2.1 t.2.2.1 ∧ (q = 1 → ∀ p : Nat, p < P → rgo t.2.2.2.1 (t.2.2.2.2 p) (p : Int) (lsp (fun z => M p z = 1) (N p) (if p < l then y + 1 else y)))
theorem zJi_s {l : Nat} {c s : Int} {t u : zJT} (h : zJi q k P M N y l t) (hs : zJs who q k c s F (l : Int) t u) (hl : l < P) (hq : q = 0 ∨ (q = 1 ∧ 1 ≤ k ∧ k ≤ 9) ∨ q = 2) (hM : ∀ p, p < P → (zbt who p = 1 ↔ M p y = 1)) (hN : ∀ p, p < P → M p y = 1 → N p y = F p) (hc : c = smp (fun o => M o y) (fun _ => 1) P) (hsu : s = smp (fun o => M o y) (fun o => N o y) P) : zJi q k P M N y (l + 1) u := by
  obtain ⟨g1, g2⟩ := h
  have hCp : ∀ p x d, cdl (bM M) (bV q k P M N) (P : Int) y (l : Int) p x d → 0 < d := by
    rintro p x d ⟨h0, h1, z, h2, h3, h4⟩
    exact bcv_p h3 (by omega) h2
  rcases hs with ⟨s1, s2⟩ | s3
  · have hn : M l y ≠ 1 := fun z => s1 ((hM l hl).mpr z)
    subst s2
    refine ⟨zBe_cg g1 (fun p x d => cdl_n (l := (l : Int)) (by omega) (fun x d z => absurd z hn) p x d), fun q1 p hp => ?_⟩
    have := g2 q1 p hp
    by_cases e : p = l
    · subst e
      rw [if_neg (Nat.lt_irrefl p)] at this
      rw [if_pos (Nat.lt_succ_self p), lsp_n rfl hn]
      exact this
    · by_cases e2 : p < l
      · rw [if_pos e2] at this
        rw [if_pos (by omega)]
        exact this
      · rw [if_neg e2] at this
        rw [if_neg (by omega)]
        exact this
  · have hb : zbt who l = 1 := by
      rcases s3 with s3 | s3 | s3 <;> exact s3.1
    have hm : M l y = 1 := (hM l hl).mp hb
    have hn : N l y = F l := hN l hl hm
    have hc1 := (smp_c (fun o => M o y) P).2.2 l hl hm
    have hL : lsp (fun z => M l z = 1) (N l) (y + 1) = F l :: lsp (fun z => M l z = 1) (N l) y := by rw [lsp_y rfl hm, hn]
    have key : ∀ u1 v1, (∀ x d, bV q k P M N (l : Int) y x d ↔ x = u1 ∧ d = v1) → 0 < v1 → ∀ {h2 a2 b2 : Int}, zOf t.1 t.2.1 t.2.2.1 (l : Int) u1 v1 h2 a2 b2 → zBe (cdl (bM M) (bV q k P M N) (P : Int) y ((l + 1 : Nat) : Int)) h2 a2 b2 := by
      intro u1 v1 hV hv h2 a2 b2 ho
      exact zBe_of g1 ho (fun p x d => cdl_y (l := (l : Int)) (by omega) ⟨by omega, by omega⟩ hm hV p x d) hv (by omega) hCp
    have kn : (∀ x d, ¬ bV q k P M N (l : Int) y x d) → zBe (cdl (bM M) (bV q k P M N) (P : Int) y ((l + 1 : Nat) : Int)) t.1 t.2.1 t.2.2.1 := by
      intro hV
      exact zBe_cg g1 (fun p x d => cdl_n (l := (l : Int)) (by omega) (fun x d _ => hV x d) p x d)
    rcases s3 with ⟨_, q0, ho, hr⟩ | ⟨_, q1, hw⟩ | ⟨_, q0, q1, ho, hr⟩
    · refine ⟨key (F l) 1 (fun x d => ?_) (by decide) ho, fun z => absurd z (by omega)⟩
      constructor
      · rintro (⟨z, _⟩ | ⟨_, hd, j, hj, hl2, hz⟩)
        · omega
        · have hj1 : j = 1 := by omega
          subst hj1
          refine ⟨zMi_un hz (zMi_1 ?_), hd⟩
          show F l = (lsp (fun z => M l z = 1) (N l) (y + 1)).getD 0 0
          rw [hL]
          rfl
      · rintro ⟨rfl, rfl⟩
        refine Or.inr ⟨by omega, rfl, 1, Or.inl ⟨q0, rfl⟩, ?_, zMi_1 ?_⟩
        · show 1 ≤ (lsp (fun z => M l z = 1) (N l) (y + 1)).length
          rw [hL]
          exact Nat.succ_le_succ (Nat.zero_le _)
        · show F l = (lsp (fun z => M l z = 1) (N l) (y + 1)).getD 0 0
          rw [hL]
          rfl
    · obtain ⟨w1, w2, w3⟩ := hw
      have r0 := g2 q1 l hl
      rw [if_neg (Nat.lt_irrefl l)] at r0
      have r1 : rgo u.2.2.2.1 (t.2.2.2.2 l + 1) (l : Int) (lsp (fun z => M l z = 1) (N l) (y + 1)) := by
        rw [hL]
        exact rgo_s r0 w1 ⟨by omega, rfl⟩
      have rings : ∀ p : Nat, p < P → rgo u.2.2.2.1 (u.2.2.2.2 p) (p : Int) (lsp (fun z => M p z = 1) (N p) (if p < l + 1 then y + 1 else y)) := by
        intro p hp
        by_cases e : p = l
        · subst e
          rw [if_pos (Nat.lt_succ_self p), w2, show ((p : Int)).toNat = p from rfl, zPt_eq]
          exact r1
        · have r2 := rgo_n (q := (l : Int)) (d := t.2.2.2.2 l) (v := F l) (g := u.2.2.2.1) (g2 q1 p hp) w1 ⟨by omega, by omega, by omega⟩
          have e3 : u.2.2.2.2 p = t.2.2.2.2 p := by
            rw [w2]
            exact zPt_ne e
          rw [e3]
          by_cases e2 : p < l
          · rw [if_pos e2] at r2
            rw [if_pos (by omega)]
            exact r2
          · rw [if_neg e2] at r2
            rw [if_neg (by omega)]
            exact r2
      have hlen : t.2.2.2.2 l + 1 = ((lsp (fun z => M l z = 1) (N l) (y + 1)).length : Int) := r1.1
      have hk : 1 ≤ k ∧ k ≤ 9 := by omega
      rcases w3 with ⟨w3, e1, e2, e3⟩ | ⟨w3, w4⟩
      · refine ⟨?_, fun _ => rings⟩
        rw [e1, e2, e3]
        refine kn (fun x d => ?_)
        rintro (⟨z, _⟩ | ⟨_, hd, j, hj, hl2, hz⟩)
        · omega
        · have hl2 : j ≤ (lsp (fun z => M l z = 1) (N l) (y + 1)).length := hl2
          have w3 : t.2.2.2.2 l + 1 < k := w3
          omega
      · rcases w4 with w4 | ⟨x, w5, w6⟩
        · omega
        · have w3 : k ≤ t.2.2.2.2 l + 1 := w3
          have hz := rgm_m w5 r1 ⟨hk.1, hk.2, w3⟩
          refine ⟨key x 1 (fun x' d => ?_) (by decide) w6, fun _ => rings⟩
          constructor
          · rintro (⟨z, _⟩ | ⟨_, hd, j, hj, hl2, hz2⟩)
            · omega
            · have hj1 : j = k.toNat := by omega
              subst hj1
              exact ⟨zMi_un hz2 hz, hd⟩
          · rintro ⟨rfl, rfl⟩
            refine Or.inr ⟨by omega, rfl, k.toNat, Or.inr ⟨by omega, by omega⟩, ?_, hz⟩
            show k.toNat ≤ (lsp (fun z => M l z = 1) (N l) (y + 1)).length
            omega
    · have q2 : q = 2 := by omega
      refine ⟨key (F l * c - s) c (fun x d => ?_) (by omega) ho, fun z => absurd z (by omega)⟩
      constructor
      · rintro (⟨_, hd, hx⟩ | ⟨z, _⟩)
        · have hx : x = N l y * d - smp (fun o => M o y) (fun o => N o y) P := hx
          rw [hn, hd, ← hc, ← hsu] at hx
          exact ⟨hx, by rw [hd, hc]⟩
        · exact absurd q2 z
      · rintro ⟨hx, hd⟩
        refine Or.inl ⟨q2, hd.trans hc, ?_⟩
        rw [hx, hd]
        show F l * c - s = N l y * c - smp (fun o => M o y) (fun o => N o y) P
        rw [hn, hsu]
theorem zJi_r {l : Nat} {c s : Int} {t u : zJT} (h : zJi q k P M N y 0 t) (hr : zJr who q k c s F l t u) (hl : l ≤ P) (hq : q = 0 ∨ (q = 1 ∧ 1 ≤ k ∧ k ≤ 9) ∨ q = 2) (hM : ∀ p, p < P → (zbt who p = 1 ↔ M p y = 1)) (hN : ∀ p, p < P → M p y = 1 → N p y = F p) (hc : c = smp (fun o => M o y) (fun _ => 1) P) (hsu : s = smp (fun o => M o y) (fun o => N o y) P) : zJi q k P M N y l u := by
  induction l generalizing u with
  | zero =>
    have e : u = t := hr
    rw [e]
    exact h
  | succ l ih =>
    obtain ⟨w, h1, h2⟩ := hr
    exact zJi_s (ih h1 (by omega)) h2 (by omega) hq hM hN hc hsu
end JDG
/-! the class's run -/
theorem hmc_ex {Y A B : Nat → Int} {p y : Int} {n : Nat} (h : hmc Y A B p y n = 1) : ∃ j, j < n ∧ Y j = y := by
  induction n with
  | zero => exact absurd (show (0 : Int) = 1 from h) (by decide)
  | succ n ih =>
    rcases hmc_s Y A B p y (n := n) rfl with ⟨_, h1 | h1⟩ | ⟨h1, _⟩
    · obtain ⟨j, h2, h3⟩ := ih h1
      exact ⟨j, by omega, h3⟩
    · exact ⟨n, by omega, h1.1⟩
    · omega
/-- up to which year all is judged, behind i meetings -/
def ybd (Y : Nat → Int) (n i : Int) : Nat := if i < n then (Y i.toNat).toNat else 100
/-- whether one met in a year; his number at its end -/
def mHm (Y A B : Nat → Int) (n : Int) : Nat → Nat → Int := fun p y => hmc Y A B (p : Int) (y : Int) n.toNat
noncomputable def nHm (ch A B E Y G : Nat → Int) (v n : Int) : Nat → Nat → Int := fun p y => nbr ch A B E Y G v (kcy Y (y : Int) n.toNat) p
def zAk (q k : Int) (P : Int) (M N : Nat → Nat → Int) (Y A B : Nat → Int) (n i who h a b : Int) (f g : Nat → Int) : Prop :=
  (i < n → zWm who Y A B (Y i.toNat) i) ∧ bBe q k P.toNat M N (ybd Y n i) h a b ∧ (q = 1 → ∀ p : Nat, p < P.toNat → rgo f (g p) (p : Int) (lsp (fun z => M p z = 1) (N p) (ybd Y n i)))
section ASK
variable {q k P n i i1 who h a b h2 a2 b2 : Int} {N : Nat → Nat → Int} {Y A B f g f2 g2 : Nat → Int}
/-- between two ends of years nobody met -/
theorem ybd_g {p : Int} {y : Nat} (hs : srt Y n.toNat) (hY : ∀ j : Nat, (j : Int) < n → 0 ≤ Y j) (hi : 0 ≤ i ∧ i < n ∧ i1 = i + 1) (h1 : (Y i.toNat).toNat + 1 ≤ y) (h2 : y < ybd Y n i1) : hmc Y A B p (y : Int) n.toNat ≠ 1 := by
  intro z
  obtain ⟨j, j1, j2⟩ := hmc_ex z
  have c1 := hY j (by omega)
  by_cases c : j ≤ i.toNat
  · have := hs j i.toNat c (by omega)
    omega
  · unfold ybd at h2
    by_cases c2 : i1 < n
    · rw [if_pos c2] at h2
      have := hs i1.toNat j (by omega) j1
      omega
    · omega
theorem zAk_0 (hs : srt Y n.toNat) (hY : ∀ j : Nat, (j : Int) < n → 0 ≤ Y j) (hg : zFil g 10 0) (hP : P ≤ 10) (hm : h = -1 ∧ who = 0 ∧ i = 0 ∧ 0 ≤ n) : zAk q k P (mHm Y A B n) N Y A B n i who h a b f g := by
  obtain ⟨rfl, rfl, rfl, hn⟩ := hm
  have hno : ∀ (p : Int) (y : Nat), y < ybd Y n 0 → hmc Y A B p (y : Int) n.toNat ≠ 1 := by
    intro p y h1 z
    obtain ⟨j, j1, j2⟩ := hmc_ex z
    have c1 := hY j (by omega)
    unfold ybd at h1
    by_cases c2 : (0 : Int) < n
    · rw [if_pos c2] at h1
      have := hs (0 : Int).toNat j (Nat.zero_le _) j1
      omega
    · omega
  refine ⟨fun _ => zWm_0, Or.inl ⟨rfl, ?_⟩, fun _ p hp => ?_⟩
  · rintro p x d ⟨h0, h1, y, h2, h3, h4⟩
    exact hno _ y h2 h3
  · rw [lsp_cg (M := fun z => mHm Y A B n p z = 1) (a := 0) (Nat.zero_le _) (fun y _ h2 => hno (p : Int) y h2), hg p (by omega)]
    exact rgo_0
theorem zAk_n {pp pa pb xa xb w2 : Int} (hk : zAk q k P (mHm Y A B n) N Y A B n i who h a b f g) (hW : w2 = zor who pp) (hPB : pp = zor pa pb) (ha : xa = A i.toNat) (hb : xb = B i.toNat) (e1 : pa = 2 ^ xa.toNat) (e2 : pb = 2 ^ xb.toNat) (hi : 0 ≤ i ∧ i1 = i + 1 ∧ i1 < n ∧ 0 ≤ xa ∧ 0 ≤ xb) (hY : Y i1.toNat = Y i.toNat) : zAk q k P (mHm Y A B n) N Y A B n i1 w2 h a b f g := by
  obtain ⟨k1, k2, k3⟩ := hk
  have e : ybd Y n i1 = ybd Y n i := by
    unfold ybd
    rw [if_pos (by omega), if_pos (by omega), hY]
  refine ⟨fun _ => ?_, ?_, ?_⟩
  · rw [hY]
    exact zWm_y (k1 (by omega)) rfl hW hPB ha hb e1 e2 ⟨rfl, by omega⟩
  · rw [e]
    exact k2
  · rw [e]
    exact k3
theorem zAk_y {ch E G F : Nat → Int} {v : Int} {S : zPS} {pp pa pb xa xb w2 c s : Int} (hk : zAk q k P (mHm Y A B n) (nHm ch A B E Y G v n) Y A B n i who h a b f g) (hW : w2 = zor who pp) (hPB : pp = zor pa pb) (ha : xa = A i.toNat) (hb : xb = B i.toNat) (e1 : pa = 2 ^ xa.toNat) (e2 : pb = 2 ^ xb.toNat) (hi : 0 ≤ i ∧ i1 = i + 1 ∧ i < n ∧ 0 ≤ xa ∧ 0 ≤ xb) (hend : n ≤ i1 ∨ Y i1.toNat ≠ Y i.toNat) (hs : srt Y n.toNat) (hb0 : ∀ j : Nat, (j : Int) < n → (0 ≤ A j ∧ A j < 10) ∧ (0 ≤ B j ∧ B j < 10) ∧ 0 ≤ Y j ∧ Y j ≤ 99) (hPl : ∀ j : Nat, (j : Int) < n → A j < P ∧ B j < P) (hP : 0 ≤ P ∧ P ≤ 10) (hq : q = 0 ∨ (q = 1 ∧ 1 ≤ k ∧ k ≤ 9) ∨ q = 2) (hS : zSn (pst ch A B E Y G) (fun _ => 1) v S i1) (hF : F = S.1) (hc : c = smp (zbt w2) (fun _ => 1) 10) (hsu : s = smp (zbt w2) F P.toNat) (hJ : zJr w2 q k c s F P.toNat (h, a, b, f, g) (h2, a2, b2, f2, g2)) : zAk q k P (mHm Y A B n) (nHm ch A B E Y G v n) Y A B n i1 0 h2 a2 b2 f2 g2 := by
  obtain ⟨k1, k2, k3⟩ := hk
  obtain ⟨i0, hi1, hin, xa0, xb0⟩ := hi
  subst hF
  have y0 := (hb0 i.toNat (by omega)).2.2.1
  have y9 := (hb0 i.toNat (by omega)).2.2.2
  have he : i.toNat < n.toNat := by omega
  have hend2 : n.toNat ≤ i.toNat + 1 ∨ Y (i.toNat + 1) ≠ Y i.toNat := by
    rcases hend with z | z
    · exact Or.inl (by omega)
    · rw [show i1.toNat = i.toNat + 1 by omega] at z
      exact Or.inr z
  have hyc : (((Y i.toNat).toNat : Nat) : Int) = Y i.toNat := by omega
  have hw := zWm_y (k1 hin) rfl hW hPB ha hb e1 e2 ⟨rfl, i0, rfl, xa0, xb0⟩
  have eb : ybd Y n i = (Y i.toNat).toNat := if_pos hin
  rw [eb] at k2 k3
  have hM : ∀ p : Nat, zbt w2 p = mHm Y A B n p (Y i.toNat).toNat := by
    intro p
    show zbt w2 p = hmc Y A B (p : Int) (((Y i.toNat).toNat : Nat) : Int) n.toNat
    rw [hyc, hmc_m hs he rfl hend2]
    have := hw p
    rw [show (i + 1).toNat = i.toNat + 1 by omega] at this
    exact this
  have hM1 : ∀ p : Nat, P.toNat ≤ p → zbt w2 p ≠ 1 := by
    intro p hp z
    have z2 := hmc_lt (P := P) (fun j hj => hPl j (by omega)) ((hM p).symm.trans z)
    omega
  have hkc : kcy Y (Y i.toNat) n.toNat = i1.toNat := by
    rw [show i1.toNat = i.toNat + 1 by omega]
    exact (kcy_e hs he hend2).symm
  have hN : ∀ p : Nat, p < P.toNat → nHm ch A B E Y G v n p (Y i.toNat).toNat = S.1 p := by
    intro p hp
    show nbr ch A B E Y G v (kcy Y (((Y i.toNat).toNat : Nat) : Int) n.toNat) p = S.1 p
    rw [hyc, hkc]
    exact (nbr_c hS (fun j hj => (hb0 j (by omega)).1) (fun j hj => (hb0 j (by omega)).2.1) (fun j hj => (hb0 j (by omega)).2.2.1) p (by omega)).symm
  have hc' : c = smp (fun o => mHm Y A B n o (Y i.toNat).toNat) (fun _ => 1) P.toNat := by
    rw [hc, smp_le (a := P.toNat) (b := 10) (by omega) (fun p h1 _ => hM1 p h1)]
    exact smp_cg (fun p _ => by show (zbt w2 p = 1 ↔ mHm Y A B n p (Y i.toNat).toNat = 1); rw [hM p]) (fun _ _ _ => rfl)
  have hs' : s = smp (fun o => mHm Y A B n o (Y i.toNat).toNat) (fun o => nHm ch A B E Y G v n o (Y i.toNat).toNat) P.toNat := by
    rw [hsu]
    exact smp_cg (fun p _ => by show (zbt w2 p = 1 ↔ mHm Y A B n p (Y i.toNat).toNat = 1); rw [hM p]) (fun p hp _ => (hN p hp).symm)
  have h0 : zJi q k P.toNat (mHm Y A B n) (nHm ch A B E Y G v n) (Y i.toNat).toNat 0 (h, a, b, f, g) := by
    refine ⟨zBe_cg k2 (fun p x d => cdl_0 p x d), fun q1 p hp => ?_⟩
    rw [if_neg (Nat.not_lt_zero p)]
    exact k3 q1 p hp
  obtain ⟨j1, j2⟩ := zJi_r h0 hJ (Nat.le_refl _) hq (fun p _ => by rw [hM p]) (fun p hp _ => hN p hp) hc' hs'
  have hgap : ∀ (p : Int) (y : Nat), (Y i.toNat).toNat + 1 ≤ y → y < ybd Y n i1 → hmc Y A B p (y : Int) n.toNat ≠ 1 := fun p y z1 z2 => ybd_g hs (fun j hj => (hb0 j hj).2.2.1) ⟨i0, hin, hi1⟩ z1 z2
  have hle : (Y i.toNat).toNat + 1 ≤ ybd Y n i1 := by
    unfold ybd
    by_cases c2 : i1 < n
    · rw [if_pos c2]
      have z1 := hs i.toNat i1.toNat (by omega) (by omega)
      have z2 : Y i1.toNat ≠ Y i.toNat := by
        rcases hend with z | z
        · omega
        · exact z
      omega
    · rw [if_neg c2]
      omega
  refine ⟨fun hlt => fun p => ?_, ?_, fun q1 p hp => ?_⟩
  · have z2 : Y i1.toNat ≠ Y (i1.toNat - 1) := by
      rcases hend with z | z
      · omega
      · rw [show i1.toNat - 1 = i.toNat by omega]
        exact z
    rw [hmc_y hs (by omega) (Or.inr z2)]
    exact zbt_z p
  · have j1' : zBe (cdg (bM (mHm Y A B n)) (bV q k P.toNat (mHm Y A B n) (nHm ch A B E Y G v n)) (P.toNat : Int) ((Y i.toNat).toNat + 1)) h2 a2 b2 := zBe_cg j1 (fun p x d => cdl_P (Int.le_refl _) p x d)
    exact zBe_cg j1' (fun p x d => cdg_cg hle (fun p y z1 z2 => hgap _ y z1 z2) p x d)
  · have z := j2 q1 p hp
    rw [if_pos hp] at z
    rw [lsp_cg (M := fun z => mHm Y A B n p z = 1) hle (fun y z1 z2 => hgap (p : Int) y z1 z2)]
    exact z
theorem zAk_e {M : Nat → Nat → Int} (hk : zAk q k P M N Y A B n i who h a b f g) (hi : n ≤ i) : bBe q k P.toNat M N 100 h a b := by
  obtain ⟨_, k2, _⟩ := hk
  rw [show ybd Y n i = 100 from if_neg (by omega)] at k2
  exact k2
end ASK
/-! the reference: his numbers at the ends of his years, in a row -/
theorem slv_len (f : Nat → Int) (n : Nat) : (slv f n).length = n := by
  induction n with
  | zero => rfl
  | succ n ih =>
    show (slv f n).length + 1 = n + 1
    rw [ih]
theorem slv_get (f : Nat → Int) {n j : Nat} (h : j < n) : (slv f n).getD j 0 = f (n - 1 - j) := by
  induction n generalizing j with
  | zero => exact absurd h (Nat.not_lt_zero j)
  | succ n ih =>
    cases j with
    | zero => rfl
    | succ j =>
      show (slv f n).getD j 0 = _
      rw [ih (by omega)]
      exact congrArg f (by omega)
def zFe (M N f : Nat → Int) (c y : Int) : Prop := 0 ≤ c ∧ slv f c.toNat = lsp (fun z => M z = 1) N y.toNat ∧ (∀ z : Nat, z < y.toNat → M z = 1 → ∃ e : Nat, 1 ≤ e ∧ e ≤ c.toNat ∧ lsp (fun z => M z = 1) N (z + 1) = slv f e) ∧ (∀ e : Nat, 1 ≤ e → e ≤ c.toNat → ∃ z : Nat, z < y.toNat ∧ M z = 1 ∧ lsp (fun z => M z = 1) N (z + 1) = slv f e)
section ZFE
variable {M N f f1 : Nat → Int} {c c1 y y1 v k i i1 x x1 w : Int}
theorem zFe_0 : zFe M N f 0 0 := ⟨by decide, rfl, fun z h => absurd h (Nat.not_lt_zero z), fun e h1 h2 => absurd h2 (by show ¬ e ≤ 0; omega)⟩
theorem zFe_n (h : zFe M N f c y) (hm : M y.toNat ≠ 1) (hy : 0 ≤ y ∧ y1 = y + 1) : zFe M N f c y1 := by
  obtain ⟨h0, h1, h2, h3⟩ := h
  rw [show y1 = y + 1 from hy.2]
  have e : (y + 1).toNat = y.toNat + 1 := by omega
  refine ⟨h0, ?_, fun z hz hmz => ?_, fun e1 a1 a2 => ?_⟩
  · rw [e, lsp_n rfl hm]
    exact h1
  · by_cases q : z = y.toNat
    · rw [q] at hmz
      exact absurd hmz hm
    · exact h2 z (by omega) hmz
  · obtain ⟨z, b1, b2⟩ := h3 e1 a1 a2
    exact ⟨z, by omega, b2⟩
theorem zFe_y (h : zFe M N f c y) (hm : M y.toNat = 1) (hv : v = N y.toNat) (hf : f1 = zPt f c.toNat v) (hy : 0 ≤ y ∧ y1 = y + 1 ∧ c1 = c + 1) : zFe M N f1 c1 y1 := by
  obtain ⟨h0, h1, h2, h3⟩ := h
  obtain ⟨g0, rfl, rfl⟩ := hy
  have e : (y + 1).toNat = y.toNat + 1 := by omega
  have ec : (c + 1).toNat = c.toNat + 1 := by omega
  have key : slv f1 (c.toNat + 1) = lsp (fun z => M z = 1) N (y.toNat + 1) := by
    rw [hf, slv_p f (n := c.toNat + 1) (k := c.toNat) rfl, lsp_y (y := y.toNat) rfl hm, hv, h1]
  have old : ∀ j : Nat, j ≤ c.toNat → slv f1 j = slv f j := fun j hj => by
    rw [hf, slv_ge hj]
  refine ⟨by omega, ?_, fun z hz hmz => ?_, fun e1 a1 a2 => ?_⟩
  · rw [e, ec]
    exact key
  · by_cases q : z = y.toNat
    · subst q
      exact ⟨c.toNat + 1, by omega, by omega, key.symm⟩
    · obtain ⟨j, b1, b2, b3⟩ := h2 z (by omega) hmz
      exact ⟨j, b1, by omega, b3.trans (old j b2).symm⟩
  · by_cases q : e1 = c.toNat + 1
    · subst q
      exact ⟨y.toNat, by omega, hm, key.symm⟩
    · obtain ⟨z, b1, b2, b3⟩ := h3 e1 a1 (by omega)
      exact ⟨z, by omega, b2, b3.trans (old e1 (by omega)).symm⟩
/-! windows -/
def zWl (f : Nat → Int) (i j w : Int) : Prop := (∀ t : Int, i ≤ t → t < j → w ≤ f t.toNat) ∧ ∃ t : Int, i ≤ t ∧ (t < j ∨ t = i) ∧ w = f t.toNat
theorem zWl_0 {j : Int} (hw : w = f i.toNat) (hj : j = i) : zWl f i j w := by
  subst hj
  exact ⟨fun t h1 h2 => by omega, j, Int.le_refl _, Or.inr rfl, hw⟩
theorem zWl_s {j j1 w1 v : Int} (h : zWl f i j w) (hv : v = f j.toNat) (hj : i ≤ j ∧ j1 = j + 1) (hw : (v < w ∧ w1 = v) ∨ (w ≤ v ∧ w1 = w)) : zWl f i j1 w1 := by
  obtain ⟨h1, t, h2, h3, h4⟩ := h
  refine ⟨fun s s1 s2 => ?_, ?_⟩
  · by_cases e : s = j
    · rw [e, ← hv]
      omega
    · have := h1 s s1 (by omega)
      omega
  · rcases hw with ⟨a1, a2⟩ | ⟨a1, a2⟩
    · exact ⟨j, hj.1, Or.inl (by omega), by rw [a2, hv]⟩
    · exact ⟨t, h2, by omega, by rw [a2, h4]⟩
theorem zWl_m {j : Int} (h : zWl f i j w) (hj : 0 ≤ i ∧ j = i + k ∧ 1 ≤ k) : zMi (slv f (i + k).toNat) k.toNat w := by
  obtain ⟨h1, t, h2, h3, h4⟩ := h
  refine ⟨fun s hs => ?_, (i + k - 1 - t).toNat, by omega, ?_⟩
  · rw [slv_get f (by omega)]
    have := h1 (i + k - 1 - s) (by omega) (by omega)
    rw [show (i + k - 1 - (s : Int)).toNat = (i + k).toNat - 1 - s by omega] at this
    exact this
  · rw [slv_get f (by omega), h4]
    exact congrArg f (by omega)
def zWo (f : Nat → Int) (k i x : Int) : Prop := i = 0 ∨ ((∀ t : Int, 0 ≤ t → t < i → ∀ w, zMi (slv f (t + k).toNat) k.toNat w → w ≤ x) ∧ ∃ t : Int, 0 ≤ t ∧ t < i ∧ zMi (slv f (t + k).toNat) k.toNat x)
theorem zWo_0 : zWo f k 0 x := Or.inl rfl
theorem zWo_s (h : zWo f k i x) (hw : zMi (slv f (i + k).toNat) k.toNat w) (hx : ((i = 0 ∨ x < w) ∧ x1 = w) ∨ (i ≠ 0 ∧ w ≤ x ∧ x1 = x)) (hi : 0 ≤ i ∧ i1 = i + 1) : zWo f k i1 x1 := by
  right
  rcases h with h | ⟨h1, t, h2, h3, h4⟩
  · have e : x1 = w := by omega
    rw [e]
    refine ⟨fun s s1 s2 u hu => ?_, i, by omega, by omega, hw⟩
    rw [show s = i by omega] at hu
    exact Int.le_of_eq (zMi_un hu hw)
  · refine ⟨fun s s1 s2 u hu => ?_, ?_⟩
    · by_cases e : s = i
      · rw [e] at hu
        have := zMi_un hu hw
        omega
      · have := h1 s s1 (by omega) u hu
        omega
    · rcases hx with ⟨_, e⟩ | ⟨_, _, e⟩
      · rw [e]
        exact ⟨i, hi.1, by omega, hw⟩
      · rw [e]
        exact ⟨t, h2, by omega, h4⟩
/-- the best row of k, none of so many -/
def zFb (M N : Nat → Int) (k x : Int) : Prop := (∀ z : Nat, z < 100 → M z = 1 → k ≤ ((lsp (fun z => M z = 1) N (z + 1)).length : Int) → ∀ w, zMi (lsp (fun z => M z = 1) N (z + 1)) k.toNat w → w ≤ x) ∧ ∃ z : Nat, z < 100 ∧ M z = 1 ∧ k ≤ ((lsp (fun z => M z = 1) N (z + 1)).length : Int) ∧ zMi (lsp (fun z => M z = 1) N (z + 1)) k.toNat x
def zFn (M N : Nat → Int) (k : Int) : Prop := ∀ z : Nat, z < 100 → M z = 1 → ((lsp (fun z => M z = 1) N (z + 1)).length : Int) < k
theorem zFb_m (h : zFe M N f c 100) (ho : zWo f k i x) (hi : 0 ≤ i ∧ 1 ≤ k ∧ k ≤ c ∧ c < i + k ∧ (i = 0 ∨ i + k ≤ c + 1)) : zFb M N k x := by
  obtain ⟨h0, h1, h2, h3⟩ := h
  rcases ho with ho | ⟨o1, t, o2, o3, o4⟩
  · omega
  · refine ⟨fun z hz hm hl w hw => ?_, ?_⟩
    · obtain ⟨e, e1, e2, e3⟩ := h2 z hz hm
      rw [e3, slv_len] at hl
      rw [e3] at hw
      refine o1 ((e : Int) - k) (by omega) (by omega) w ?_
      rw [show ((e : Int) - k + k).toNat = e by omega]
      exact hw
    · obtain ⟨z, z1, z2, z3⟩ := h3 (t + k).toNat (by omega) (by omega)
      refine ⟨z, z1, z2, ?_, ?_⟩
      · rw [z3, slv_len]
        omega
      · rw [z3]
        exact o4
theorem zFn_m (h : zFe M N f c 100) (hk : c < k) : zFn M N k := by
  obtain ⟨h0, h1, h2, h3⟩ := h
  intro z hz hm
  obtain ⟨e, e1, e2, e3⟩ := h2 z hz hm
  rw [e3, slv_len]
  omega
end ZFE
theorem hmv_m (F : Nat → Int) {p y n : Int} (h : 0 ≤ p ∧ 0 ≤ y) : hmv F p y n.toNat = mHm (fun i => F (90 + 6 * i)) (fun i => F (91 + 6 * i)) (fun i => F (92 + 6 * i)) n p.toNat y.toNat := by
  rw [hmv_c]
  show _ = hmc (fun i => F (90 + 6 * i)) (fun i => F (91 + 6 * i)) (fun i => F (92 + 6 * i)) ((p.toNat : Nat) : Int) ((y.toNat : Nat) : Int) n.toNat
  rw [show ((p.toNat : Nat) : Int) = p by omega, show ((y.toNat : Nat) : Int) = y by omega]
/-! the reference: player by player -/
section REF
variable {q k : Int} {P : Nat} {M N : Nat → Nat → Int}
theorem bcv_1 {p y : Nat} {x d : Int} (h : bcv q k P M N p y x d) (hq : q ≠ 2) : d = 1 := by
  rcases h with ⟨h, _⟩ | ⟨_, h, _⟩
  · exact absurd h hq
  · exact h
def cdb (q k : Int) (P : Nat) (M N : Nat → Nat → Int) (l : Int) (p x d : Int) : Prop := 0 ≤ p ∧ p < (P : Int) ∧ p < l ∧ ∃ y : Nat, y < 100 ∧ M p.toNat y = 1 ∧ bcv q k P M N p.toNat y x d
theorem cdb_0 {a b : Int} : zBe (cdb q k P M N 0) (-1) a b := Or.inl ⟨rfl, fun p x d h => by
  obtain ⟨h0, _, h1, _⟩ := h
  omega⟩
theorem cdb_P {l h a b : Int} (g : zBe (cdb q k P M N l) h a b) (hl : (P : Int) ≤ l) : bBe q k P M N 100 h a b := by
  refine zBe_cg g (fun p x d => ?_)
  constructor
  · rintro ⟨h0, h1, y, h2, h3, h4⟩
    exact ⟨h0, h1, by omega, y, h2, h3, h4⟩
  · rintro ⟨h0, h1, _, y, h2, h3, h4⟩
    exact ⟨h0, h1, y, h2, h3, h4⟩
theorem cdb_s {l l1 h a h2 a2 kk x r : Int} (g : zBe (cdb q k P M N l) h a 1) (hr : (r = 1 ∧ zFb (M l.toNat) (N l.toNat) kk x) ∨ (r = 0 ∧ zFn (M l.toNat) (N l.toNat) kk)) (hk : (q = 0 ∧ kk = 1) ∨ (q = 1 ∧ kk = k ∧ 1 ≤ k)) (ht : (r = 1 ∧ (h = -1 ∨ a < x) ∧ h2 = l ∧ a2 = x) ∨ ((r ≠ 1 ∨ (h ≠ -1 ∧ x ≤ a)) ∧ h2 = h ∧ a2 = a)) (hl : 0 ≤ l ∧ l < (P : Int) ∧ l1 = l + 1) : zBe (cdb q k P M N l1) h2 a2 1 := by
  have hq : q ≠ 2 := by omega
  have hnew : ∀ p x' d, cdb q k P M N l1 p x' d → cdb q k P M N l p x' d ∨ (p = l ∧ d = 1 ∧ ∃ z : Nat, z < 100 ∧ M l.toNat z = 1 ∧ kk ≤ ((lsp (fun z => M l.toNat z = 1) (N l.toNat) (z + 1)).length : Int) ∧ zMi (lsp (fun z => M l.toNat z = 1) (N l.toNat) (z + 1)) kk.toNat x') := by
    rintro p x' d ⟨h0, h1, h3, y, h4, h5, h6⟩
    by_cases e : p = l
    · subst e
      right
      refine ⟨rfl, bcv_1 h6 hq, y, h4, h5, ?_⟩
      rcases h6 with ⟨z, _⟩ | ⟨_, _, j, j1, j2, j3⟩
      · exact absurd z hq
      · have ej : j = kk.toNat := by omega
        subst ej
        exact ⟨by omega, j3⟩
    · exact Or.inl ⟨h0, h1, by omega, y, h4, h5, h6⟩
  have hold : ∀ p x' d, cdb q k P M N l p x' d → cdb q k P M N l1 p x' d := by
    rintro p x' d ⟨h0, h1, h3, h4⟩
    exact ⟨h0, h1, by omega, h4⟩
  have hd1 : ∀ p x' d, cdb q k P M N l p x' d → d = 1 ∧ p < l := by
    rintro p x' d ⟨h0, h1, h3, y, h4, h5, h6⟩
    exact ⟨bcv_1 h6 hq, h3⟩
  rcases hr with ⟨r1, f1, z, f2, f3, f4, f5⟩ | ⟨r1, f1⟩
  · have hself : cdb q k P M N l1 l x 1 := ⟨hl.1, hl.2.1, by omega, z, f2, f3, Or.inr ⟨hq, rfl, kk.toNat, by omega, by omega, f5⟩⟩
    have hup : ∀ x', (∃ z : Nat, z < 100 ∧ M l.toNat z = 1 ∧ kk ≤ ((lsp (fun z => M l.toNat z = 1) (N l.toNat) (z + 1)).length : Int) ∧ zMi (lsp (fun z => M l.toNat z = 1) (N l.toNat) (z + 1)) kk.toNat x') → x' ≤ x := by
      rintro x' ⟨z, z1, z2, z3, z4⟩
      exact f1 z z1 z2 z3 x' z4
    rcases ht with ⟨_, t1, t2, t3⟩ | ⟨t1, t2, t3⟩
    · subst t2 t3
      refine Or.inr ⟨hl.1, by decide, hself, fun p x' d hp => ?_⟩
      rcases hnew p x' d hp with hp | ⟨rfl, rfl, hpq⟩
      · obtain ⟨rfl, hpl⟩ := hd1 p x' d hp
        rcases g with ⟨g1, g2⟩ | ⟨g0, _, g2, g3⟩
        · exact absurd hp (g2 p x' 1)
        · have := g3 p x' 1 hp
          have c := (hd1 h a 1 g2).2
          left
          omega
      · have := hup x' hpq
        omega
    · have t1 : h ≠ -1 ∧ x ≤ a := by
        rcases t1 with t1 | t1
        · exact absurd r1 t1
        · exact t1
      subst t2 t3
      rcases g with ⟨g1, g2⟩ | ⟨g0, g1, g2, g3⟩
      · exact absurd g1 t1.1
      · refine Or.inr ⟨g0, g1, hold _ _ _ g2, fun p x' d hp => ?_⟩
        rcases hnew p x' d hp with hp | ⟨rfl, rfl, hpq⟩
        · exact g3 p x' d hp
        · have := hup x' hpq
          have c := (hd1 _ _ _ g2).2
          omega
  · have e : h2 = h ∧ a2 = a := by omega
    rw [e.1, e.2]
    refine zBe_cg g (fun p x' d => ⟨fun hp => ?_, hold p x' d⟩)
    rcases hnew p x' d hp with hp | ⟨_, _, z, z1, z2, z3, _⟩
    · exact hp
    · have := f1 z z1 z2
      omega
def cdq (q k : Int) (P : Nat) (M N : Nat → Nat → Int) (l y : Int) (p x d : Int) : Prop := 0 ≤ p ∧ p < (P : Int) ∧ ∃ z : Nat, z < 100 ∧ M p.toNat z = 1 ∧ bcv q k P M N p.toNat z x d ∧ (p < l ∨ (p = l ∧ (z : Int) < y))
theorem cdq_0 {a b : Int} : zBe (cdq q k P M N 0 0) (-1) a b := Or.inl ⟨rfl, fun p x d h => by
  obtain ⟨h0, _, z, _, _, _, h1⟩ := h
  omega⟩
theorem cdq_l {l l1 y h a b : Int} (g : zBe (cdq q k P M N l y) h a b) (hy : 100 ≤ y ∧ l1 = l + 1) : zBe (cdq q k P M N l1 0) h a b := by
  refine zBe_cg g (fun p x d => ?_)
  constructor
  · rintro ⟨h0, h1, z, h2, h3, h4, h5⟩
    exact ⟨h0, h1, z, h2, h3, h4, by omega⟩
  · rintro ⟨h0, h1, z, h2, h3, h4, h5⟩
    exact ⟨h0, h1, z, h2, h3, h4, by omega⟩
theorem cdq_n {l y y1 h a b : Int} (g : zBe (cdq q k P M N l y) h a b) (hm : M l.toNat y.toNat ≠ 1) (hy : 0 ≤ y ∧ y1 = y + 1) : zBe (cdq q k P M N l y1) h a b := by
  refine zBe_cg g (fun p x d => ?_)
  constructor
  · rintro ⟨h0, h1, z, h2, h3, h4, h5⟩
    refine ⟨h0, h1, z, h2, h3, h4, ?_⟩
    by_cases c : p = l ∧ (z : Int) = y
    · obtain ⟨rfl, c⟩ := c
      rw [show z = y.toNat by omega] at h3
      exact absurd h3 hm
    · omega
  · rintro ⟨h0, h1, z, h2, h3, h4, h5⟩
    exact ⟨h0, h1, z, h2, h3, h4, by omega⟩
theorem cdq_P {l h a b : Int} (g : zBe (cdq q k P M N l 0) h a b) (hl : (P : Int) ≤ l) : bBe q k P M N 100 h a b := by
  refine zBe_cg g (fun p x d => ?_)
  constructor
  · rintro ⟨h0, h1, y, h2, h3, h4⟩
    exact ⟨h0, h1, y, h2, h3, h4, Or.inl (by omega)⟩
  · rintro ⟨h0, h1, y, h2, h3, h4, _⟩
    exact ⟨h0, h1, y, h2, h3, h4⟩
theorem cdq_y {l y y1 h a b h2 a2 b2 v w u s nl xb xv : Int} (g : zBe (cdq q k P M N l y) h a b) (hm : M l.toNat y.toNat = 1) (hq : q = 2) (hv : v = smp (fun o => M o y.toNat) (fun _ => 1) P) (hs : s = smp (fun o => M o y.toNat) (fun o => N o y.toNat) P) (hn : nl = N l.toNat y.toNat) (hw : w = v * nl) (hu : u = w - s) (hxb : h = -1 ∨ xb = u * b) (hxv : h = -1 ∨ xv = a * v) (ht : ((h = -1 ∨ xv < xb) ∧ h2 = l ∧ a2 = u ∧ b2 = v) ∨ (h ≠ -1 ∧ xb ≤ xv ∧ h ≤ l ∧ h2 = h ∧ a2 = a ∧ b2 = b)) (hy : 0 ≤ y ∧ y < 100 ∧ y1 = y + 1 ∧ 0 ≤ l ∧ l < (P : Int)) : zBe (cdq q k P M N l y1) h2 a2 b2 := by
  have hC : ∀ p x d, cdq q k P M N l y p x d → 0 < d := by
    rintro p x d ⟨h0, h1, z, h3, h4, h5, h6⟩
    exact bcv_p h5 (by omega) h4
  have hv0 : 0 < v := by
    have := (smp_c (fun o => M o y.toNat) P).2.2 l.toNat (by omega) hm
    omega
  have hD : ∀ p x d, cdq q k P M N l y1 p x d ↔ cdq q k P M N l y p x d ∨ (p = l ∧ x = u ∧ d = v) := by
    intro p x d
    constructor
    · rintro ⟨h0, h1, z, h3, h4, h5, h6⟩
      by_cases c : p = l ∧ (z : Int) = y
      · obtain ⟨rfl, c⟩ := c
        have ez : z = y.toNat := by omega
        subst ez
        right
        rcases h5 with ⟨_, d1, d2⟩ | ⟨d1, _⟩
        · refine ⟨rfl, ?_, d1.trans hv.symm⟩
          rw [d2, d1, ← hv, ← hs, ← hn, hu, hw, Int.mul_comm]
        · exact absurd hq d1
      · exact Or.inl ⟨h0, h1, z, h3, h4, h5, by omega⟩
    · rintro (⟨h0, h1, z, h3, h4, h5, h6⟩ | ⟨e1, e2, e3⟩)
      · exact ⟨h0, h1, z, h3, h4, h5, by omega⟩
      · rw [e1, e2, e3]
        refine ⟨hy.2.2.2.1, hy.2.2.2.2, y.toNat, by omega, hm, Or.inl ⟨hq, hv, ?_⟩, Or.inr ⟨rfl, by omega⟩⟩
        rw [hu, hw, hs, hn, Int.mul_comm]
  by_cases e : h = -1
  · refine zBe_o (m := 1) g hD hv0 hy.2.2.2.1 hC (Or.inl ⟨e, rfl⟩) (Or.inl ⟨Or.inl (by decide), ?_⟩)
    rcases ht with ht | ht
    · exact ht.2
    · exact absurd e ht.1
  · have exb : xb = u * b := by
      rcases hxb with z | z
      · exact absurd z e
      · exact z
    have exv : xv = a * v := by
      rcases hxv with z | z
      · exact absurd z e
      · exact z
    refine zBe_o (m := xb - xv) g hD hv0 hy.2.2.2.1 hC (Or.inr ⟨e, by rw [exb, exv]⟩) ?_
    omega
end REF
/-! exact products, and int operations by the machine's own name -/
theorem zmul_b {x y A B : Int} (hx : -A ≤ x ∧ x ≤ A) (hy : -B ≤ y ∧ y ≤ B) : -(A * B) ≤ x * y ∧ x * y ≤ A * B := by
  have h1 : (x * y).natAbs ≤ A.toNat * B.toNat := by
    rw [Int.natAbs_mul]
    exact Nat.mul_le_mul (by omega) (by omega)
  have h2 : ((A.toNat * B.toNat : Nat) : Int) = A * B := by
    rw [Int.natCast_mul, Int.toNat_of_nonneg (by omega), Int.toNat_of_nonneg (by omega)]
  have h3 : ((x * y).natAbs : Int) ≤ A * B := by
    rw [← h2]
    exact Int.ofNat_le.mpr h1
  omega
section ZXM
variable {E : zE} {d k pc q : Nat} {L S : List zV} {m : zM} {Q : zV → zM → Prop} {i : Instr} {a1 a2 : Nat}
theorem zw_18q {x y A B : Int} (h : zRow xM k pc = some (18, i, q, a1, a2)) (hx : -A ≤ x ∧ x ≤ A) (hy : -B ≤ y ∧ y ≤ B) (hab : A * B ≤ 2147483647) (n : ∀ r : Int, r = x * y → -(A * B) ≤ r → r ≤ A * B → zW E d k q L ((0, r) :: S) m Q) : zW E d k pc L ((0, y) :: (0, x) :: S) m Q := by
  have hb := zmul_b hx hy
  exact zw_18 h (by omega) (n _ rfl hb.1 hb.2)
theorem zw_29q {x y A B : Int} (h : zRow xM k pc = some (29, i, q, a1, a2)) (hx : -A ≤ x ∧ x ≤ A) (hy : -B ≤ y ∧ y ≤ B) (hab : A * B ≤ 9223372036854775807) (n : ∀ r : Int, r = x * y → -(A * B) ≤ r → r ≤ A * B → zW E d k q L ((1, r) :: S) m Q) : zW E d k pc L ((1, y) :: (1, x) :: S) m Q := by
  have hb := zmul_b hx hy
  exact zw_29 h (by omega) (n _ rfl hb.1 hb.2)
def Iadd (x y : Int) : Int := (Int32.ofInt x + Int32.ofInt y).toInt
def Isub (x y : Int) : Int := (Int32.ofInt x - Int32.ofInt y).toInt
def Iand (x y : Int) : Int := (Int32.ofInt x &&& Int32.ofInt y).toInt
def Iush (x y : Int) : Int := (((Int32.ofInt x).toUInt32 >>> ((Int32.ofInt y).toUInt32 &&& Int32.toUInt32 31)).toInt32).toInt
theorem zw_16x {x y : Int} (h : zRow xM k pc = some (16, i, q, a1, a2)) (n : ∀ r : Int, r = Iadd x y → -2147483648 ≤ r → r ≤ 2147483647 → zW E d k q L ((0, r) :: S) m Q) : zW E d k pc L ((0, y) :: (0, x) :: S) m Q :=
  zw_p h (by decide) (by decide) rfl (n (Iadd x y) rfl (zToInt _).1 (zToInt _).2)
theorem zw_17x {x y : Int} (h : zRow xM k pc = some (17, i, q, a1, a2)) (n : ∀ r : Int, r = Isub x y → -2147483648 ≤ r → r ≤ 2147483647 → zW E d k q L ((0, r) :: S) m Q) : zW E d k pc L ((0, y) :: (0, x) :: S) m Q :=
  zw_p h (by decide) (by decide) rfl (n (Isub x y) rfl (zToInt _).1 (zToInt _).2)
theorem zw_21x {x y : Int} (h : zRow xM k pc = some (21, i, q, a1, a2)) (n : ∀ r : Int, r = Iand x y → -2147483648 ≤ r → r ≤ 2147483647 → zW E d k q L ((0, r) :: S) m Q) : zW E d k pc L ((0, y) :: (0, x) :: S) m Q :=
  zw_p h (by decide) (by decide) rfl (n (Iand x y) rfl (zToInt _).1 (zToInt _).2)
theorem zw_26x {x y : Int} (h : zRow xM k pc = some (26, i, q, a1, a2)) (n : ∀ r : Int, r = Iush x y → -2147483648 ≤ r → r ≤ 2147483647 → zW E d k q L ((0, r) :: S) m Q) : zW E d k pc L ((0, y) :: (0, x) :: S) m Q :=
  zw_p h (by decide) (by decide) rfl (n (Iush x y) rfl (zToInt _).1 (zToInt _).2)
end ZXM
/-! the machine's Integer.bitCount, of ten bits -/
def bctc (v : Int) : Int :=
  let t3 := Isub v (Iand (Iush v 1) 1431655765)
  let t7 := Iadd (Iand t3 858993459) (Iand (Iush t3 2) 858993459)
  let t10 := Iand (Iadd t7 (Iush t7 4)) 252645135
  let t12 := Iadd t10 (Iush t10 8)
  Iand (Iadd t12 (Iush t12 16)) 63
theorem bctc_all : ∀ v : Fin 1024, bctc (v.val : Int) = smp (zbt (v.val : Int)) (fun _ => 1) 10 := by decide +kernel
theorem bct_e {v t1 t2 t3 t4 t5 t6 t7 t8 t9 t10 t11 t12 t13 t14 t15 : Int} (hv : 0 ≤ v ∧ v ≤ 1023) (e1 : t1 = Iush v 1) (e2 : t2 = Iand t1 1431655765) (e3 : t3 = Isub v t2) (e4 : t4 = Iand t3 858993459) (e5 : t5 = Iush t3 2) (e6 : t6 = Iand t5 858993459) (e7 : t7 = Iadd t4 t6) (e8 : t8 = Iush t7 4) (e9 : t9 = Iadd t7 t8) (e10 : t10 = Iand t9 252645135) (e11 : t11 = Iush t10 8) (e12 : t12 = Iadd t10 t11) (e13 : t13 = Iush t12 16) (e14 : t14 = Iadd t12 t13) (e15 : t15 = Iand t14 63) : t15 = smp (zbt v) (fun _ => 1) 10 := by
  have h := bctc_all ⟨v.toNat, by omega⟩
  have ev : ((v.toNat : Nat) : Int) = v := by omega
  have h : bctc ((v.toNat : Nat) : Int) = smp (zbt ((v.toNat : Nat) : Int)) (fun _ => 1) 10 := h
  rw [ev] at h
  rw [← h, e15, e14, e13, e12, e11, e10, e9, e8, e7, e6, e5, e4, e3, e2, e1]
  rfl
/-! small things -/
def nbB (f : Nat → Int) : Prop := ∀ p : Nat, p < 10 → -100000 ≤ f p ∧ f p ≤ 100000
theorem nbB_p {f g h : Nat → Int} {n : Int} (hb : zPb (f, g, h) n) (hn : n ≤ 60) : nbB f := fun p hp => by
  have z : (-(10000 + 1000 * n) ≤ f p ∧ f p ≤ 10000 + 1000 * n) ∧ 0 ≤ g p ∧ g p ≤ 2 * n := hb p hp
  omega
theorem zPt_at {f : Nat → Int} {k j : Nat} {v : Int} (h : j = k) : zPt f k v j = v := by
  rw [h]
  exact zPt_eq
theorem zJr_0 {who q k c s : Int} {F : Nat → Int} {t : zJT} : zJr who q k c s F 0 t t := rfl
theorem nHm_e {ch A B E Y G : Nat → Int} {v n y : Int} {p : Nat} (h : 0 ≤ y) : nHm ch A B E Y G v n p y.toNat = nbr ch A B E Y G v (kcy Y y n.toNat) p := by
  show nbr ch A B E Y G v (kcy Y ((y.toNat : Nat) : Int) n.toNat) p = _
  rw [show ((y.toNat : Nat) : Int) = y by omega]
theorem smp_t {f g : Nat → Int} {i i1 s s1 x : Int} (h : s = smp f g i.toNat) (hi : 0 ≤ i ∧ i1 = i + 1) (hx : (f i.toNat = 1 ∧ x = g i.toNat ∧ s1 = s + x) ∨ (f i.toNat ≠ 1 ∧ s1 = s)) : s1 = smp f g i1.toNat := by
  rcases hx with ⟨h1, h2, h3⟩ | ⟨h1, h2⟩
  · rw [smp_y (n := i.toNat) (by omega) h1, ← h, h3, h2]
  · rw [smp_n (n := i.toNat) (by omega) h1, ← h, h2]
theorem bBe_k {k k' : Int} {P yb : Nat} {M N : Nat → Nat → Int} {h a b : Int} (g : bBe 2 k P M N yb h a b) : bBe 2 k' P M N yb h a b := by
  refine zBe_cg g (fun p x d => ?_)
  constructor
  · rintro ⟨h0, h1, y, h2, h3, h4⟩
    refine ⟨h0, h1, y, h2, h3, ?_⟩
    rcases h4 with h4 | ⟨h4, _⟩
    · exact Or.inl h4
    · exact absurd rfl h4
  · rintro ⟨h0, h1, y, h2, h3, h4⟩
    refine ⟨h0, h1, y, h2, h3, ?_⟩
    rcases h4 with h4 | ⟨h4, _⟩
    · exact Or.inl h4
    · exact absurd rfl h4
def zNy (N : Nat → Nat → Int) (f : Nat → Int) (y : Nat) : Prop := ∀ p : Nat, p < 10 → f p = N p y ∧ -100000 ≤ f p ∧ f p ≤ 100000
def zNz (N : Nat → Nat → Int) (f : Nat → Int) (y : Nat) (n : Int) : Prop := ∀ p : Nat, (p : Int) < n → f p = N p y ∧ -100000 ≤ f p ∧ f p ≤ 100000
