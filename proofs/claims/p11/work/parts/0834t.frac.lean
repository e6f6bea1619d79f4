/-! Euclid's way: both sides end at the same number, the class within a hundred rounds -/
def eu (s : Int × Int) : Int × Int := if s.2 = 0 then s else (s.2, s.1 % s.2)
def eun : Nat → Int × Int → Int × Int
  | 0, s => s
  | k + 1, s => eun k (eu s)
theorem eu_y {a b : Int} (h : b ≠ 0) : eu (a, b) = (b, a % b) := if_neg h
theorem eu_z {s : Int × Int} (h : s.2 = 0) : eu s = s := if_pos h
theorem eun_s (k : Nat) : ∀ s, eun (k + 1) s = eu (eun k s) := by
  induction k with
  | zero => exact fun s => rfl
  | succ k ih => exact fun s => ih (eu s)
theorem eun_z {k : Nat} {s : Int × Int} (h : s.2 = 0) : eun k s = s := by
  induction k with
  | zero => rfl
  | succ k ih => rw [eun_s, ih, eu_z h]
theorem eun_add (j k : Nat) (s : Int × Int) : eun (j + k) s = eun k (eun j s) := by
  induction k with
  | zero => rfl
  | succ k ih => rw [show j + (k + 1) = (j + k) + 1 by omega, eun_s, ih, ← eun_s]
theorem eun_un {i j : Nat} {s : Int × Int} {g h : Int} (a : eun i s = (g, 0)) (b : eun j s = (h, 0)) : g = h := by
  rcases Nat.le_total i j with c | c
  · have e := eun_add i (j - i) s
    rw [show i + (j - i) = j by omega, a, b, eun_z (s := (g, 0)) rfl] at e
    exact (congrArg Prod.fst e).symm
  · have e := eun_add j (i - j) s
    rw [show j + (i - j) = i by omega, a, b, eun_z (s := (h, 0)) rfl] at e
    exact congrArg Prod.fst e
def fib : Nat → Int × Int
  | 0 => (1, 1)
  | k + 1 => ((fib k).2, (fib k).1 + (fib k).2)
/-- as many rounds want numbers as great -/
theorem eu_fib (k : Nat) : ∀ a b : Int, 0 ≤ a → 0 < b → (eun k (a, b)).2 ≠ 0 → (fib k).1 ≤ b ∧ (b ≤ a → (fib k).2 ≤ a) := by
  induction k with
  | zero =>
    intro a b ha hb _
    show (1 : Int) ≤ b ∧ (b ≤ a → (1 : Int) ≤ a)
    omega
  | succ k ih =>
    intro a b ha hb h
    have h : (eun k (eu (a, b))).2 ≠ 0 := h
    rw [eu_y (by omega)] at h
    have m0 := Int.emod_nonneg a (show b ≠ 0 by omega)
    have m1 := Int.emod_lt_of_pos a hb
    have m2 := Int.emod_add_mul_ediv a b
    have hr : a % b ≠ 0 := fun z => h (by rw [z, eun_z (s := (b, 0)) rfl])
    obtain ⟨i1, i2⟩ := ih b (a % b) (by omega) (by omega) h
    have i2 := i2 (by omega)
    show (fib k).2 ≤ b ∧ (b ≤ a → (fib k).1 + (fib k).2 ≤ a)
    refine ⟨i2, fun hab => ?_⟩
    have d1 : 1 ≤ a / b := by
      have z := Int.ediv_le_ediv hb hab
      rw [Int.ediv_self (by omega)] at z
      exact z
    have d2 : b * 1 ≤ b * (a / b) := Int.mul_le_mul_of_nonneg_left d1 (by omega)
    omega
theorem fib_92 : (fib 92).1 = 12200160415121876738 := by decide +kernel
theorem fib_m (j : Nat) : 0 ≤ (fib j).1 ∧ (fib j).1 ≤ (fib (j + 1)).1 ∧ 0 ≤ (fib j).2 := by
  induction j with
  | zero => decide
  | succ j ih =>
    have e1 : (fib (j + 1)).1 = (fib j).2 := rfl
    have e2 : (fib (j + 1)).2 = (fib j).1 + (fib j).2 := rfl
    have e3 : (fib (j + 1 + 1)).1 = (fib (j + 1)).2 := rfl
    omega
theorem fib_le (j k : Nat) (h : j ≤ k) : (fib j).1 ≤ (fib k).1 := by
  induction h with
  | refl => exact Int.le_refl _
  | step _ ih => exact Int.le_trans ih (fib_m _).2.1
theorem eu_100 {a b : Int} (ha : 0 ≤ a) (hb : 0 < b ∧ b ≤ 9223372036854775807) : (eun 100 (a, b)).2 = 0 := by
  by_cases h : (eun 100 (a, b)).2 = 0
  · exact h
  · have z := (eu_fib 100 a b ha hb.1 h).1
    have z2 := fib_le 92 100 (by omega)
    rw [fib_92] at z2
    omega
def egd (s : Int × Int) (g : Int) : Prop := ∃ i, eun i s = (g, 0)
theorem egd_un {s : Int × Int} {g h : Int} (a : egd s g) (b : egd s h) : g = h := by
  obtain ⟨i, a⟩ := a
  obtain ⟨j, b⟩ := b
  exact eun_un a b
theorem eun_nn (k : Nat) {a b : Int} (ha : 0 ≤ a) (hb : 0 ≤ b) : 0 ≤ (eun k (a, b)).1 ∧ 0 ≤ (eun k (a, b)).2 := by
  induction k with
  | zero => exact ⟨ha, hb⟩
  | succ k ih =>
    rw [eun_s]
    generalize eun k (a, b) = s at ih
    obtain ⟨u, v⟩ := s
    obtain ⟨h1, h2⟩ := ih
    by_cases c : v = 0
    · rw [eu_z c]
      exact ⟨h1, h2⟩
    · rw [eu_y c]
      exact ⟨h2, Int.emod_nonneg u c⟩
theorem eun_ps (k : Nat) {a b : Int} (ha : 0 ≤ a) (hb : 0 < b) : 0 < (eun k (a, b)).1 ∨ 0 < (eun k (a, b)).2 := by
  induction k with
  | zero => exact Or.inr hb
  | succ k ih =>
    have hn := eun_nn k ha (Int.le_of_lt hb)
    rw [eun_s]
    generalize eun k (a, b) = s at ih hn
    obtain ⟨u, v⟩ := s
    obtain ⟨h1, h2⟩ := hn
    by_cases c : v = 0
    · rw [eu_z c]
      exact ih
    · rw [eu_y c]
      left
      show 0 < v
      have : (0 : Int) ≤ v := h2
      omega
theorem eu_st {a b i i1 c : Int} {s : Int × Int} (h : (a, b) = eun i.toNat s) (hb : b ≠ 0) (h1 : 0 ≤ i ∧ i1 = i + 1) (hc : c = a % b) : (b, c) = eun i1.toNat s := by
  rw [show i1.toNat = i.toNat + 1 by omega, eun_s, ← h, eu_y hb, hc]
theorem egd_0 {a b i : Int} {s : Int × Int} (h : (a, b) = eun i.toNat s) (hb : b = 0) : egd s a := ⟨i.toNat, by rw [← h, hb]⟩
theorem egd_100 {a b i x y : Int} (h : (a, b) = eun i.toNat (x, y)) (hi : i = 100) (hx : 0 ≤ x) (hy : 0 < y ∧ y ≤ 9223372036854775807) : egd (x, y) a := by
  have z := eu_100 hx hy
  subst hi
  have e : b = 0 := by
    have w : ((a, b) : Int × Int).2 = (eun 100 (x, y)).2 := congrArg Prod.snd h
    rw [z] at w
    exact w
  exact egd_0 h e
theorem egd_p {x y g : Int} (h : egd (x, y) g) (hx : 0 ≤ x) (hy : 0 < y) : 0 < g := by
  obtain ⟨i, h⟩ := h
  have z := eun_ps i hx hy
  rw [h] at z
  rcases z with z | z
  · exact z
  · exact absurd z (by show ¬ ((0 : Int) < 0); decide)
section ZEU
variable {E : zE} {d k pc q : Nat} {L S : List zV} {m : zM} {Q : zV → zM → Prop} {i : Instr} {a1 a2 : Nat}
theorem zw_119x {x y : Int} (h : zRow xM k pc = some (119, i, q, a1, a2)) (hx : 0 ≤ x ∧ x ≤ 9223372036854775807) (hy : 0 < y ∧ y ≤ 9223372036854775807) (n : ∀ r : Int, r = x % y → 0 ≤ r → r < y → zW E d k q L ((1, r) :: S) m Q) : zW E d k pc L ((1, y) :: (1, x) :: S) m Q := by
  obtain ⟨e, hb⟩ := zrem64 (x := x) (y := y) (by omega) (by omega) (by omega)
  have e2 : x.tmod y = x % y := Int.tmod_eq_emod_of_nonneg hx.1
  have h1 := Int.emod_nonneg x (show y ≠ 0 by omega)
  have h2 := Int.emod_lt_of_pos x hy.1
  refine zw_p h (by decide) (by decide) ?_ (n (x % y) rfl h1 h2)
  show (if y = 0 then none else some (q, L, (1, (Int64.ofInt x - Int64.ofInt x / Int64.ofInt y * Int64.ofInt y).toInt) :: S, m)) = _
  rw [if_neg (by omega), e, e2]
theorem zw_125x {x : Int} (h : zRow xM k pc = some (125, i, q, a1, a2)) (hs : zCats S ≤ 8) (hd : 0 < d) (hx : -4611686018427387904 ≤ x ∧ x ≤ 4611686018427387904) (n : ∀ r : Int, ((0 ≤ x ∧ r = x) ∨ (x < 0 ∧ r = -x)) → zW E d k q L ((1, r) :: S) m Q) : zW E d k pc L ((1, x) :: S) m Q := by
  have hp : zPure E.1 E.2 d k 125 i pc q a1 a2 L ((1, x) :: S) m = some (q, L, (1, (if 0 < Int64.ofInt x then Int64.ofInt x else -(Int64.ofInt x)).toInt) :: S, m) := if_pos ⟨hs, hd⟩
  have h0 : (0 : Int64) < Int64.ofInt x ↔ 0 < x := zlt64 (x := 0) (y := x) (by omega) (by omega)
  by_cases hc : 0 < x
  · rw [if_pos (h0.mpr hc), zL_of (by omega)] at hp
    exact zw_p h (by decide) (by decide) hp (n x (Or.inl ⟨by omega, rfl⟩))
  · have e : (-(Int64.ofInt x)).toInt = -x := by
      rw [← Int64.ofInt_neg, zL_of (by omega)]
    rw [if_neg (fun z => hc (h0.mp z)), e] at hp
    refine zw_p h (by decide) (by decide) hp (n (-x) ?_)
    omega
end ZEU
/-! lowest terms -/
theorem egd_gcd {u y g : Int} (h : egd (u, y) g) (hu : 0 ≤ u) (hy : 0 ≤ y) : g = ((Nat.gcd u.toNat y.toNat : Nat) : Int) := by
  obtain ⟨i, h⟩ := h
  have t : ∀ k, Nat.gcd (eun k (u, y)).1.toNat (eun k (u, y)).2.toNat = Nat.gcd u.toNat y.toNat := by
    intro k
    induction k with
    | zero => rfl
    | succ k ih =>
      have hn := eun_nn k hu hy
      rw [eun_s]
      generalize eun k (u, y) = s at ih hn
      obtain ⟨a, b⟩ := s
      obtain ⟨h1, h2⟩ := hn
      by_cases c : b = 0
      · rw [eu_z c]
        exact ih
      · rw [eu_y c]
        refine Eq.trans ?_ ih
        show Nat.gcd b.toNat (a % b).toNat = Nat.gcd a.toNat b.toNat
        rw [Int.toNat_emod h1 h2]
        exact ((Nat.gcd_comm _ _).trans (Nat.gcd_rec b.toNat a.toNat).symm).trans (Nat.gcd_comm _ _)
  have z := t i
  have hn := (eun_nn i hu hy).1
  rw [h] at z hn
  have z : Nat.gcd g.toNat 0 = Nat.gcd u.toNat y.toNat := z
  have hn : 0 ≤ g := hn
  rw [Nat.gcd_zero_right] at z
  omega
theorem ncp {U Y U' Y' : Nat} (hY : 0 < Y) (hY' : 0 < Y') (e : U * Y' = U' * Y) : U / Nat.gcd U Y = U' / Nat.gcd U' Y' ∧ Y / Nat.gcd U Y = Y' / Nat.gcd U' Y' := by
  have g1 : 0 < Nat.gcd U Y := Nat.gcd_pos_of_pos_right U hY
  have g2 : 0 < Nat.gcd U' Y' := Nat.gcd_pos_of_pos_right U' hY'
  have c1 : Nat.Coprime (U / Nat.gcd U Y) (Y / Nat.gcd U Y) := Nat.coprime_div_gcd_div_gcd g1
  have c2 : Nat.Coprime (U' / Nat.gcd U' Y') (Y' / Nat.gcd U' Y') := Nat.coprime_div_gcd_div_gcd g2
  have k1 := Nat.mul_div_cancel' (Nat.gcd_dvd_left U Y)
  have k2 := Nat.mul_div_cancel' (Nat.gcd_dvd_right U Y)
  have k3 := Nat.mul_div_cancel' (Nat.gcd_dvd_left U' Y')
  have k4 := Nat.mul_div_cancel' (Nat.gcd_dvd_right U' Y')
  generalize hG : Nat.gcd U Y = G at *
  generalize hG' : Nat.gcd U' Y' = G' at *
  generalize hA : U / G = A at *
  generalize hB : Y / G = B at *
  generalize hA' : U' / G' = A' at *
  generalize hB' : Y' / G' = B' at *
  have e2 : (G * G') * (A * B') = (G * G') * (A' * B) := by
    calc (G * G') * (A * B') = (G * A) * (G' * B') := Nat.mul_mul_mul_comm G G' A B'
      _ = U * Y' := by rw [k1, k4]
      _ = U' * Y := e
      _ = (G' * A') * (G * B) := by rw [k3, k2]
      _ = (G' * G) * (A' * B) := (Nat.mul_mul_mul_comm G' G A' B).symm
      _ = (G * G') * (A' * B) := by rw [Nat.mul_comm G' G]
  have e3 : A * B' = A' * B := Nat.eq_of_mul_eq_mul_left (Nat.mul_pos g1 g2) e2
  have d1 : B ∣ B' := Nat.Coprime.dvd_of_dvd_mul_left (Nat.Coprime.symm c1) ⟨A', by rw [e3, Nat.mul_comm]⟩
  have d2 : B' ∣ B := Nat.Coprime.dvd_of_dvd_mul_left (Nat.Coprime.symm c2) ⟨A, by rw [← e3, Nat.mul_comm]⟩
  have hBB : B = B' := Nat.dvd_antisymm d1 d2
  subst hBB
  have hB0 : 0 < B := by
    rcases Nat.eq_zero_or_pos B with z | z
    · rw [z, Nat.mul_zero] at k2
      omega
    · exact z
  exact ⟨Nat.eq_of_mul_eq_mul_right hB0 e3, rfl⟩
theorem Ldiv_m {g a : Int} (hg : 0 < g ∧ g ≤ 4611686018427387904) (ha : -4611686018427387904 ≤ g * a ∧ g * a ≤ 4611686018427387904) : Ldiv (g * a) g = a := by
  have h : -4611686018427387904 ≤ a ∧ a ≤ 4611686018427387904 := by
    by_cases c : 0 ≤ a
    · have := Int.mul_le_mul_of_nonneg_right (show (1 : Int) ≤ g by omega) c
      omega
    · have := Int.mul_le_mul_of_nonneg_right (show (1 : Int) ≤ g by omega) (show 0 ≤ -a by omega)
      rw [Int.mul_neg, Int.mul_neg] at this
      omega
  unfold Ldiv
  rw [Int64.toInt_div, zL_of (by omega), zL_of (by omega), Int.mul_tdiv_cancel_left a (by omega)]
  exact Int.bmod_eq_of_le (by omega) (by omega)
/-- THE FRACTION x by y, as it is told -/
def zTl (x y a b : Int) : Prop := ∃ u g, ((0 ≤ x ∧ u = x) ∨ (x < 0 ∧ u = -x)) ∧ egd (u, y) g ∧ a = Ldiv x g ∧ b = Ldiv y g
theorem zTl_un {x y a b c d : Int} (h : zTl x y a b) (h' : zTl x y c d) : a = c ∧ b = d := by
  obtain ⟨u, g, h1, h2, h3, h4⟩ := h
  obtain ⟨u', g', k1, k2, k3, k4⟩ := h'
  have e : u = u' := by omega
  subst e
  have e := egd_un h2 k2
  subst e
  exact ⟨h3.trans k3.symm, h4.trans k4.symm⟩
theorem zTl_A {x y a b : Int} (h : zTl x y a b) (hx : -4611686018427387904 ≤ x ∧ x ≤ 4611686018427387904) (hy : 0 < y ∧ y ≤ 4611686018427387904) : ((0 ≤ x ∧ a = ((x.natAbs / Nat.gcd x.natAbs y.natAbs : Nat) : Int)) ∨ (x < 0 ∧ a = -((x.natAbs / Nat.gcd x.natAbs y.natAbs : Nat) : Int))) ∧ b = ((y.natAbs / Nat.gcd x.natAbs y.natAbs : Nat) : Int) := by
  obtain ⟨u, g, h1, h2, h3, h4⟩ := h
  have e1 : u.toNat = x.natAbs := by omega
  have e2 : y.toNat = y.natAbs := by omega
  have hg := egd_gcd h2 (by omega) (by omega)
  rw [e1, e2] at hg
  have hG : 0 < Nat.gcd x.natAbs y.natAbs := Nat.gcd_pos_of_pos_right _ (by omega)
  have hl : Nat.gcd x.natAbs y.natAbs ≤ y.natAbs := Nat.le_of_dvd (by omega) (Nat.gcd_dvd_right x.natAbs y.natAbs)
  have kx := Nat.mul_div_cancel' (Nat.gcd_dvd_left x.natAbs y.natAbs)
  have ky := Nat.mul_div_cancel' (Nat.gcd_dvd_right x.natAbs y.natAbs)
  generalize Nat.gcd x.natAbs y.natAbs = G at hg hG hl kx ky ⊢
  generalize x.natAbs / G = A at kx ⊢
  generalize y.natAbs / G = B at ky ⊢
  subst hg
  have kx' : (x.natAbs : Int) = (G : Int) * (A : Int) := by
    rw [← Int.natCast_mul, kx]
  have ky' : (y.natAbs : Int) = (G : Int) * (B : Int) := by
    rw [← Int.natCast_mul, ky]
  refine ⟨?_, ?_⟩
  · by_cases c : 0 ≤ x
    · left
      have ex : x = (G : Int) * (A : Int) := by omega
      refine ⟨c, ?_⟩
      rw [h3, ex]
      exact Ldiv_m (by omega) (by omega)
    · right
      have ex : x = (G : Int) * (-(A : Int)) := by
        rw [Int.mul_neg]
        omega
      refine ⟨by omega, ?_⟩
      rw [h3, ex]
      exact Ldiv_m (by omega) (by rw [← ex]; exact hx)
  · have ey : y = (G : Int) * (B : Int) := by omega
    rw [h4, ey]
    exact Ldiv_m (by omega) (by omega)
/-- like fractions are told alike -/
theorem zTl_pr {x y a b x' y' c d : Int} (h : zTl x y a b) (h' : zTl x' y' c d) (hx : -4611686018427387904 ≤ x ∧ x ≤ 4611686018427387904) (hy : 0 < y ∧ y ≤ 4611686018427387904) (hx' : -4611686018427387904 ≤ x' ∧ x' ≤ 4611686018427387904) (hy' : 0 < y' ∧ y' ≤ 4611686018427387904) (e : x * y' = x' * y) : a = c ∧ b = d := by
  obtain ⟨p1, p2⟩ := zTl_A h hx hy
  obtain ⟨q1, q2⟩ := zTl_A h' hx' hy'
  have en : x.natAbs * y'.natAbs = x'.natAbs * y.natAbs := by
    rw [← Int.natAbs_mul, ← Int.natAbs_mul, e]
  obtain ⟨n1, n2⟩ := ncp (by omega) (by omega) en
  rw [n1] at p1
  rw [n2] at p2
  refine ⟨?_, p2.trans q2.symm⟩
  rcases p1 with ⟨s1, s2⟩ | ⟨s1, s2⟩
  · rcases q1 with ⟨t1, t2⟩ | ⟨t1, t2⟩
    · rw [s2, t2]
    · have z1 := Int.mul_nonneg s1 (Int.le_of_lt hy'.1)
      have z2 := Int.mul_neg_of_neg_of_pos t1 hy.1
      omega
  · rcases q1 with ⟨t1, t2⟩ | ⟨t1, t2⟩
    · have z1 := Int.mul_nonneg t1 (Int.le_of_lt hy.1)
      have z2 := Int.mul_neg_of_neg_of_pos s1 hy'.1
      omega
    · rw [s2, t2]
/-! the reference's loop -/
def zEu (u y a b : Int) : Prop := ∃ k, (a, b) = eun k (u, y)
theorem zEu_0 {u y : Int} : zEu u y u y := ⟨0, rfl⟩
theorem zEu_s {u y a b c : Int} (h : zEu u y a b) (hb : b ≠ 0) (hc : c = a % b) : zEu u y b c := by
  obtain ⟨k, h⟩ := h
  exact ⟨k + 1, by rw [eun_s, ← h, eu_y hb, hc]⟩
theorem zEu_g {u y a b : Int} (h : zEu u y a b) (hb : b = 0) : egd (u, y) a := by
  obtain ⟨k, h⟩ := h
  exact ⟨k, by rw [← h, hb]⟩
theorem zw_117q {E : zE} {d k pc q a1 a2 : Nat} {L S : List zV} {m : zM} {Q : zV → zM → Prop} {i : Instr} {x : Int} (h : zRow xM k pc = some (117, i, q, a1, a2)) (hx : -9223372036854775807 ≤ x ∧ x ≤ 9223372036854775807) (n : zW E d k q L ((1, -x) :: S) m Q) : zW E d k pc L ((1, x) :: S) m Q := by
  refine zw_p h (by decide) (by decide) ?_ n
  show some (q, L, (1, (-(Int64.ofInt x)).toInt) :: S, m) = _
  rw [← Int64.ofInt_neg, zL_of (by omega)]
/-! who met in two years: what they rose by, how many -/
theorem smp_sub {f g h : Nat → Int} {n : Nat} : smp f g n - smp f h n = smp f (fun i => g i - h i) n := by
  induction n with
  | zero => rfl
  | succ n ih =>
    by_cases c : f n = 1
    · rw [smp_y rfl c, smp_y rfl c, smp_y rfl c]
      omega
    · rw [smp_n rfl c, smp_n rfl c, smp_n rfl c]
      exact ih
def bMt (M : Nat → Nat → Int) (y1 y2 : Nat) : Nat → Int := fun o => if M o y1 = 1 ∧ M o y2 = 1 then 1 else 0
theorem bMt_1 {M : Nat → Nat → Int} {y1 y2 o : Nat} : bMt M y1 y2 o = 1 ↔ M o y1 = 1 ∧ M o y2 = 1 := by
  unfold bMt
  by_cases c : M o y1 = 1 ∧ M o y2 = 1
  · rw [if_pos c]
    exact ⟨fun _ => c, fun _ => rfl⟩
  · rw [if_neg c]
    exact ⟨fun z => absurd z (by decide), fun z => absurd z c⟩
/-- the rise, by how many -/
def crs (P : Nat) (M N : Nat → Nat → Int) (y1 y2 : Nat) (x y : Int) : Prop := x = smp (bMt M y1 y2) (fun o => N o y2 - N o y1) P ∧ y = smp (bMt M y1 y2) (fun _ => 1) P
theorem crs_un {P : Nat} {M N M' N' : Nat → Nat → Int} {y1 y2 : Nat} {x y x' y' : Int} (h : crs P M N y1 y2 x y) (h' : crs P M' N' y1 y2 x' y') (hM : ∀ o z, o < P → M' o z = M o z) (hN : ∀ o z, o < P → N' o z = N o z) : x = x' ∧ y = y' := by
  obtain ⟨h1, h2⟩ := h
  obtain ⟨k1, k2⟩ := h'
  have e : ∀ g g' : Nat → Int, (∀ o, o < P → g' o = g o) → smp (bMt M' y1 y2) g' P = smp (bMt M y1 y2) g P := fun g g' hg => smp_cg (fun o ho => by rw [bMt_1, bMt_1, hM o y1 ho, hM o y2 ho]) (fun o ho _ => hg o ho)
  rw [h1, h2, k1, k2, e (fun o => N o y2 - N o y1) (fun o => N' o y2 - N' o y1) (fun o ho => by rw [hN o y1 ho, hN o y2 ho]), e (fun _ => 1) (fun _ => 1) (fun _ _ => rfl)]
  exact ⟨rfl, rfl⟩
/-! chances: powers, choices, cases -/
def pwi (a : Int) : Nat → Int
  | 0 => 1
  | n + 1 => pwi a n * a
theorem pwi_s {a : Int} {n k : Nat} (h : k = n + 1) : pwi a k = pwi a n * a := by
  subst h
  rfl
theorem pwi_8 : ∀ n : Fin 16, 0 ≤ pwi 8 n.val ∧ pwi 8 n.val ≤ 35184372088832 := by decide +kernel
theorem pwi_9 : ∀ n : Fin 16, 0 ≤ pwi 9 n.val ∧ pwi 9 n.val ≤ 205891132094649 := by decide +kernel
theorem pwi_m {a b : Int} (ha : 1 ≤ a ∧ a ≤ b) (n : Nat) : 1 ≤ pwi a n ∧ pwi a n ≤ pwi b n := by
  induction n with
  | zero => exact ⟨Int.le_refl 1, Int.le_refl _⟩
  | succ n ih =>
    have h1 : 1 * 1 ≤ pwi a n * a := Int.mul_le_mul ih.1 ha.1 (by decide) (by omega)
    have h2 : pwi a n * a ≤ pwi b n * b := Int.mul_le_mul ih.2 ha.2 (by omega) (by omega)
    exact ⟨h1, h2⟩
theorem pwi_add (a : Int) (i j : Nat) : pwi a (i + j) = pwi a i * pwi a j := by
  induction j with
  | zero =>
    show pwi a i = pwi a i * 1
    rw [Int.mul_one]
  | succ j ih =>
    show pwi a (i + j) * a = pwi a i * (pwi a j * a)
    rw [ih, Int.mul_assoc]
theorem pwi_b {a : Int} {n : Nat} (ha : 1 ≤ a ∧ a ≤ 9) (hn : n ≤ 15) : 1 ≤ pwi a n ∧ pwi a n ≤ 205891132094649 := by
  have h1 := pwi_m ha n
  have h2 := pwi_9 ⟨n, by omega⟩
  have h2 : 0 ≤ pwi 9 n ∧ pwi 9 n ≤ 205891132094649 := h2
  omega
/-- a to the i times c to the j, both at most 8 -/
theorem pwi_t {a c : Int} {i j : Nat} (ha : 1 ≤ a ∧ a ≤ 8) (hc : 1 ≤ c ∧ c ≤ 8) (hn : i + j ≤ 15) : 0 ≤ pwi a i * pwi c j ∧ pwi a i * pwi c j ≤ 35184372088832 := by
  have h1 := pwi_m ha i
  have h2 := pwi_m hc j
  have h3 : pwi a i * pwi c j ≤ pwi 8 i * pwi 8 j := Int.mul_le_mul h1.2 h2.2 (by omega) (by omega)
  have h4 := Int.mul_nonneg (show 0 ≤ pwi a i by omega) (show 0 ≤ pwi c j by omega)
  rw [← pwi_add] at h3
  have h5 : 0 ≤ pwi 8 (i + j) ∧ pwi 8 (i + j) ≤ 35184372088832 := pwi_8 ⟨i + j, by omega⟩
  omega
/-- how many choices of i of n -/
def evc (n : Int) : Nat → Int
  | 0 => 1
  | i + 1 => evc n i * (n - i) / ((i : Int) + 1)
theorem evc_s {n : Int} {i k : Nat} (h : k = i + 1) : evc n k = evc n i * (n - i) / ((i : Int) + 1) := by
  subst h
  rfl
theorem evc_all : ∀ n : Fin 16, ∀ i : Fin 17, n.val + 1 < i.val ∨ (0 ≤ evc (n.val : Int) i.val ∧ evc (n.val : Int) i.val ≤ 6435) := by decide +kernel
theorem evc_b {n : Int} {i : Nat} (hn : 0 ≤ n ∧ n ≤ 15) (hi : (i : Int) ≤ n + 1) : 0 ≤ evc n i ∧ evc n i ≤ 6435 := by
  have h := evc_all ⟨n.toNat, by omega⟩ ⟨i, by omega⟩
  have h : n.toNat + 1 < i ∨ (0 ≤ evc ((n.toNat : Nat) : Int) i ∧ evc ((n.toNat : Nat) : Int) i ≤ 6435) := h
  rw [show ((n.toNat : Nat) : Int) = n by omega] at h
  omega
def evt (n a b : Int) (i : Nat) : Int := evc n i * pwi a i * pwi (b - a) (n - i).toNat
theorem evt_b {n a b : Int} {i : Nat} (hn : 0 ≤ n ∧ n ≤ 15) (hi : (i : Int) ≤ n) (ha : 1 ≤ a ∧ a < b ∧ b ≤ 9) : (0 ≤ evc n i * pwi a i ∧ evc n i * pwi a i ≤ 226411434391633920) ∧ 0 ≤ evt n a b i ∧ evt n a b i ≤ 226411434391633920 := by
  have h1 := evc_b (i := i) hn (by omega)
  have h2 := pwi_t (a := a) (c := b - a) (i := i) (j := (n - i).toNat) (by omega) (by omega) (by omega)
  have h3 := pwi_m (a := a) (b := 8) (by omega) i
  have h4 : 0 ≤ pwi 8 i ∧ pwi 8 i ≤ 35184372088832 := pwi_8 ⟨i, by omega⟩
  have h5 := Int.mul_nonneg h1.1 (show 0 ≤ pwi a i by omega)
  have h6 : evc n i * pwi a i ≤ 6435 * 35184372088832 := Int.mul_le_mul h1.2 (by omega) (by omega) (by decide)
  have h7 := Int.mul_nonneg h1.1 h2.1
  have h8 : evc n i * (pwi a i * pwi (b - a) (n - i).toNat) ≤ 6435 * 35184372088832 := Int.mul_le_mul h1.2 h2.2 h2.1 (by decide)
  unfold evt
  rw [Int.mul_assoc (evc n i)]
  omega
/-- the cases in which d or more come out, below i -/
def evh (n d a b : Int) : Nat → Int
  | 0 => 0
  | i + 1 => evh n d a b i + (if d ≤ (i : Int) then evt n a b i else 0)
theorem evh_y {n d a b s i i1 t : Int} (h : s = evh n d a b i.toNat) (ht : t = evt n a b i.toNat) (hi : 0 ≤ i ∧ i1 = i + 1 ∧ d ≤ i) : s + t = evh n d a b i1.toNat := by
  rw [show i1.toNat = i.toNat + 1 by omega]
  show _ = evh n d a b i.toNat + (if d ≤ ((i.toNat : Nat) : Int) then evt n a b i.toNat else 0)
  rw [if_pos (by omega), h, ht]
theorem evh_n {n d a b s i i1 : Int} (h : s = evh n d a b i.toNat) (hi : 0 ≤ i ∧ i1 = i + 1 ∧ i < d) : s = evh n d a b i1.toNat := by
  rw [show i1.toNat = i.toNat + 1 by omega]
  show _ = evh n d a b i.toNat + (if d ≤ ((i.toNat : Nat) : Int) then evt n a b i.toNat else 0)
  rw [if_neg (by omega), Int.add_zero, h]
theorem evc_z {n c x y i i1 : Int} (h : c = evc n i.toNat) (hx : x = c * (n - i)) (hy : y = x / (i + 1)) (hi : 0 ≤ i ∧ i1 = i + 1) : y = evc n i1.toNat := by
  rw [evc_s (i := i.toNat) (by omega), ← h, hy, hx, show ((i.toNat : Nat) : Int) = i by omega]
theorem evt_e {n a b c x p q y i : Int} (h : c = evc n i.toNat) (hp : p = pwi a i.toNat) (hq : q = pwi (b - a) (n - i).toNat) (hx : x = c * p) (hy : y = x * q) (hi : 0 ≤ i) : y = evt n a b i.toNat := by
  unfold evt
  rw [show ((i.toNat : Nat) : Int) = i by omega, ← h, ← hp, ← hq, hy, hx]
section ZEV
variable {E : zE} {d k pc q : Nat} {L S : List zV} {m : zM} {Q : zV → zM → Prop} {i : Instr} {a1 a2 : Nat}
theorem zw_29f {x y lo hi : Int} (h : zRow xM k pc = some (29, i, q, a1, a2)) (hr : lo ≤ x * y ∧ x * y ≤ hi) (h2 : -9223372036854775808 ≤ lo ∧ hi ≤ 9223372036854775807) (n : ∀ r : Int, r = x * y → lo ≤ r → r ≤ hi → zW E d k q L ((1, r) :: S) m Q) : zW E d k pc L ((1, y) :: (1, x) :: S) m Q :=
  zw_29 h (by omega) (n _ rfl hr.1 hr.2)
theorem zw_29n {x y A B : Int} (h : zRow xM k pc = some (29, i, q, a1, a2)) (hx : 0 ≤ x ∧ x ≤ A) (hy : 0 ≤ y ∧ y ≤ B) (hab : A * B ≤ 9223372036854775807) (n : ∀ r : Int, r = x * y → 0 ≤ r → r ≤ A * B → zW E d k q L ((1, r) :: S) m Q) : zW E d k pc L ((1, y) :: (1, x) :: S) m Q := by
  have h1 : x * y ≤ A * B := Int.mul_le_mul hx.2 hy.2 hy.1 (by omega)
  have h2 := Int.mul_nonneg hx.1 hy.1
  exact zw_29 h (by omega) (n _ rfl h2 h1)
theorem zw_29s {x y A B : Int} (h : zRow xM k pc = some (29, i, q, a1, a2)) (hx : 1 ≤ x ∧ x ≤ A) (hy : 1 ≤ y ∧ y ≤ B) (hab : A * B ≤ 9223372036854775807) (n : ∀ r : Int, r = x * y → 1 ≤ r → r ≤ A * B → zW E d k q L ((1, r) :: S) m Q) : zW E d k pc L ((1, y) :: (1, x) :: S) m Q := by
  have h1 : x * y ≤ A * B := Int.mul_le_mul hx.2 hy.2 (by omega) (by omega)
  have h2 : 1 * 1 ≤ x * y := Int.mul_le_mul hx.1 hy.1 (by omega) (by omega)
  exact zw_29 h (by omega) (n _ rfl (by omega) h1)
theorem zw_118q {x y : Int} (h : zRow xM k pc = some (118, i, q, a1, a2)) (hx : 0 ≤ x ∧ x ≤ 4611686018427387904) (hy : 0 < y ∧ y ≤ 4611686018427387904) (n : ∀ r : Int, r = x / y → 0 ≤ r → r ≤ x → zW E d k q L ((1, r) :: S) m Q) : zW E d k pc L ((1, y) :: (1, x) :: S) m Q := by
  have h1 : 0 ≤ x / y := Int.ediv_nonneg hx.1 (by omega)
  have h2 : x / y ≤ x := Int.ediv_le_self y hx.1
  refine zw_p h (by decide) (by decide) ?_ (n (x / y) rfl h1 h2)
  show (if y = 0 then none else some (q, L, (1, (Int64.ofInt x / Int64.ofInt y).toInt) :: S, m)) = _
  rw [if_neg (by omega), Int64.toInt_div, zL_of (by omega), zL_of (by omega), Int.tdiv_eq_ediv_of_nonneg hx.1, Int.bmod_eq_of_le (by omega) (by omega)]
end ZEV
/-! even meetings of two -/
def mte (f g e : Nat → Int) (p q : Int) : Nat → Int
  | 0 => 0
  | n + 1 => mte f g e p q n + (if (f n = p ∨ g n = p) ∧ (f n = q ∨ g n = q) ∧ e n = 1 then 1 else 0)
theorem zme (f g e : Nat → Int) (p q : Int) (n k : Nat) (h : k = n + 1) : (((f n = p ∨ g n = p) ∧ (f n = q ∨ g n = q) ∧ e n = 1) ∧ mte f g e p q k = mte f g e p q n + 1) ∨ (¬ ((f n = p ∨ g n = p) ∧ (f n = q ∨ g n = q) ∧ e n = 1) ∧ mte f g e p q k = mte f g e p q n) := by
  subst h
  have ee : mte f g e p q (n + 1) = mte f g e p q n + (if (f n = p ∨ g n = p) ∧ (f n = q ∨ g n = q) ∧ e n = 1 then 1 else 0) := rfl
  rw [ee]
  by_cases hc : (f n = p ∨ g n = p) ∧ (f n = q ∨ g n = q) ∧ e n = 1
  · rw [if_pos hc]; exact Or.inl ⟨hc, rfl⟩
  · rw [if_neg hc]; exact Or.inr ⟨hc, by omega⟩
def mer (g : Nat → Int) (p q : Int) (n : Nat) : Int := mte (fun i => g (91 + 6 * i)) (fun i => g (92 + 6 * i)) (fun i => g (93 + 6 * i)) p q n
theorem zmre (g : Nat → Int) (p q : Int) (n k k1 k2 k3 : Nat) (h : k = n + 1) (h1 : k1 = 91 + 6 * n) (h2 : k2 = 92 + 6 * n) (h3 : k3 = 93 + 6 * n) : (((g k1 = p ∨ g k2 = p) ∧ (g k1 = q ∨ g k2 = q) ∧ g k3 = 1) ∧ mer g p q k = mer g p q n + 1) ∨ (¬ ((g k1 = p ∨ g k2 = p) ∧ (g k1 = q ∨ g k2 = q) ∧ g k3 = 1) ∧ mer g p q k = mer g p q n) := by
  subst h1 h2 h3
  exact zme (fun i => g (91 + 6 * i)) (fun i => g (92 + 6 * i)) (fun i => g (93 + 6 * i)) p q n k h
theorem mte_cg {f g e f' g' e' : Nat → Int} {p q : Int} {n : Nat} (hf : ∀ i, i < n → f' i = f i) (hg : ∀ i, i < n → g' i = g i) (he : ∀ i, i < n → e' i = e i) : mte f' g' e' p q n = mte f g e p q n := by
  induction n with
  | zero => rfl
  | succ n ih =>
    have h := ih (fun i hi => hf i (by omega)) (fun i hi => hg i (by omega)) (fun i hi => he i (by omega))
    show mte f' g' e' p q n + (if (f' n = p ∨ g' n = p) ∧ (f' n = q ∨ g' n = q) ∧ e' n = 1 then 1 else 0) = mte f g e p q n + (if (f n = p ∨ g n = p) ∧ (f n = q ∨ g n = q) ∧ e n = 1 then 1 else 0)
    rw [hf n (by omega), hg n (by omega), he n (by omega), h]
/-! right moves put right -/
def prs (R A W : Nat → Int) : Nat → Int × Int × Int
  | 0 => (0, 1, 0)
  | c + 1 => if 0 < A c then ((prs R A W c).1 * A c + (prs R A W c).2.1 * W c * R c, (prs R A W c).2.1 * A c, (prs R A W c).2.2 + W c) else prs R A W c
theorem prs_y {R A W : Nat → Int} {c k : Nat} {x y z r a w x1 y1 y3 x2 y2 z2 : Int} (h : (x, y, z) = prs R A W c) (hk : k = c + 1) (hr : r = R c) (ha : a = A c) (hw : w = W c) (h0 : 0 < a) (e1 : x1 = x * a) (e2 : y1 = y * w) (e3 : y3 = y1 * r) (e4 : y2 = y * a) (e5 : x2 = x1 + y3 ∧ z2 = z + w) : (x2, y2, z2) = prs R A W k := by
  subst hk
  have h1 : prs R A W (c + 1) = ((prs R A W c).1 * A c + (prs R A W c).2.1 * W c * R c, (prs R A W c).2.1 * A c, (prs R A W c).2.2 + W c) := if_pos (by omega)
  rw [h1, ← h, e5.1, e5.2, e4, e3, e1, e2, hr, ha, hw]
/-- the reference's order -/
theorem prs_r {R A W : Nat → Int} {c k : Nat} {x y z r a w x1 y1 y3 x2 y2 z2 : Int} (h : (x, y, z) = prs R A W c) (hk : k = c + 1) (hr : r = R c) (ha : a = A c) (hw : w = W c) (h0 : 0 < a) (e1 : x1 = x * a) (e2 : y1 = w * r) (e3 : y3 = y1 * y) (e4 : y2 = y * a) (e5 : x2 = x1 + y3 ∧ z2 = z + w) : (x2, y2, z2) = prs R A W k :=
  prs_y (y1 := y * w) h hk hr ha hw h0 e1 rfl (by rw [e3, e2, Int.mul_comm (w * r) y, Int.mul_assoc]) e4 e5
theorem prs_n {R A W : Nat → Int} {c k : Nat} {t : Int × Int × Int} {a : Int} (h : t = prs R A W c) (hk : k = c + 1) (ha : a = A c) (h0 : a ≤ 0) : t = prs R A W k := by
  subst hk
  rw [h]
  exact (if_neg (by omega)).symm
theorem prs_cg {R A W R' A' W' : Nat → Int} {n : Nat} (hR : ∀ i, i < n → R' i = R i) (hA : ∀ i, i < n → A' i = A i) (hW : ∀ i, i < n → W' i = W i) : prs R' A' W' n = prs R A W n := by
  induction n with
  | zero => rfl
  | succ n ih =>
    have h := ih (fun i hi => hR i (by omega)) (fun i hi => hA i (by omega)) (fun i hi => hW i (by omega))
    by_cases c : 0 < A n
    · have h1 : prs R A W (n + 1) = ((prs R A W n).1 * A n + (prs R A W n).2.1 * W n * R n, (prs R A W n).2.1 * A n, (prs R A W n).2.2 + W n) := if_pos c
      have h2 : prs R' A' W' (n + 1) = ((prs R' A' W' n).1 * A' n + (prs R' A' W' n).2.1 * W' n * R' n, (prs R' A' W' n).2.1 * A' n, (prs R' A' W' n).2.2 + W' n) := if_pos (by rw [hA n (by omega)]; exact c)
      rw [h1, h2, h, hR n (by omega), hA n (by omega), hW n (by omega)]
    · have h1 : prs R A W (n + 1) = prs R A W n := if_neg c
      have h2 : prs R' A' W' (n + 1) = prs R' A' W' n := if_neg (by rw [hA n (by omega)]; exact c)
      rw [h1, h2, h]
theorem pwi_z {p p1 a i i1 : Int} (h : p = pwi a i.toNat) (hw : p1 = p * a) (hi : 0 ≤ i ∧ i1 = i + 1) : p1 = pwi a i1.toNat := by
  rw [pwi_s (n := i.toNat) (by omega), ← h, hw]
/-! who beat .. a rise: the class's state up to a year -/
def zRz (T : Nat → zPS → zPS) (v : Int) (F : Nat → Int) (y g : Int) (S : zPS) : Prop := ∃ k, 0 ≤ k ∧ k ≤ g ∧ zSn T (fun _ => 1) v S k ∧ zYr F y k ∧ (g ≤ k ∨ y < F k.toNat)
theorem zRz_m {T : Nat → zPS → zPS} {v y g k : Int} {F : Nat → Int} {S : zPS} (h : zSn T (fun _ => 1) v S k) (hy : zYr F y k) (h1 : 0 ≤ k ∧ k ≤ g) (h2 : g ≤ k ∨ y < F k.toNat) : zRz T v F y g S := ⟨k, h1.1, h1.2, h, hy, h2⟩
theorem zYr_m {F : Nat → Int} {y z n : Int} (h : zYr F y n) (hz : y ≤ z) : zYr F z n := fun i hi => Int.le_trans (h i hi) hz
theorem zRz_n {ch A B E Y G : Nat → Int} {v g y : Int} {S : zPS} (h : zRz (pst ch A B E Y G) v Y y g S) (hs : srt Y g.toNat) (hy : 0 ≤ y) (hb0 : ∀ j : Nat, (j : Int) < g → (0 ≤ A j ∧ A j < 10) ∧ (0 ≤ B j ∧ B j < 10) ∧ 0 ≤ Y j ∧ Y j ≤ 99) (p : Nat) (hp : p < 10) : S.1 p = nHm ch A B E Y G v g p y.toNat := by
  obtain ⟨k, k0, k1, h1, h2, h3⟩ := h
  have e : k.toNat = kcy Y y g.toNat := by
    refine kcy_u hs (by omega) (fun i hi => h2 i (by omega)) ?_
    rcases h3 with h3 | h3
    · exact Or.inl (by omega)
    · exact Or.inr h3
  rw [nHm_e hy, ← e]
  exact nbr_c h1 (fun j hj => (hb0 j (by omega)).1) (fun j hj => (hb0 j (by omega)).2.1) (fun j hj => (hb0 j (by omega)).2.2.1) p hp
/-- the class's creep -/
theorem crs_c {ch A B E Y G : Nat → Int} {v n P y1 y2 w1 w2 b r c : Int} {S1 S2 : zPS} (h1 : zRz (pst ch A B E Y G) v Y y1 n S1) (h2 : zRz (pst ch A B E Y G) v Y y2 n S2) (hw1 : zWm w1 Y A B y1 n) (hw2 : zWm w2 Y A B y2 n) (hb : b = zad w1 w2) (hr : r = smp (zbt b) S2.1 P.toNat - smp (zbt b) S1.1 P.toNat) (hc : c = smp (zbt b) (fun _ => 1) 10) (hs : srt Y n.toNat) (hy : 0 ≤ y1 ∧ 0 ≤ y2) (hP : 0 ≤ P ∧ P ≤ 10) (hb0 : ∀ j : Nat, (j : Int) < n → (0 ≤ A j ∧ A j < 10) ∧ (0 ≤ B j ∧ B j < 10) ∧ 0 ≤ Y j ∧ Y j ≤ 99) (hPl : ∀ j : Nat, (j : Int) < n → A j < P ∧ B j < P) : crs P.toNat (mHm Y A B n) (nHm ch A B E Y G v n) y1.toNat y2.toNat r c := by
  have e1 : ((y1.toNat : Nat) : Int) = y1 := by omega
  have e2 : ((y2.toNat : Nat) : Int) = y2 := by omega
  have hbm : ∀ o : Nat, zbt b o = 1 ↔ bMt (mHm Y A B n) y1.toNat y2.toNat o = 1 := by
    intro o
    rw [hb, zbt_ad, bMt_1, hw1 o, hw2 o]
    show _ ↔ hmc Y A B (o : Int) ((y1.toNat : Nat) : Int) n.toNat = 1 ∧ hmc Y A B (o : Int) ((y2.toNat : Nat) : Int) n.toNat = 1
    rw [e1, e2]
  have hlt : ∀ o : Nat, P.toNat ≤ o → zbt b o ≠ 1 := by
    intro o ho z
    rw [hb, zbt_ad, hw1 o] at z
    have z2 := hmc_lt (P := P) (fun j hj => hPl j (by omega)) z.1
    omega
  refine ⟨?_, ?_⟩
  · rw [hr, smp_sub]
    exact smp_cg (fun o _ => hbm o) (fun o ho _ => by
      show S2.1 o - S1.1 o = nHm ch A B E Y G v n o y2.toNat - nHm ch A B E Y G v n o y1.toNat
      rw [zRz_n h1 hs hy.1 hb0 o (by omega), zRz_n h2 hs hy.2 hb0 o (by omega)])
  · rw [hc, smp_le (a := P.toNat) (b := 10) (by omega) (fun o h1 _ => hlt o h1)]
    exact smp_cg (fun o _ => hbm o) (fun _ _ _ => rfl)
theorem zBe_fr {C D : Int → Int → Int → Prop} {h a b k c d : Int} (h1 : zBe C h a b) (h2 : zBe D k c d) (e : ∀ p x y, C p x y ↔ D p x y) (hh : h ≠ -1) : a * d = c * b := by
  rcases h1 with ⟨g1, g2⟩ | ⟨g0, g1, g2, g3⟩
  · exact absurd g1 hh
  · rcases h2 with ⟨j1, j2⟩ | ⟨j0, j1, j2, j3⟩
    · exact absurd ((e _ _ _).mp g2) (j2 _ _ _)
    · have r1 := g3 _ _ _ ((e _ _ _).mpr j2)
      have r2 := j3 _ _ _ ((e _ _ _).mp g2)
      omega
theorem prs_t {x y z w a b : Int} {t : Int × Int × Int} (h : (x, y, z) = t) (hw : w = y * z) (hz : zTl x w a b) : zTl t.1 (t.2.1 * t.2.2) a b := by
  rw [← h]
  show zTl x (y * z) a b
  rw [← hw]
  exact hz
def zMv (F : Nat → Int) : Prop := ∀ i : Nat, i < 40 → F (11 + 2 * i) ≠ 0 ∨ F (10 + 2 * i) = 0
def zCpy (f g : Nat → Int) (n : Int) : Prop := ∀ j : Nat, (j : Int) < n → f j = g j
theorem zCpy_0 {f g : Nat → Int} : zCpy f g 0 := fun j h => by omega
theorem zCpy_s {f f1 g : Nat → Int} {n k x : Int} (h : zCpy f g n) (hf : f1 = zPt f n.toNat x) (hx : x = g n.toNat) (hn : 0 ≤ n ∧ k = n + 1) : zCpy f1 g k := fun j hj => by
  rw [hf]
  by_cases e : j = n.toNat
  · rw [e, zPt_eq, hx]
  · rw [zPt_ne e]
    exact h j (by omega)
