/-! who met in a year, as bits -/
def zad (x y : Int) : Int := ((x.toNat &&& y.toNat : Nat) : Int)
theorem zbt_ad (x y : Int) (i : Nat) : zbt (zad x y) i = 1 ↔ zbt x i = 1 ∧ zbt y i = 1 := by
  unfold zad zbt
  rw [show (((x.toNat &&& y.toNat : Nat) : Int)).toNat = x.toNat &&& y.toNat from rfl, Nat.testBit_and]
  cases x.toNat.testBit i <;> cases y.toNat.testBit i <;> decide
theorem zad32 {x y : Int} (hx : 0 ≤ x ∧ x ≤ 1023) (hy : 0 ≤ y ∧ y ≤ 1023) : (Int32.ofInt x &&& Int32.ofInt y).toInt = zad x y := by
  refine zi_nn ?_ ?_
  · rw [Int32.toBitVec_and, BitVec.toNat_and, zi_bv hx.1 (by omega), zi_bv hy.1 (by omega)]
  · exact Nat.lt_of_le_of_lt Nat.and_le_left (by omega)
theorem zad_le {x y : Int} (hx : 0 ≤ x ∧ x ≤ 1023) : 0 ≤ zad x y ∧ zad x y ≤ 1023 := by
  unfold zad
  have := Nat.and_le_left (n := x.toNat) (m := y.toNat)
  omega
theorem zw_21a {E : zE} {d k pc q a1 a2 : Nat} {L S : List zV} {m : zM} {Q : zV → zM → Prop} {i : Instr} {x y : Int} (h : zRow xM k pc = some (21, i, q, a1, a2)) (hx : 0 ≤ x ∧ x ≤ 1023) (hy : 0 ≤ y ∧ y ≤ 1023) (n : ∀ r : Int, r = zad x y → 0 ≤ r → r ≤ 1023 → zW E d k q L ((0, r) :: S) m Q) : zW E d k pc L ((0, y) :: (0, x) :: S) m Q := by
  refine zw_p h (by decide) (by decide) ?_ (n (zad x y) rfl (zad_le hx).1 (zad_le hx).2)
  show some (q, L, (0, (Int32.ofInt x &&& Int32.ofInt y).toInt) :: S, m) = _
  rw [zad32 hx hy]
def hmc (Y A B : Nat → Int) (p y : Int) : Nat → Int
  | 0 => 0
  | n + 1 => if hmc Y A B p y n = 1 ∨ (Y n = y ∧ (A n = p ∨ B n = p)) then 1 else 0
theorem hmc_s (Y A B : Nat → Int) (p y : Int) {n k : Nat} (h : k = n + 1) : (hmc Y A B p y k = 1 ∧ (hmc Y A B p y n = 1 ∨ (Y n = y ∧ (A n = p ∨ B n = p)))) ∨ (hmc Y A B p y k = 0 ∧ hmc Y A B p y n ≠ 1 ∧ ¬ (Y n = y ∧ (A n = p ∨ B n = p))) := by
  subst h
  have e : hmc Y A B p y (n + 1) = if hmc Y A B p y n = 1 ∨ (Y n = y ∧ (A n = p ∨ B n = p)) then 1 else 0 := rfl
  rw [e]
  by_cases hc : hmc Y A B p y n = 1 ∨ (Y n = y ∧ (A n = p ∨ B n = p))
  · rw [if_pos hc]
    exact Or.inl ⟨rfl, hc⟩
  · rw [if_neg hc]
    exact Or.inr ⟨rfl, fun q => hc (Or.inl q), fun q => hc (Or.inr q)⟩
theorem hmc_01 (Y A B : Nat → Int) (p y : Int) (n : Nat) : hmc Y A B p y n = 0 ∨ hmc Y A B p y n = 1 := by
  cases n with
  | zero => exact Or.inl rfl
  | succ n =>
    have := hmc_s Y A B p y (n := n) rfl
    omega
theorem hmv_c (F : Nat → Int) (p y : Int) (n : Nat) : hmv F p y n = hmc (fun i => F (90 + 6 * i)) (fun i => F (91 + 6 * i)) (fun i => F (92 + 6 * i)) p y n := by
  induction n with
  | zero => rfl
  | succ n ih =>
    show (if hmv F p y n = 1 ∨ (F (90 + 6 * n) = y ∧ (F (91 + 6 * n) = p ∨ F (92 + 6 * n) = p)) then (1 : Int) else 0) = (if hmc (fun i => F (90 + 6 * i)) (fun i => F (91 + 6 * i)) (fun i => F (92 + 6 * i)) p y n = 1 ∨ (F (90 + 6 * n) = y ∧ (F (91 + 6 * n) = p ∨ F (92 + 6 * n) = p)) then 1 else 0)
    rw [ih]
theorem hmc_cg {Y A B Y' A' B' : Nat → Int} {p y : Int} {n : Nat} (hY : ∀ i, i < n → Y' i = Y i) (hA : ∀ i, i < n → A' i = A i) (hB : ∀ i, i < n → B' i = B i) : hmc Y' A' B' p y n = hmc Y A B p y n := by
  induction n with
  | zero => rfl
  | succ n ih =>
    have i1 := ih (fun i hi => hY i (by omega)) (fun i hi => hA i (by omega)) (fun i hi => hB i (by omega))
    show (if hmc Y' A' B' p y n = 1 ∨ (Y' n = y ∧ (A' n = p ∨ B' n = p)) then (1 : Int) else 0) = (if hmc Y A B p y n = 1 ∨ (Y n = y ∧ (A n = p ∨ B n = p)) then 1 else 0)
    rw [i1, hY n (by omega), hA n (by omega), hB n (by omega)]
theorem hmc_lt {Y A B : Nat → Int} {p y P : Int} {n : Nat} (hA : ∀ i, i < n → A i < P ∧ B i < P) (h : hmc Y A B p y n = 1) : p < P := by
  induction n with
  | zero => exact absurd (show (0 : Int) = 1 from h) (by decide)
  | succ n ih =>
    have hs := hmc_s Y A B p y (n := n) rfl
    have hn := hA n (by omega)
    rcases hs with ⟨_, h1 | ⟨h1, h2⟩⟩ | ⟨h1, _⟩
    · exact ih (fun i hi => hA i (by omega)) h1
    · omega
    · omega
def zWm (who : Int) (Y A B : Nat → Int) (y n : Int) : Prop := ∀ p : Nat, zbt who p = hmc Y A B p y n.toNat
theorem zWm_0 {Y A B : Nat → Int} {y : Int} : zWm 0 Y A B y 0 := fun p => zbt_z p
theorem zWm_n {who y n k x : Int} {Y A B : Nat → Int} (h : zWm who Y A B y n) (hx : x = Y n.toNat) (h1 : x ≠ y ∧ 0 ≤ n ∧ k = n + 1) : zWm who Y A B y k := fun p => by
  have h2 := h p
  have h3 := hmc_s Y A B p y (n := n.toNat) (k := k.toNat) (by omega)
  have h4 := hmc_01 Y A B p y n.toNat
  rw [← hx] at h3
  omega
theorem zWm_y {who y n k x a b pa pb pp w2 : Int} {Y A B : Nat → Int} (h : zWm who Y A B y n) (hx : x = Y n.toNat) (e4 : w2 = zor who pp) (e3 : pp = zor pa pb) (ha : a = A n.toNat) (hb : b = B n.toNat) (e1 : pa = 2 ^ a.toNat) (e2 : pb = 2 ^ b.toNat) (h1 : x = y ∧ 0 ≤ n ∧ k = n + 1 ∧ 0 ≤ a ∧ 0 ≤ b) : zWm w2 Y A B y k := fun p => by
  have h2 := h p
  have h3 := hmc_s Y A B p y (n := n.toNat) (k := k.toNat) (by omega)
  have h4 := hmc_01 Y A B p y n.toNat
  have h5 := zbt_or who pp p
  have h6 := zbt_or pa pb p
  have h7 := zbt_pw (i := p) h1.2.2.2.1 e1
  have h8 := zbt_pw (i := p) h1.2.2.2.2 e2
  have h9 := zbt_01 (zor who pp) p
  rw [← hx, ← ha, ← hb] at h3
  rw [e4]
  rw [← e3] at h6
  by_cases c1 : zbt who p = 1
  · have c2 := h5.mpr (Or.inl c1)
    omega
  · by_cases c2 : zbt pp p = 1
    · have c3 := h5.mpr (Or.inr c2)
      rcases h6.mp c2 with c4 | c4
      · have := h7.mp c4
        omega
      · have := h8.mp c4
        omega
    · have c3 : zbt (zor who pp) p ≠ 1 := fun z => by
        rcases h5.mp z with z | z
        · exact c1 z
        · exact c2 z
      have c5 : ¬ (a = p) := fun z => c2 (h6.mpr (Or.inl (h7.mpr z)))
      have c6 : ¬ (b = p) := fun z => c2 (h6.mpr (Or.inr (h8.mpr z)))
      omega
theorem zb_ex : ∀ v : Fin 1024, v.val ≠ 0 → ∃ p : Fin 10, v.val.testBit p.val = true := by decide +kernel
theorem zb_e {v : Int} (h : 0 < v ∧ v ≤ 1023) : ∃ p : Nat, p < 10 ∧ zbt v p = 1 := by
  obtain ⟨p, hp⟩ := zb_ex ⟨v.toNat, by omega⟩ (by show v.toNat ≠ 0; omega)
  refine ⟨p.val, p.isLt, ?_⟩
  unfold zbt
  rw [show v.toNat.testBit p.val = true from hp]
  rfl
/-- nobody met in both -/
def zNb (Y A B : Nat → Int) (x y n P : Int) : Prop := ∀ p : Nat, (p : Int) < P → ¬ (hmc Y A B p x n.toNat = 1 ∧ hmc Y A B p y n.toNat = 1)
theorem zNb_0 {v w b x y n : Int} {Y A B : Nat → Int} (hv : zWm v Y A B x n) (hw : zWm w Y A B y n) (hb : b = zad v w) (h0 : b = 0) : zNb Y A B x y n 10 := fun p _ hp => by
  have h1 := (zbt_ad v w p).mpr ⟨(hv p).trans hp.1, (hw p).trans hp.2⟩
  rw [← hb, h0, zbt_z] at h1
  exact absurd h1 (by decide)
theorem zNb_1 {v w b x y n : Int} {Y A B : Nat → Int} (hv : zWm v Y A B x n) (hw : zWm w Y A B y n) (hb : b = zad v w) (h0 : b ≠ 0 ∧ 0 ≤ b ∧ b ≤ 1023) : ¬ zNb Y A B x y n 10 := fun h => by
  obtain ⟨p, h1, h2⟩ := zb_e (v := b) (by omega)
  rw [hb] at h2
  obtain ⟨h3, h4⟩ := (zbt_ad v w p).mp h2
  exact h p (by omega) ⟨(hv p).symm.trans h3, (hw p).symm.trans h4⟩
def zNr (F : Nat → Int) (x y n p c : Int) : Prop := (c = 0 ∧ ∀ q : Nat, (q : Int) < p → ¬ (hmv F q x n.toNat = 1 ∧ hmv F q y n.toNat = 1)) ∨ (0 < c ∧ ∃ q : Nat, (q : Int) < p ∧ hmv F q x n.toNat = 1 ∧ hmv F q y n.toNat = 1)
theorem zNr_0 {F : Nat → Int} {x y n : Int} : zNr F x y n 0 0 := Or.inl ⟨rfl, fun q hq => by omega⟩
theorem zNr_y {F : Nat → Int} {x y n p c p1 c1 u v : Int} (h : zNr F x y n p c) (hu : u = hmv F p x n.toNat) (hv : v = hmv F p y n.toNat) (h1 : u = 1 ∧ v = 1 ∧ 0 ≤ p ∧ p1 = p + 1 ∧ c1 = c + 1) : zNr F x y n p1 c1 := by
  right
  refine ⟨?_, p.toNat, by omega, ?_⟩
  · rcases h with ⟨h, _⟩ | ⟨h, _⟩ <;> omega
  · rw [show ((p.toNat : Nat) : Int) = p by omega, ← hu, ← hv]
    exact ⟨h1.1, h1.2.1⟩
theorem zNr_n {F : Nat → Int} {x y n p c p1 u v : Int} (h : zNr F x y n p c) (hu : u = hmv F p x n.toNat) (hv : u ≠ 1 ∨ v = hmv F p y n.toNat) (h1 : (u ≠ 1 ∨ v ≠ 1) ∧ 0 ≤ p ∧ p1 = p + 1) : zNr F x y n p1 c := by
  rcases h with ⟨h2, h3⟩ | ⟨h2, q, h3, h4⟩
  · left
    refine ⟨h2, fun q hq hh => ?_⟩
    by_cases e : (q : Int) = p
    · rw [e, ← hu] at hh
      rcases hv with hv | hv
      · exact hv hh.1
      · rw [← hv] at hh
        omega
    · exact h3 q (by omega) hh
  · exact Or.inr ⟨h2, q, by omega, h4⟩
def crp (Y A B : Nat → Int) (x y n P r : Int) : Prop := (r = 0 ∧ zNb Y A B x y n P) ∨ (r = 1 ∧ ¬ zNb Y A B x y n P)
theorem crp_r {F : Nat → Int} {x y n p c r : Int} (h : zNr F x y n p c) (h1 : (c = 0 ∧ r = 0) ∨ (c ≠ 0 ∧ r = 1)) : crp (fun i => F (90 + 6 * i)) (fun i => F (91 + 6 * i)) (fun i => F (92 + 6 * i)) x y n p r := by
  rcases h with ⟨h2, h3⟩ | ⟨h2, q, h3, h4, h5⟩
  · refine Or.inl ⟨by omega, fun q hq hh => h3 q hq ?_⟩
    rw [hmv_c, hmv_c]
    exact hh
  · refine Or.inr ⟨by omega, fun hh => hh q h3 ?_⟩
    rw [← hmv_c, ← hmv_c]
    exact ⟨h4, h5⟩
theorem crp_un {Y A B Y' A' B' : Nat → Int} {x y n P r s : Int} (h : crp Y A B x y n 10 r) (h' : crp Y' A' B' x y n P s) (hP : P ≤ 10) (hY : ∀ i : Nat, (i : Int) < n → Y' i = Y i) (hA : ∀ i : Nat, (i : Int) < n → A' i = A i) (hB : ∀ i : Nat, (i : Int) < n → B' i = B i) (hl : ∀ i : Nat, (i : Int) < n → A i < P ∧ B i < P) : r = s := by
  have e : ∀ p y, hmc Y' A' B' p y n.toNat = hmc Y A B p y n.toNat := fun p y => hmc_cg (fun i hi => hY i (by omega)) (fun i hi => hA i (by omega)) (fun i hi => hB i (by omega))
  have k : zNb Y A B x y n 10 ↔ zNb Y' A' B' x y n P := by
    constructor
    · intro z p hp hh
      rw [e, e] at hh
      exact z p (by omega) hh
    · intro z p _ hh
      have := hmc_lt (fun i hi => hl i (by omega)) hh.1
      refine z p this ?_
      rw [e, e]
      exact hh
  rcases h with ⟨h1, h2⟩ | ⟨h1, h2⟩
  · rcases h' with ⟨h3, h4⟩ | ⟨h3, h4⟩
    · omega
    · exact absurd (k.mp h2) h4
  · rcases h' with ⟨h3, h4⟩ | ⟨h3, h4⟩
    · exact absurd (k.mpr h4) h2
    · omega
