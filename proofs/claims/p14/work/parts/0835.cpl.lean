/-! copies as functions -/
def zCf (f g : Nat → Int) (n : Nat) : Nat → Int := fun k => if k < n then g k else f k
theorem zCf_lt {f g : Nat → Int} {n k : Nat} (h : k < n) : zCf f g n k = g k := if_pos h
theorem zCp_fn {m : zM} {dst dp src sp n c : Nat} (h : c ≠ dst) : zCp m dst dp src sp n c = m c := funext fun _ => zCp_ne h
theorem zCp_ff {m : zM} {c1 c2 n a b : Nat} (ha : a = 0) (hb : b = 0) : zCp m c1 a c2 b n c1 = zCf (m c1) (m c2) n := by
  subst ha hb
  funext k
  show (if c1 = c1 ∧ 0 ≤ k ∧ k < 0 + n then m c2 (0 + (k - 0)) else m c1 k) = (if k < n then m c2 k else m c1 k)
  by_cases h : k < n
  · rw [if_pos ⟨rfl, by omega, by omega⟩, if_pos h, Nat.zero_add, Nat.sub_zero]
  · rw [if_neg (by omega), if_neg h]
/-! the latest year told -/
def zly (f : Nat → Int) (n : Int) : Int := if n ≤ 0 then 0 else f (n - 1).toNat
theorem zly_c (f : Nat → Int) (n : Int) : (n ≤ 0 ∧ zly f n = 0) ∨ (0 < n ∧ zly f n = f (n - 1).toNat) := by
  by_cases h : n ≤ 0
  · exact Or.inl ⟨h, if_pos h⟩
  · exact Or.inr ⟨by omega, if_neg h⟩
def zlr (f : Nat → Int) (n : Int) : Int := if n ≤ 0 then 0 else f (90 + 6 * (n - 1) + 0).toNat
theorem zlr_c (f : Nat → Int) (n : Int) : (n ≤ 0 ∧ zlr f n = 0) ∨ (0 < n ∧ zlr f n = f (90 + 6 * (n - 1) + 0).toNat) := by
  by_cases h : n ≤ 0
  · exact Or.inl ⟨h, if_pos h⟩
  · exact Or.inr ⟨by omega, if_neg h⟩
/-! one record taken from another -/
def zTk_15_1 (m m' : zM) : Prop := m' 15 0 = m 1 0 ∧ m' 15 1 = m 1 1 ∧ m' 15 2 = m 1 2 ∧ m' 15 3 = m 1 3 ∧ m' 15 4 = m 1 4 ∧ m' 15 5 = m 1 5 ∧ (∀ k, k < 10 → m' 16 k = m 2 k) ∧ (∀ k, k < 40 → m' 17 k = m 3 k) ∧ (∀ k, k < 40 → m' 18 k = m 4 k) ∧ (∀ k, k < 60 → m' 19 k = m 5 k) ∧ (∀ k, k < 60 → m' 20 k = m 6 k) ∧ (∀ k, k < 60 → m' 21 k = m 7 k) ∧ (∀ k, k < 60 → m' 22 k = m 8 k) ∧ (∀ k, k < 4 → m' 23 k = m 9 k) ∧ (∀ k, k < 4 → m' 24 k = m 10 k) ∧ (∀ k, k < 200 → m' 25 k = m 11 k) ∧ (∀ k, k < 160 → m' 26 k = m 12 k) ∧ (∀ k, k < 4 → m' 27 k = m 13 k)
def zTk_28_1 (m m' : zM) : Prop := m' 28 0 = m 1 0 ∧ m' 28 1 = m 1 1 ∧ m' 28 2 = m 1 2 ∧ m' 28 3 = m 1 3 ∧ m' 28 4 = m 1 4 ∧ m' 28 5 = m 1 5 ∧ (∀ k, k < 10 → m' 29 k = m 2 k) ∧ (∀ k, k < 40 → m' 30 k = m 3 k) ∧ (∀ k, k < 40 → m' 31 k = m 4 k) ∧ (∀ k, k < 60 → m' 32 k = m 5 k) ∧ (∀ k, k < 60 → m' 33 k = m 6 k) ∧ (∀ k, k < 60 → m' 34 k = m 7 k) ∧ (∀ k, k < 60 → m' 35 k = m 8 k) ∧ (∀ k, k < 4 → m' 36 k = m 9 k) ∧ (∀ k, k < 4 → m' 37 k = m 10 k) ∧ (∀ k, k < 200 → m' 38 k = m 11 k) ∧ (∀ k, k < 160 → m' 39 k = m 12 k) ∧ (∀ k, k < 4 → m' 40 k = m 13 k)
def zTk_1_15 (m m' : zM) : Prop := m' 1 0 = m 15 0 ∧ m' 1 1 = m 15 1 ∧ m' 1 2 = m 15 2 ∧ m' 1 3 = m 15 3 ∧ m' 1 4 = m 15 4 ∧ m' 1 5 = m 15 5 ∧ (∀ k, k < 10 → m' 2 k = m 16 k) ∧ (∀ k, k < 40 → m' 3 k = m 17 k) ∧ (∀ k, k < 40 → m' 4 k = m 18 k) ∧ (∀ k, k < 60 → m' 5 k = m 19 k) ∧ (∀ k, k < 60 → m' 6 k = m 20 k) ∧ (∀ k, k < 60 → m' 7 k = m 21 k) ∧ (∀ k, k < 60 → m' 8 k = m 22 k) ∧ (∀ k, k < 4 → m' 9 k = m 23 k) ∧ (∀ k, k < 4 → m' 10 k = m 24 k) ∧ (∀ k, k < 200 → m' 11 k = m 25 k) ∧ (∀ k, k < 160 → m' 12 k = m 26 k) ∧ (∀ k, k < 4 → m' 13 k = m 27 k)
def zTk_1_28 (m m' : zM) : Prop := m' 1 0 = m 28 0 ∧ m' 1 1 = m 28 1 ∧ m' 1 2 = m 28 2 ∧ m' 1 3 = m 28 3 ∧ m' 1 4 = m 28 4 ∧ m' 1 5 = m 28 5 ∧ (∀ k, k < 10 → m' 2 k = m 29 k) ∧ (∀ k, k < 40 → m' 3 k = m 30 k) ∧ (∀ k, k < 40 → m' 4 k = m 31 k) ∧ (∀ k, k < 60 → m' 5 k = m 32 k) ∧ (∀ k, k < 60 → m' 6 k = m 33 k) ∧ (∀ k, k < 60 → m' 7 k = m 34 k) ∧ (∀ k, k < 60 → m' 8 k = m 35 k) ∧ (∀ k, k < 4 → m' 9 k = m 36 k) ∧ (∀ k, k < 4 → m' 10 k = m 37 k) ∧ (∀ k, k < 200 → m' 11 k = m 38 k) ∧ (∀ k, k < 160 → m' 12 k = m 39 k) ∧ (∀ k, k < 4 → m' 13 k = m 40 k)
def zSm_15 (m m' : zM) : Prop := m' 15 = m 15 ∧ m' 16 = m 16 ∧ m' 17 = m 17 ∧ m' 18 = m 18 ∧ m' 19 = m 19 ∧ m' 20 = m 20 ∧ m' 21 = m 21 ∧ m' 22 = m 22 ∧ m' 23 = m 23 ∧ m' 24 = m 24 ∧ m' 25 = m 25 ∧ m' 26 = m 26 ∧ m' 27 = m 27
def zSm_28 (m m' : zM) : Prop := m' 28 = m 28 ∧ m' 29 = m 29 ∧ m' 30 = m 30 ∧ m' 31 = m 31 ∧ m' 32 = m 32 ∧ m' 33 = m 33 ∧ m' 34 = m 34 ∧ m' 35 = m 35 ∧ m' 36 = m 36 ∧ m' 37 = m 37 ∧ m' 38 = m 38 ∧ m' 39 = m 39 ∧ m' 40 = m 40
def zCi (m m' : zM) (a r : Int) : Prop := (r = -2 ∧ (a < 0 ∨ 1 < a) ∧ m' = m) ∨ (r = 1 ∧ a = 0 ∧ zTk_15_1 m m' ∧ zSm_28 m m' ∧ m' 41 = zPt (m 41) 0 1) ∨ (r = 1 ∧ a = 1 ∧ zTk_28_1 m m' ∧ zSm_15 m m' ∧ m' 41 = zPt (m 41) 1 1)
def zCm (m m' : zM) (a r : Int) : Prop := (r = -2 ∧ (a < 0 ∨ 1 < a) ∧ m' = m) ∨ (r = -3 ∧ (0 ≤ a ∧ a ≤ 1) ∧ m 41 a.toNat = 0 ∧ m' = m) ∨ (r = 1 ∧ a = 0 ∧ m 41 a.toNat ≠ 0 ∧ zTk_1_15 m m') ∨ (r = 1 ∧ a = 1 ∧ m 41 a.toNat ≠ 0 ∧ zTk_1_28 m m')
/-! frames, cell by cell -/
def zNo (W : List (Nat × Nat)) (cs : List Nat) : Bool := cs.all (fun c => W.all (fun q => !(Nat.beq q.1 c)))
theorem zNo_eq {W : List (Nat × Nat)} {cs : List Nat} {m m' : zM} (g : zFr W m m') (h : zNo W cs = true) {c : Nat} (hc : c ∈ cs) : m' c = m c := by
  funext k
  refine g c k (List.all_eq_true.mpr fun q hq => ?_)
  have h1 := List.all_eq_true.mp (List.all_eq_true.mp h c hc) q hq
  cases hb : Nat.beq q.1 c with
  | false => rfl
  | true => rw [hb] at h1; cases h1
theorem zCi_0 {W : List (Nat × Nat)} {m m1 m2 : zM} {a r : Int} {k : Nat} (g : zFr W m m1) (h : zTk_15_1 m m1) (e : m2 = zUp m1 41 k 1) (ha : a = 0 ∧ k = 0) (hr : r = 1) (w : zNo W [28, 29, 30, 31, 32, 33, 34, 35, 36, 37, 38, 39, 40, 41] = true := by rfl) : r = 1 ∧ a = 0 ∧ zTk_15_1 m m2 ∧ zSm_28 m m2 ∧ m2 41 = zPt (m 41) 0 1 := by
  obtain ⟨ha, hk⟩ := ha
  subst hk
  obtain ⟨h0, h1, h2, h3, h4, h5, h6, h7, h8, h9, h10, h11, h12, h13, h14, h15, h16, h17⟩ := h
  subst e
  refine ⟨hr, ha, ⟨by rw [zUp_fn (m := m1) (r := 41) (k := 0) (v := 1) (c := 15) (by decide)]; exact h0, by rw [zUp_fn (m := m1) (r := 41) (k := 0) (v := 1) (c := 15) (by decide)]; exact h1, by rw [zUp_fn (m := m1) (r := 41) (k := 0) (v := 1) (c := 15) (by decide)]; exact h2, by rw [zUp_fn (m := m1) (r := 41) (k := 0) (v := 1) (c := 15) (by decide)]; exact h3, by rw [zUp_fn (m := m1) (r := 41) (k := 0) (v := 1) (c := 15) (by decide)]; exact h4, by rw [zUp_fn (m := m1) (r := 41) (k := 0) (v := 1) (c := 15) (by decide)]; exact h5, by rw [zUp_fn (m := m1) (r := 41) (k := 0) (v := 1) (c := 16) (by decide)]; exact h6, by rw [zUp_fn (m := m1) (r := 41) (k := 0) (v := 1) (c := 17) (by decide)]; exact h7, by rw [zUp_fn (m := m1) (r := 41) (k := 0) (v := 1) (c := 18) (by decide)]; exact h8, by rw [zUp_fn (m := m1) (r := 41) (k := 0) (v := 1) (c := 19) (by decide)]; exact h9, by rw [zUp_fn (m := m1) (r := 41) (k := 0) (v := 1) (c := 20) (by decide)]; exact h10, by rw [zUp_fn (m := m1) (r := 41) (k := 0) (v := 1) (c := 21) (by decide)]; exact h11, by rw [zUp_fn (m := m1) (r := 41) (k := 0) (v := 1) (c := 22) (by decide)]; exact h12, by rw [zUp_fn (m := m1) (r := 41) (k := 0) (v := 1) (c := 23) (by decide)]; exact h13, by rw [zUp_fn (m := m1) (r := 41) (k := 0) (v := 1) (c := 24) (by decide)]; exact h14, by rw [zUp_fn (m := m1) (r := 41) (k := 0) (v := 1) (c := 25) (by decide)]; exact h15, by rw [zUp_fn (m := m1) (r := 41) (k := 0) (v := 1) (c := 26) (by decide)]; exact h16, by rw [zUp_fn (m := m1) (r := 41) (k := 0) (v := 1) (c := 27) (by decide)]; exact h17⟩, ⟨(zUp_fn (m := m1) (r := 41) (k := 0) (v := 1) (c := 28) (by decide)).trans (zNo_eq g w (by decide)), (zUp_fn (m := m1) (r := 41) (k := 0) (v := 1) (c := 29) (by decide)).trans (zNo_eq g w (by decide)), (zUp_fn (m := m1) (r := 41) (k := 0) (v := 1) (c := 30) (by decide)).trans (zNo_eq g w (by decide)), (zUp_fn (m := m1) (r := 41) (k := 0) (v := 1) (c := 31) (by decide)).trans (zNo_eq g w (by decide)), (zUp_fn (m := m1) (r := 41) (k := 0) (v := 1) (c := 32) (by decide)).trans (zNo_eq g w (by decide)), (zUp_fn (m := m1) (r := 41) (k := 0) (v := 1) (c := 33) (by decide)).trans (zNo_eq g w (by decide)), (zUp_fn (m := m1) (r := 41) (k := 0) (v := 1) (c := 34) (by decide)).trans (zNo_eq g w (by decide)), (zUp_fn (m := m1) (r := 41) (k := 0) (v := 1) (c := 35) (by decide)).trans (zNo_eq g w (by decide)), (zUp_fn (m := m1) (r := 41) (k := 0) (v := 1) (c := 36) (by decide)).trans (zNo_eq g w (by decide)), (zUp_fn (m := m1) (r := 41) (k := 0) (v := 1) (c := 37) (by decide)).trans (zNo_eq g w (by decide)), (zUp_fn (m := m1) (r := 41) (k := 0) (v := 1) (c := 38) (by decide)).trans (zNo_eq g w (by decide)), (zUp_fn (m := m1) (r := 41) (k := 0) (v := 1) (c := 39) (by decide)).trans (zNo_eq g w (by decide)), (zUp_fn (m := m1) (r := 41) (k := 0) (v := 1) (c := 40) (by decide)).trans (zNo_eq g w (by decide))⟩, ?_⟩
  exact (zUp_ff (m := m1)).trans (by rw [zNo_eq g w (by decide)])
theorem zCi_1 {W : List (Nat × Nat)} {m m1 m2 : zM} {a r : Int} {k : Nat} (g : zFr W m m1) (h : zTk_28_1 m m1) (e : m2 = zUp m1 41 k 1) (ha : a = 1 ∧ k = 1) (hr : r = 1) (w : zNo W [15, 16, 17, 18, 19, 20, 21, 22, 23, 24, 25, 26, 27, 41] = true := by rfl) : r = 1 ∧ a = 1 ∧ zTk_28_1 m m2 ∧ zSm_15 m m2 ∧ m2 41 = zPt (m 41) 1 1 := by
  obtain ⟨ha, hk⟩ := ha
  subst hk
  obtain ⟨h0, h1, h2, h3, h4, h5, h6, h7, h8, h9, h10, h11, h12, h13, h14, h15, h16, h17⟩ := h
  subst e
  refine ⟨hr, ha, ⟨by rw [zUp_fn (m := m1) (r := 41) (k := 1) (v := 1) (c := 28) (by decide)]; exact h0, by rw [zUp_fn (m := m1) (r := 41) (k := 1) (v := 1) (c := 28) (by decide)]; exact h1, by rw [zUp_fn (m := m1) (r := 41) (k := 1) (v := 1) (c := 28) (by decide)]; exact h2, by rw [zUp_fn (m := m1) (r := 41) (k := 1) (v := 1) (c := 28) (by decide)]; exact h3, by rw [zUp_fn (m := m1) (r := 41) (k := 1) (v := 1) (c := 28) (by decide)]; exact h4, by rw [zUp_fn (m := m1) (r := 41) (k := 1) (v := 1) (c := 28) (by decide)]; exact h5, by rw [zUp_fn (m := m1) (r := 41) (k := 1) (v := 1) (c := 29) (by decide)]; exact h6, by rw [zUp_fn (m := m1) (r := 41) (k := 1) (v := 1) (c := 30) (by decide)]; exact h7, by rw [zUp_fn (m := m1) (r := 41) (k := 1) (v := 1) (c := 31) (by decide)]; exact h8, by rw [zUp_fn (m := m1) (r := 41) (k := 1) (v := 1) (c := 32) (by decide)]; exact h9, by rw [zUp_fn (m := m1) (r := 41) (k := 1) (v := 1) (c := 33) (by decide)]; exact h10, by rw [zUp_fn (m := m1) (r := 41) (k := 1) (v := 1) (c := 34) (by decide)]; exact h11, by rw [zUp_fn (m := m1) (r := 41) (k := 1) (v := 1) (c := 35) (by decide)]; exact h12, by rw [zUp_fn (m := m1) (r := 41) (k := 1) (v := 1) (c := 36) (by decide)]; exact h13, by rw [zUp_fn (m := m1) (r := 41) (k := 1) (v := 1) (c := 37) (by decide)]; exact h14, by rw [zUp_fn (m := m1) (r := 41) (k := 1) (v := 1) (c := 38) (by decide)]; exact h15, by rw [zUp_fn (m := m1) (r := 41) (k := 1) (v := 1) (c := 39) (by decide)]; exact h16, by rw [zUp_fn (m := m1) (r := 41) (k := 1) (v := 1) (c := 40) (by decide)]; exact h17⟩, ⟨(zUp_fn (m := m1) (r := 41) (k := 1) (v := 1) (c := 15) (by decide)).trans (zNo_eq g w (by decide)), (zUp_fn (m := m1) (r := 41) (k := 1) (v := 1) (c := 16) (by decide)).trans (zNo_eq g w (by decide)), (zUp_fn (m := m1) (r := 41) (k := 1) (v := 1) (c := 17) (by decide)).trans (zNo_eq g w (by decide)), (zUp_fn (m := m1) (r := 41) (k := 1) (v := 1) (c := 18) (by decide)).trans (zNo_eq g w (by decide)), (zUp_fn (m := m1) (r := 41) (k := 1) (v := 1) (c := 19) (by decide)).trans (zNo_eq g w (by decide)), (zUp_fn (m := m1) (r := 41) (k := 1) (v := 1) (c := 20) (by decide)).trans (zNo_eq g w (by decide)), (zUp_fn (m := m1) (r := 41) (k := 1) (v := 1) (c := 21) (by decide)).trans (zNo_eq g w (by decide)), (zUp_fn (m := m1) (r := 41) (k := 1) (v := 1) (c := 22) (by decide)).trans (zNo_eq g w (by decide)), (zUp_fn (m := m1) (r := 41) (k := 1) (v := 1) (c := 23) (by decide)).trans (zNo_eq g w (by decide)), (zUp_fn (m := m1) (r := 41) (k := 1) (v := 1) (c := 24) (by decide)).trans (zNo_eq g w (by decide)), (zUp_fn (m := m1) (r := 41) (k := 1) (v := 1) (c := 25) (by decide)).trans (zNo_eq g w (by decide)), (zUp_fn (m := m1) (r := 41) (k := 1) (v := 1) (c := 26) (by decide)).trans (zNo_eq g w (by decide)), (zUp_fn (m := m1) (r := 41) (k := 1) (v := 1) (c := 27) (by decide)).trans (zNo_eq g w (by decide))⟩, ?_⟩
  exact (zUp_ff (m := m1)).trans (by rw [zNo_eq g w (by decide)])
/-! a record of the class against one of the reference (marks left out) -/
def qR (p n v w u e : Int) (f2 f3 f4 f5 f6 f7 f8 f9 f10 f11 f12 f13 g : Nat → Int) : Prop := p = g 822 ∧ n = g 823 ∧ u = g 824 ∧ e = g 825 ∧ (∀ i, i < 10 → g (i) = f2 i) ∧ (∀ i, i < 40 → g (10 + 2 * i) = f3 i) ∧ (∀ i, i < 40 → g (11 + 2 * i) = f4 i) ∧ (∀ i, i < 60 → g (90 + 6 * i) = f5 i) ∧ (∀ i, i < 60 → g (91 + 6 * i) = f6 i) ∧ (∀ i, i < 60 → g (92 + 6 * i) = f7 i) ∧ (∀ i, i < 60 → g (93 + 6 * i) = f8 i) ∧ (∀ i, i < 4 → g (450 + 52 * i) = f9 i) ∧ (∀ i, i < 4 → g (451 + 52 * i) = f10 i) ∧ (∀ i, i < 4 → ∀ j, j < 50 → g (452 + 52 * i + j) = f11 (50 * i + j)) ∧ (∀ i, i < 160 → g (658 + i) = f12 i) ∧ (∀ i, i < 4 → g (818 + i) = f13 i) ∧ (∀ i, i < 60 → g (94 + 6 * i) = zbt v i) ∧ (∀ i, i < 60 → g (95 + 6 * i) = zbt w i) ∧ (∀ i : Nat, i < 60 → n ≤ (i : Int) → zbt v i = 0 ∧ zbt w i = 0)
def qKn (m : zM) : Prop := qR (m 1 0) (m 1 1) (m 1 2) (m 1 3) (m 1 4) (m 1 5) (m 2) (m 3) (m 4) (m 5) (m 6) (m 7) (m 8) (m 9) (m 10) (m 11) (m 12) (m 13) (m 70)
def qKi (m : zM) : Prop := m 41 0 = m 72 0 ∧ m 41 1 = m 72 1 ∧ (m 72 0 ≠ 0 → qR (m 15 0) (m 15 1) (m 15 2) (m 15 3) (m 15 4) (m 15 5) (m 16) (m 17) (m 18) (m 19) (m 20) (m 21) (m 22) (m 23) (m 24) (m 25) (m 26) (m 27) (m 71)) ∧ (m 72 1 ≠ 0 → qR (m 28 0) (m 28 1) (m 28 2) (m 28 3) (m 28 4) (m 28 5) (m 29) (m 30) (m 31) (m 32) (m 33) (m 34) (m 35) (m 36) (m 37) (m 38) (m 39) (m 40) (fun k => m 71 (826 + k)))
def qK (m : zM) : Prop := qKn m ∧ qKi m
theorem qKi_fr {m m2 : zM} (h : qKi m) (e : ∀ c, c ∈ [15, 16, 17, 18, 19, 20, 21, 22, 23, 24, 25, 26, 27, 28, 29, 30, 31, 32, 33, 34, 35, 36, 37, 38, 39, 40, 41, 71, 72] → m2 c = m c) : qKi m2 := by
  unfold qKi
  rw [e 15 (by decide), e 16 (by decide), e 17 (by decide), e 18 (by decide), e 19 (by decide), e 20 (by decide), e 21 (by decide), e 22 (by decide), e 23 (by decide), e 24 (by decide), e 25 (by decide), e 26 (by decide), e 27 (by decide), e 28 (by decide), e 29 (by decide), e 30 (by decide), e 31 (by decide), e 32 (by decide), e 33 (by decide), e 34 (by decide), e 35 (by decide), e 36 (by decide), e 37 (by decide), e 38 (by decide), e 39 (by decide), e 40 (by decide), e 41 (by decide), e 71 (by decide), e 72 (by decide)]
  exact h
theorem zR_player {p n v w u e a0 : Int} {f2 f3 f4 f5 f6 f7 f8 f9 f10 f11 f12 f13 g : Nat → Int} (h : qR p n v w u e f2 f3 f4 f5 f6 f7 f8 f9 f10 f11 f12 f13 g) (hc : 0 ≤ p ∧ p < 10)  : qR (p + 1) (n) (v) (w) (u) (e) (zPt f2 p.toNat a0) (f3) (f4) (f5) (f6) (f7) (f8) (f9) (f10) (f11) (f12) (f13) (zPt (zPt g (0 + p).toNat a0) 822 (p + 1)) := by
  obtain ⟨h0, h1, h2, h3, hA, hB, hC, hD0, hD1, hD2, hD3, hE, hL, hT, hS, hW, hGv, hDb, hZ⟩ := h
  refine ⟨?_, ?_, ?_, ?_, ?_, ?_, ?_, ?_, ?_, ?_, ?_, ?_, ?_, ?_, ?_, ?_, ?_, ?_, ?_⟩
  · (try simp only [zPt]); (repeat' split) <;> first | omega | rfl | contradiction
  · (try simp only [zPt]); (repeat' split) <;> first | omega | rfl | contradiction
  · (try simp only [zPt]); (repeat' split) <;> first | omega | rfl | contradiction
  · (try simp only [zPt]); (repeat' split) <;> first | omega | rfl | contradiction
  · intro i hi; have hh := hA i hi; (try simp only [zPt]); (repeat' split) <;> first | omega | rfl | contradiction
  · intro i hi; have hh := hB i hi; (try simp only [zPt]); (repeat' split) <;> first | omega | rfl | contradiction
  · intro i hi; have hh := hC i hi; (try simp only [zPt]); (repeat' split) <;> first | omega | rfl | contradiction
  · intro i hi; have hh := hD0 i hi; (try simp only [zPt]); (repeat' split) <;> first | omega | rfl | contradiction
  · intro i hi; have hh := hD1 i hi; (try simp only [zPt]); (repeat' split) <;> first | omega | rfl | contradiction
  · intro i hi; have hh := hD2 i hi; (try simp only [zPt]); (repeat' split) <;> first | omega | rfl | contradiction
  · intro i hi; have hh := hD3 i hi; (try simp only [zPt]); (repeat' split) <;> first | omega | rfl | contradiction
  · intro i hi; have hh := hE i hi; (try simp only [zPt]); (repeat' split) <;> first | omega | rfl | contradiction
  · intro i hi; have hh := hL i hi; (try simp only [zPt]); (repeat' split) <;> first | omega | rfl | contradiction
  · intro i hi j hj; have hh := hT i hi j hj; (try simp only [zPt]); (repeat' split) <;> first | omega | rfl | contradiction
  · intro i hi; have hh := hS i hi; (try simp only [zPt]); (repeat' split) <;> first | omega | rfl | contradiction
  · intro i hi; have hh := hW i hi; (try simp only [zPt]); (repeat' split) <;> first | omega | rfl | contradiction
  · intro i hi; have hh := hGv i hi; (try simp only [zPt]); (repeat' split) <;> first | omega | rfl | contradiction
  · intro i hi; have hh := hDb i hi; (try simp only [zPt]); (repeat' split) <;> first | omega | rfl | contradiction
  · exact hZ
set_option maxHeartbeats 4000000 in
theorem zk_player {W1 W2 : List (Nat × Nat)} {m m1 m2 : zM} {a0 ga0 gb0 r1 r2 : Int} (hz : zInv m) (h : qK m) (g1 : zFr W1 m m1) (x0 : m 1 0 = ga0) (p0 : (r1 = -2 ∧ (a0 < -60 ∨ 99 < a0)) ∨ (-60 ≤ a0 ∧ a0 ≤ 99 ∧ ((ga0 = 10 ∧ r1 = -4) ∨ (0 ≤ ga0 ∧ ga0 < 10 ∧ r1 = ga0)))) (p1 : (0 ≤ r1 ∧ m1 1 0 = ga0 + 1) ∨ (r1 < 0 ∧ m1 1 0 = ga0)) (p2 : m1 2 = if 0 ≤ r1 then zPt (m 2) ga0.toNat a0 else (m 2)) (g2 : zFr W2 m1 m2) (y0 : m1 70 822 = gb0) (q0 : (r2 = -2 ∧ (a0 < -60 ∨ 99 < a0)) ∨ (-60 ≤ a0 ∧ a0 ≤ 99 ∧ ((gb0 = 10 ∧ r2 = -4) ∨ (0 ≤ gb0 ∧ gb0 < 10 ∧ r2 = gb0)))) (q1 : m2 70 = if 0 ≤ r2 then zPt (zPt (m1 70) (0 + gb0).toNat a0) 822 (gb0 + 1) else (m1 70)) (w1 : zNo W1 [3, 4, 5, 6, 7, 8, 9, 10, 11, 12, 13, 15, 16, 17, 18, 19, 20, 21, 22, 23, 24, 25, 26, 27, 28, 29, 30, 31, 32, 33, 34, 35, 36, 37, 38, 39, 40, 41, 71, 72, 70] = true := by rfl) (w2 : zNo W2 [1, 2, 3, 4, 5, 6, 7, 8, 9, 10, 11, 12, 13, 15, 16, 17, 18, 19, 20, 21, 22, 23, 24, 25, 26, 27, 28, 29, 30, 31, 32, 33, 34, 35, 36, 37, 38, 39, 40, 41, 71, 72] = true := by rfl) (o1 : zOut W1 1 1 = true := by rfl) (o2 : zOut W1 1 2 = true := by rfl) (o3 : zOut W1 1 3 = true := by rfl) (o4 : zOut W1 1 4 = true := by rfl) (o5 : zOut W1 1 5 = true := by rfl) : qK m2 ∧ r1 = r2 := by
  obtain ⟨hR, hI⟩ := h
  have b0 := ib_1_0 hz
  have b1 := ib_1_1 hz
  subst x0
  have e70 : m1 70 = m 70 := zNo_eq g1 w1 (by decide)
  have hR' := hR
  obtain ⟨h0, h1, h2, h3, hA, hB, hC, hD0, hD1, hD2, hD3, hE, hL, hT, hS, hW, hGv, hDb, hZ⟩ := hR'
  rw [e70] at y0
  have z0 : gb0 = m 1 0 := by omega
  subst z0
  rw [e70] at q1
  have hI2 : qKi m2 := qKi_fr hI (fun c hc => (zNo_eq g2 w2 (by revert c; decide)).trans (zNo_eq g1 w1 (by revert c; decide)))
  have e3 : m2 3 = m 3 := (zNo_eq g2 w2 (by decide)).trans (zNo_eq g1 w1 (by decide))
  have e4 : m2 4 = m 4 := (zNo_eq g2 w2 (by decide)).trans (zNo_eq g1 w1 (by decide))
  have e5 : m2 5 = m 5 := (zNo_eq g2 w2 (by decide)).trans (zNo_eq g1 w1 (by decide))
  have e6 : m2 6 = m 6 := (zNo_eq g2 w2 (by decide)).trans (zNo_eq g1 w1 (by decide))
  have e7 : m2 7 = m 7 := (zNo_eq g2 w2 (by decide)).trans (zNo_eq g1 w1 (by decide))
  have e8 : m2 8 = m 8 := (zNo_eq g2 w2 (by decide)).trans (zNo_eq g1 w1 (by decide))
  have e9 : m2 9 = m 9 := (zNo_eq g2 w2 (by decide)).trans (zNo_eq g1 w1 (by decide))
  have e10 : m2 10 = m 10 := (zNo_eq g2 w2 (by decide)).trans (zNo_eq g1 w1 (by decide))
  have e11 : m2 11 = m 11 := (zNo_eq g2 w2 (by decide)).trans (zNo_eq g1 w1 (by decide))
  have e12 : m2 12 = m 12 := (zNo_eq g2 w2 (by decide)).trans (zNo_eq g1 w1 (by decide))
  have e13 : m2 13 = m 13 := (zNo_eq g2 w2 (by decide)).trans (zNo_eq g1 w1 (by decide))
  have s1 : m2 1 = m1 1 := zNo_eq g2 w2 (by decide)
  have u1 : m2 1 1 = m 1 1 := by rw [s1]; exact g1 1 1 o1
  have u2 : m2 1 2 = m 1 2 := by rw [s1]; exact g1 1 2 o2
  have u3 : m2 1 3 = m 1 3 := by rw [s1]; exact g1 1 3 o3
  have u4 : m2 1 4 = m 1 4 := by rw [s1]; exact g1 1 4 o4
  have u5 : m2 1 5 = m 1 5 := by rw [s1]; exact g1 1 5 o5
  have hr : r1 = r2 := by
    omega
  by_cases hs : 0 ≤ r1
  · skip
    have n2 : m2 2 = zPt (m 2) (m 1 0).toNat a0 := (zNo_eq g2 w2 (by decide)).trans (p2.trans (if_pos hs))
    have n70 := q1.trans (if_pos (by omega))
    have u0 : m2 1 0 = (m 1 0 + 1) := by rw [s1]; omega
    have hN : qKn m2 := by
      unfold qKn
      rw [u0, u1, u2, u3, u4, u5, n2, e3, e4, e5, e6, e7, e8, e9, e10, e11, e12, e13, n70]
      exact zR_player hR (by omega)
    exact ⟨⟨hN, hI2⟩, hr⟩
  · skip
    have n2 : m2 2 = m 2 := (zNo_eq g2 w2 (by decide)).trans (p2.trans (if_neg hs))
    have n70 := q1.trans (if_neg (by omega))
    have u0 : m2 1 0 = m 1 0 := by rw [s1]; omega
    have hN : qKn m2 := by
      unfold qKn
      rw [u0, u1, u2, u3, u4, u5, n2, e3, e4, e5, e6, e7, e8, e9, e10, e11, e12, e13, n70]
      exact hR
    exact ⟨⟨hN, hI2⟩, hr⟩
theorem zR_first {p n v w u e a0 a1 : Int} {f2 f3 f4 f5 f6 f7 f8 f9 f10 f11 f12 f13 g : Nat → Int} (h : qR p n v w u e f2 f3 f4 f5 f6 f7 f8 f9 f10 f11 f12 f13 g) (hc : 0 ≤ a0 ∧ a0 ≤ 3)  : qR (p) (n) (v) (w) (u) (e) (f2) (f3) (f4) (f5) (f6) (f7) (f8) (zPt f9 a0.toNat a1) (f10) (f11) (f12) (f13) (zPt g (450 + 52 * a0).toNat a1) := by
  obtain ⟨h0, h1, h2, h3, hA, hB, hC, hD0, hD1, hD2, hD3, hE, hL, hT, hS, hW, hGv, hDb, hZ⟩ := h
  refine ⟨?_, ?_, ?_, ?_, ?_, ?_, ?_, ?_, ?_, ?_, ?_, ?_, ?_, ?_, ?_, ?_, ?_, ?_, ?_⟩
  · (try simp only [zPt]); (repeat' split) <;> first | omega | rfl | contradiction
  · (try simp only [zPt]); (repeat' split) <;> first | omega | rfl | contradiction
  · (try simp only [zPt]); (repeat' split) <;> first | omega | rfl | contradiction
  · (try simp only [zPt]); (repeat' split) <;> first | omega | rfl | contradiction
  · intro i hi; have hh := hA i hi; (try simp only [zPt]); (repeat' split) <;> first | omega | rfl | contradiction
  · intro i hi; have hh := hB i hi; (try simp only [zPt]); (repeat' split) <;> first | omega | rfl | contradiction
  · intro i hi; have hh := hC i hi; (try simp only [zPt]); (repeat' split) <;> first | omega | rfl | contradiction
  · intro i hi; have hh := hD0 i hi; (try simp only [zPt]); (repeat' split) <;> first | omega | rfl | contradiction
  · intro i hi; have hh := hD1 i hi; (try simp only [zPt]); (repeat' split) <;> first | omega | rfl | contradiction
  · intro i hi; have hh := hD2 i hi; (try simp only [zPt]); (repeat' split) <;> first | omega | rfl | contradiction
  · intro i hi; have hh := hD3 i hi; (try simp only [zPt]); (repeat' split) <;> first | omega | rfl | contradiction
  · intro i hi; have hh := hE i hi; (try simp only [zPt]); (repeat' split) <;> first | omega | rfl | contradiction
  · intro i hi; have hh := hL i hi; (try simp only [zPt]); (repeat' split) <;> first | omega | rfl | contradiction
  · intro i hi j hj; have hh := hT i hi j hj; (try simp only [zPt]); (repeat' split) <;> first | omega | rfl | contradiction
  · intro i hi; have hh := hS i hi; (try simp only [zPt]); (repeat' split) <;> first | omega | rfl | contradiction
  · intro i hi; have hh := hW i hi; (try simp only [zPt]); (repeat' split) <;> first | omega | rfl | contradiction
  · intro i hi; have hh := hGv i hi; (try simp only [zPt]); (repeat' split) <;> first | omega | rfl | contradiction
  · intro i hi; have hh := hDb i hi; (try simp only [zPt]); (repeat' split) <;> first | omega | rfl | contradiction
  · exact hZ
set_option maxHeartbeats 4000000 in
theorem zk_first {W1 W2 : List (Nat × Nat)} {m m1 m2 : zM} {a0 a1 r1 r2 : Int} (hz : zInv m) (h : qK m) (g1 : zFr W1 m m1) (p0 : (r1 = -2 ∧ (a0 < 0 ∨ 3 < a0 ∨ a1 < 0 ∨ 9999 < a1)) ∨ (0 ≤ a0 ∧ a0 ≤ 3 ∧ 0 ≤ a1 ∧ a1 ≤ 9999 ∧ 0 ≤ r1 ∧ r1 = (m 9) a0.toNat)) (p1 : m1 9 = if 0 ≤ r1 then zPt (m 9) a0.toNat a1 else (m 9)) (g2 : zFr W2 m1 m2) (q0 : (r2 = -2 ∧ (a0 < 0 ∨ 3 < a0 ∨ a1 < 0 ∨ 9999 < a1)) ∨ (0 ≤ a0 ∧ a0 ≤ 3 ∧ 0 ≤ a1 ∧ a1 ≤ 9999 ∧ 0 ≤ r2 ∧ r2 = (m1 70) (450 + 52 * a0).toNat)) (q1 : m2 70 = if 0 ≤ r2 then zPt (m1 70) (450 + 52 * a0).toNat a1 else (m1 70)) (w1 : zNo W1 [2, 3, 4, 5, 6, 7, 8, 10, 11, 12, 13, 15, 16, 17, 18, 19, 20, 21, 22, 23, 24, 25, 26, 27, 28, 29, 30, 31, 32, 33, 34, 35, 36, 37, 38, 39, 40, 41, 71, 72, 70] = true := by rfl) (w2 : zNo W2 [1, 2, 3, 4, 5, 6, 7, 8, 9, 10, 11, 12, 13, 15, 16, 17, 18, 19, 20, 21, 22, 23, 24, 25, 26, 27, 28, 29, 30, 31, 32, 33, 34, 35, 36, 37, 38, 39, 40, 41, 71, 72] = true := by rfl) (o0 : zOut W1 1 0 = true := by rfl) (o1 : zOut W1 1 1 = true := by rfl) (o2 : zOut W1 1 2 = true := by rfl) (o3 : zOut W1 1 3 = true := by rfl) (o4 : zOut W1 1 4 = true := by rfl) (o5 : zOut W1 1 5 = true := by rfl) : qK m2 ∧ r1 = r2 := by
  obtain ⟨hR, hI⟩ := h
  have b0 := ib_1_0 hz
  have b1 := ib_1_1 hz
  have e70 : m1 70 = m 70 := zNo_eq g1 w1 (by decide)
  have hR' := hR
  obtain ⟨h0, h1, h2, h3, hA, hB, hC, hD0, hD1, hD2, hD3, hE, hL, hT, hS, hW, hGv, hDb, hZ⟩ := hR'
  rw [e70] at q0
  rw [e70] at q1
  have hI2 : qKi m2 := qKi_fr hI (fun c hc => (zNo_eq g2 w2 (by revert c; decide)).trans (zNo_eq g1 w1 (by revert c; decide)))
  have e2 : m2 2 = m 2 := (zNo_eq g2 w2 (by decide)).trans (zNo_eq g1 w1 (by decide))
  have e3 : m2 3 = m 3 := (zNo_eq g2 w2 (by decide)).trans (zNo_eq g1 w1 (by decide))
  have e4 : m2 4 = m 4 := (zNo_eq g2 w2 (by decide)).trans (zNo_eq g1 w1 (by decide))
  have e5 : m2 5 = m 5 := (zNo_eq g2 w2 (by decide)).trans (zNo_eq g1 w1 (by decide))
  have e6 : m2 6 = m 6 := (zNo_eq g2 w2 (by decide)).trans (zNo_eq g1 w1 (by decide))
  have e7 : m2 7 = m 7 := (zNo_eq g2 w2 (by decide)).trans (zNo_eq g1 w1 (by decide))
  have e8 : m2 8 = m 8 := (zNo_eq g2 w2 (by decide)).trans (zNo_eq g1 w1 (by decide))
  have e10 : m2 10 = m 10 := (zNo_eq g2 w2 (by decide)).trans (zNo_eq g1 w1 (by decide))
  have e11 : m2 11 = m 11 := (zNo_eq g2 w2 (by decide)).trans (zNo_eq g1 w1 (by decide))
  have e12 : m2 12 = m 12 := (zNo_eq g2 w2 (by decide)).trans (zNo_eq g1 w1 (by decide))
  have e13 : m2 13 = m 13 := (zNo_eq g2 w2 (by decide)).trans (zNo_eq g1 w1 (by decide))
  have s1 : m2 1 = m1 1 := zNo_eq g2 w2 (by decide)
  have u0 : m2 1 0 = m 1 0 := by rw [s1]; exact g1 1 0 o0
  have u1 : m2 1 1 = m 1 1 := by rw [s1]; exact g1 1 1 o1
  have u2 : m2 1 2 = m 1 2 := by rw [s1]; exact g1 1 2 o2
  have u3 : m2 1 3 = m 1 3 := by rw [s1]; exact g1 1 3 o3
  have u4 : m2 1 4 = m 1 4 := by rw [s1]; exact g1 1 4 o4
  have u5 : m2 1 5 = m 1 5 := by rw [s1]; exact g1 1 5 o5
  have hr : r1 = r2 := by
    by_cases hc : 0 ≤ a0 ∧ a0 ≤ 3
    · have key : m 70 (450 + 52 * a0).toNat = m 9 a0.toNat := by rw [show (450 + 52 * a0).toNat = 450 + 52 * a0.toNat by omega]; exact hE _ (by omega)
      omega
    · omega
  by_cases hs : 0 ≤ r1
  · skip
    have n9 : m2 9 = zPt (m 9) a0.toNat a1 := (zNo_eq g2 w2 (by decide)).trans (p1.trans (if_pos hs))
    have n70 := q1.trans (if_pos (by omega))
    have hN : qKn m2 := by
      unfold qKn
      rw [u0, u1, u2, u3, u4, u5, e2, e3, e4, e5, e6, e7, e8, n9, e10, e11, e12, e13, n70]
      exact zR_first hR (by omega)
    exact ⟨⟨hN, hI2⟩, hr⟩
  · skip
    have n9 : m2 9 = m 9 := (zNo_eq g2 w2 (by decide)).trans (p1.trans (if_neg hs))
    have n70 := q1.trans (if_neg (by omega))
    have hN : qKn m2 := by
      unfold qKn
      rw [u0, u1, u2, u3, u4, u5, e2, e3, e4, e5, e6, e7, e8, n9, e10, e11, e12, e13, n70]
      exact hR
    exact ⟨⟨hN, hI2⟩, hr⟩
theorem zR_erase {p n v w u e a0 : Int} {f2 f3 f4 f5 f6 f7 f8 f9 f10 f11 f12 f13 g : Nat → Int} (h : qR p n v w u e f2 f3 f4 f5 f6 f7 f8 f9 f10 f11 f12 f13 g) (hc : 0 ≤ a0 ∧ a0 ≤ 3)  : qR (p) (n) (v) (w) (u) (e) (f2) (f3) (f4) (f5) (f6) (f7) (f8) (f9) (zPt f10 a0.toNat 0) (f11) (f12) (f13) (zPt g (450 + 52 * a0 + 1).toNat 0) := by
  obtain ⟨h0, h1, h2, h3, hA, hB, hC, hD0, hD1, hD2, hD3, hE, hL, hT, hS, hW, hGv, hDb, hZ⟩ := h
  refine ⟨?_, ?_, ?_, ?_, ?_, ?_, ?_, ?_, ?_, ?_, ?_, ?_, ?_, ?_, ?_, ?_, ?_, ?_, ?_⟩
  · (try simp only [zPt]); (repeat' split) <;> first | omega | rfl | contradiction
  · (try simp only [zPt]); (repeat' split) <;> first | omega | rfl | contradiction
  · (try simp only [zPt]); (repeat' split) <;> first | omega | rfl | contradiction
  · (try simp only [zPt]); (repeat' split) <;> first | omega | rfl | contradiction
  · intro i hi; have hh := hA i hi; (try simp only [zPt]); (repeat' split) <;> first | omega | rfl | contradiction
  · intro i hi; have hh := hB i hi; (try simp only [zPt]); (repeat' split) <;> first | omega | rfl | contradiction
  · intro i hi; have hh := hC i hi; (try simp only [zPt]); (repeat' split) <;> first | omega | rfl | contradiction
  · intro i hi; have hh := hD0 i hi; (try simp only [zPt]); (repeat' split) <;> first | omega | rfl | contradiction
  · intro i hi; have hh := hD1 i hi; (try simp only [zPt]); (repeat' split) <;> first | omega | rfl | contradiction
  · intro i hi; have hh := hD2 i hi; (try simp only [zPt]); (repeat' split) <;> first | omega | rfl | contradiction
  · intro i hi; have hh := hD3 i hi; (try simp only [zPt]); (repeat' split) <;> first | omega | rfl | contradiction
  · intro i hi; have hh := hE i hi; (try simp only [zPt]); (repeat' split) <;> first | omega | rfl | contradiction
  · intro i hi; have hh := hL i hi; (try simp only [zPt]); (repeat' split) <;> first | omega | rfl | contradiction
  · intro i hi j hj; have hh := hT i hi j hj; (try simp only [zPt]); (repeat' split) <;> first | omega | rfl | contradiction
  · intro i hi; have hh := hS i hi; (try simp only [zPt]); (repeat' split) <;> first | omega | rfl | contradiction
  · intro i hi; have hh := hW i hi; (try simp only [zPt]); (repeat' split) <;> first | omega | rfl | contradiction
  · intro i hi; have hh := hGv i hi; (try simp only [zPt]); (repeat' split) <;> first | omega | rfl | contradiction
  · intro i hi; have hh := hDb i hi; (try simp only [zPt]); (repeat' split) <;> first | omega | rfl | contradiction
  · exact hZ
set_option maxHeartbeats 4000000 in
theorem zk_erase {W1 W2 : List (Nat × Nat)} {m m1 m2 : zM} {a0 r1 r2 : Int} (hz : zInv m) (h : qK m) (g1 : zFr W1 m m1) (p0 : (r1 = -2 ∧ (a0 < 0 ∨ 3 < a0)) ∨ (0 ≤ a0 ∧ a0 ≤ 3 ∧ 0 ≤ r1 ∧ r1 = (m 10) a0.toNat)) (p1 : m1 10 = if 0 ≤ r1 then zPt (m 10) a0.toNat 0 else (m 10)) (g2 : zFr W2 m1 m2) (q0 : (r2 = -2 ∧ (a0 < 0 ∨ 3 < a0)) ∨ (0 ≤ a0 ∧ a0 ≤ 3 ∧ 0 ≤ r2 ∧ r2 = (m1 70) (450 + 52 * a0 + 1).toNat)) (q1 : m2 70 = if 0 ≤ r2 then zPt (m1 70) (450 + 52 * a0 + 1).toNat 0 else (m1 70)) (w1 : zNo W1 [2, 3, 4, 5, 6, 7, 8, 9, 11, 12, 13, 15, 16, 17, 18, 19, 20, 21, 22, 23, 24, 25, 26, 27, 28, 29, 30, 31, 32, 33, 34, 35, 36, 37, 38, 39, 40, 41, 71, 72, 70] = true := by rfl) (w2 : zNo W2 [1, 2, 3, 4, 5, 6, 7, 8, 9, 10, 11, 12, 13, 15, 16, 17, 18, 19, 20, 21, 22, 23, 24, 25, 26, 27, 28, 29, 30, 31, 32, 33, 34, 35, 36, 37, 38, 39, 40, 41, 71, 72] = true := by rfl) (o0 : zOut W1 1 0 = true := by rfl) (o1 : zOut W1 1 1 = true := by rfl) (o2 : zOut W1 1 2 = true := by rfl) (o3 : zOut W1 1 3 = true := by rfl) (o4 : zOut W1 1 4 = true := by rfl) (o5 : zOut W1 1 5 = true := by rfl) : qK m2 ∧ r1 = r2 := by
  obtain ⟨hR, hI⟩ := h
  have b0 := ib_1_0 hz
  have b1 := ib_1_1 hz
  have e70 : m1 70 = m 70 := zNo_eq g1 w1 (by decide)
  have hR' := hR
  obtain ⟨h0, h1, h2, h3, hA, hB, hC, hD0, hD1, hD2, hD3, hE, hL, hT, hS, hW, hGv, hDb, hZ⟩ := hR'
  rw [e70] at q0
  rw [e70] at q1
  have hI2 : qKi m2 := qKi_fr hI (fun c hc => (zNo_eq g2 w2 (by revert c; decide)).trans (zNo_eq g1 w1 (by revert c; decide)))
  have e2 : m2 2 = m 2 := (zNo_eq g2 w2 (by decide)).trans (zNo_eq g1 w1 (by decide))
  have e3 : m2 3 = m 3 := (zNo_eq g2 w2 (by decide)).trans (zNo_eq g1 w1 (by decide))
  have e4 : m2 4 = m 4 := (zNo_eq g2 w2 (by decide)).trans (zNo_eq g1 w1 (by decide))
  have e5 : m2 5 = m 5 := (zNo_eq g2 w2 (by decide)).trans (zNo_eq g1 w1 (by decide))
  have e6 : m2 6 = m 6 := (zNo_eq g2 w2 (by decide)).trans (zNo_eq g1 w1 (by decide))
  have e7 : m2 7 = m 7 := (zNo_eq g2 w2 (by decide)).trans (zNo_eq g1 w1 (by decide))
  have e8 : m2 8 = m 8 := (zNo_eq g2 w2 (by decide)).trans (zNo_eq g1 w1 (by decide))
  have e9 : m2 9 = m 9 := (zNo_eq g2 w2 (by decide)).trans (zNo_eq g1 w1 (by decide))
  have e11 : m2 11 = m 11 := (zNo_eq g2 w2 (by decide)).trans (zNo_eq g1 w1 (by decide))
  have e12 : m2 12 = m 12 := (zNo_eq g2 w2 (by decide)).trans (zNo_eq g1 w1 (by decide))
  have e13 : m2 13 = m 13 := (zNo_eq g2 w2 (by decide)).trans (zNo_eq g1 w1 (by decide))
  have s1 : m2 1 = m1 1 := zNo_eq g2 w2 (by decide)
  have u0 : m2 1 0 = m 1 0 := by rw [s1]; exact g1 1 0 o0
  have u1 : m2 1 1 = m 1 1 := by rw [s1]; exact g1 1 1 o1
  have u2 : m2 1 2 = m 1 2 := by rw [s1]; exact g1 1 2 o2
  have u3 : m2 1 3 = m 1 3 := by rw [s1]; exact g1 1 3 o3
  have u4 : m2 1 4 = m 1 4 := by rw [s1]; exact g1 1 4 o4
  have u5 : m2 1 5 = m 1 5 := by rw [s1]; exact g1 1 5 o5
  have hr : r1 = r2 := by
    by_cases hc : 0 ≤ a0 ∧ a0 ≤ 3
    · have key : m 70 (450 + 52 * a0 + 1).toNat = m 10 a0.toNat := by rw [show (450 + 52 * a0 + 1).toNat = 451 + 52 * a0.toNat by omega]; exact hL _ (by omega)
      omega
    · omega
  by_cases hs : 0 ≤ r1
  · skip
    have n10 : m2 10 = zPt (m 10) a0.toNat 0 := (zNo_eq g2 w2 (by decide)).trans (p1.trans (if_pos hs))
    have n70 := q1.trans (if_pos (by omega))
    have hN : qKn m2 := by
      unfold qKn
      rw [u0, u1, u2, u3, u4, u5, e2, e3, e4, e5, e6, e7, e8, e9, n10, e11, e12, e13, n70]
      exact zR_erase hR (by omega)
    exact ⟨⟨hN, hI2⟩, hr⟩
  · skip
    have n10 : m2 10 = m 10 := (zNo_eq g2 w2 (by decide)).trans (p1.trans (if_neg hs))
    have n70 := q1.trans (if_neg (by omega))
    have hN : qKn m2 := by
      unfold qKn
      rw [u0, u1, u2, u3, u4, u5, e2, e3, e4, e5, e6, e7, e8, e9, n10, e11, e12, e13, n70]
      exact hR
    exact ⟨⟨hN, hI2⟩, hr⟩
theorem zR_shape {p n v w u e a0 a1 : Int} {f2 f3 f4 f5 f6 f7 f8 f9 f10 f11 f12 f13 g : Nat → Int} (h : qR p n v w u e f2 f3 f4 f5 f6 f7 f8 f9 f10 f11 f12 f13 g) (hc : 0 ≤ a0 ∧ a0 ≤ 159)  : qR (p) (n) (v) (w) (u) (e) (f2) (f3) (f4) (f5) (f6) (f7) (f8) (f9) (f10) (f11) (zPt f12 a0.toNat a1) (f13) (zPt g (658 + a0).toNat a1) := by
  obtain ⟨h0, h1, h2, h3, hA, hB, hC, hD0, hD1, hD2, hD3, hE, hL, hT, hS, hW, hGv, hDb, hZ⟩ := h
  refine ⟨?_, ?_, ?_, ?_, ?_, ?_, ?_, ?_, ?_, ?_, ?_, ?_, ?_, ?_, ?_, ?_, ?_, ?_, ?_⟩
  · (try simp only [zPt]); (repeat' split) <;> first | omega | rfl | contradiction
  · (try simp only [zPt]); (repeat' split) <;> first | omega | rfl | contradiction
  · (try simp only [zPt]); (repeat' split) <;> first | omega | rfl | contradiction
  · (try simp only [zPt]); (repeat' split) <;> first | omega | rfl | contradiction
  · intro i hi; have hh := hA i hi; (try simp only [zPt]); (repeat' split) <;> first | omega | rfl | contradiction
  · intro i hi; have hh := hB i hi; (try simp only [zPt]); (repeat' split) <;> first | omega | rfl | contradiction
  · intro i hi; have hh := hC i hi; (try simp only [zPt]); (repeat' split) <;> first | omega | rfl | contradiction
  · intro i hi; have hh := hD0 i hi; (try simp only [zPt]); (repeat' split) <;> first | omega | rfl | contradiction
  · intro i hi; have hh := hD1 i hi; (try simp only [zPt]); (repeat' split) <;> first | omega | rfl | contradiction
  · intro i hi; have hh := hD2 i hi; (try simp only [zPt]); (repeat' split) <;> first | omega | rfl | contradiction
  · intro i hi; have hh := hD3 i hi; (try simp only [zPt]); (repeat' split) <;> first | omega | rfl | contradiction
  · intro i hi; have hh := hE i hi; (try simp only [zPt]); (repeat' split) <;> first | omega | rfl | contradiction
  · intro i hi; have hh := hL i hi; (try simp only [zPt]); (repeat' split) <;> first | omega | rfl | contradiction
  · intro i hi j hj; have hh := hT i hi j hj; (try simp only [zPt]); (repeat' split) <;> first | omega | rfl | contradiction
  · intro i hi; have hh := hS i hi; (try simp only [zPt]); (repeat' split) <;> first | omega | rfl | contradiction
  · intro i hi; have hh := hW i hi; (try simp only [zPt]); (repeat' split) <;> first | omega | rfl | contradiction
  · intro i hi; have hh := hGv i hi; (try simp only [zPt]); (repeat' split) <;> first | omega | rfl | contradiction
  · intro i hi; have hh := hDb i hi; (try simp only [zPt]); (repeat' split) <;> first | omega | rfl | contradiction
  · exact hZ
set_option maxHeartbeats 4000000 in
theorem zk_shape {W1 W2 : List (Nat × Nat)} {m m1 m2 : zM} {a0 a1 r1 r2 : Int} (hz : zInv m) (h : qK m) (g1 : zFr W1 m m1) (p0 : (r1 = -100000 ∧ (a0 < 0 ∨ 159 < a0 ∨ a1 < -500 ∨ 500 < a1)) ∨ (0 ≤ a0 ∧ a0 ≤ 159 ∧ -500 ≤ a1 ∧ a1 ≤ 500 ∧ -500 ≤ r1 ∧ r1 = (m 12) a0.toNat)) (p1 : m1 12 = if -500 ≤ r1 then zPt (m 12) a0.toNat a1 else (m 12)) (g2 : zFr W2 m1 m2) (q0 : (r2 = -100000 ∧ (a0 < 0 ∨ 159 < a0 ∨ a1 < -500 ∨ 500 < a1)) ∨ (0 ≤ a0 ∧ a0 ≤ 159 ∧ -500 ≤ a1 ∧ a1 ≤ 500 ∧ -500 ≤ r2 ∧ r2 = (m1 70) (658 + a0).toNat)) (q1 : m2 70 = if -500 ≤ r2 then zPt (m1 70) (658 + a0).toNat a1 else (m1 70)) (w1 : zNo W1 [2, 3, 4, 5, 6, 7, 8, 9, 10, 11, 13, 15, 16, 17, 18, 19, 20, 21, 22, 23, 24, 25, 26, 27, 28, 29, 30, 31, 32, 33, 34, 35, 36, 37, 38, 39, 40, 41, 71, 72, 70] = true := by rfl) (w2 : zNo W2 [1, 2, 3, 4, 5, 6, 7, 8, 9, 10, 11, 12, 13, 15, 16, 17, 18, 19, 20, 21, 22, 23, 24, 25, 26, 27, 28, 29, 30, 31, 32, 33, 34, 35, 36, 37, 38, 39, 40, 41, 71, 72] = true := by rfl) (o0 : zOut W1 1 0 = true := by rfl) (o1 : zOut W1 1 1 = true := by rfl) (o2 : zOut W1 1 2 = true := by rfl) (o3 : zOut W1 1 3 = true := by rfl) (o4 : zOut W1 1 4 = true := by rfl) (o5 : zOut W1 1 5 = true := by rfl) : qK m2 ∧ r1 = r2 := by
  obtain ⟨hR, hI⟩ := h
  have b0 := ib_1_0 hz
  have b1 := ib_1_1 hz
  have e70 : m1 70 = m 70 := zNo_eq g1 w1 (by decide)
  have hR' := hR
  obtain ⟨h0, h1, h2, h3, hA, hB, hC, hD0, hD1, hD2, hD3, hE, hL, hT, hS, hW, hGv, hDb, hZ⟩ := hR'
  rw [e70] at q0
  rw [e70] at q1
  have hI2 : qKi m2 := qKi_fr hI (fun c hc => (zNo_eq g2 w2 (by revert c; decide)).trans (zNo_eq g1 w1 (by revert c; decide)))
  have e2 : m2 2 = m 2 := (zNo_eq g2 w2 (by decide)).trans (zNo_eq g1 w1 (by decide))
  have e3 : m2 3 = m 3 := (zNo_eq g2 w2 (by decide)).trans (zNo_eq g1 w1 (by decide))
  have e4 : m2 4 = m 4 := (zNo_eq g2 w2 (by decide)).trans (zNo_eq g1 w1 (by decide))
  have e5 : m2 5 = m 5 := (zNo_eq g2 w2 (by decide)).trans (zNo_eq g1 w1 (by decide))
  have e6 : m2 6 = m 6 := (zNo_eq g2 w2 (by decide)).trans (zNo_eq g1 w1 (by decide))
  have e7 : m2 7 = m 7 := (zNo_eq g2 w2 (by decide)).trans (zNo_eq g1 w1 (by decide))
  have e8 : m2 8 = m 8 := (zNo_eq g2 w2 (by decide)).trans (zNo_eq g1 w1 (by decide))
  have e9 : m2 9 = m 9 := (zNo_eq g2 w2 (by decide)).trans (zNo_eq g1 w1 (by decide))
  have e10 : m2 10 = m 10 := (zNo_eq g2 w2 (by decide)).trans (zNo_eq g1 w1 (by decide))
  have e11 : m2 11 = m 11 := (zNo_eq g2 w2 (by decide)).trans (zNo_eq g1 w1 (by decide))
  have e13 : m2 13 = m 13 := (zNo_eq g2 w2 (by decide)).trans (zNo_eq g1 w1 (by decide))
  have s1 : m2 1 = m1 1 := zNo_eq g2 w2 (by decide)
  have u0 : m2 1 0 = m 1 0 := by rw [s1]; exact g1 1 0 o0
  have u1 : m2 1 1 = m 1 1 := by rw [s1]; exact g1 1 1 o1
  have u2 : m2 1 2 = m 1 2 := by rw [s1]; exact g1 1 2 o2
  have u3 : m2 1 3 = m 1 3 := by rw [s1]; exact g1 1 3 o3
  have u4 : m2 1 4 = m 1 4 := by rw [s1]; exact g1 1 4 o4
  have u5 : m2 1 5 = m 1 5 := by rw [s1]; exact g1 1 5 o5
  have hr : r1 = r2 := by
    by_cases hc : 0 ≤ a0 ∧ a0 ≤ 159
    · have key : m 70 (658 + a0).toNat = m 12 a0.toNat := by rw [show (658 + a0).toNat = 658 + a0.toNat by omega]; exact hS _ (by omega)
      omega
    · omega
  by_cases hs : -500 ≤ r1
  · skip
    have n12 : m2 12 = zPt (m 12) a0.toNat a1 := (zNo_eq g2 w2 (by decide)).trans (p1.trans (if_pos hs))
    have n70 := q1.trans (if_pos (by omega))
    have hN : qKn m2 := by
      unfold qKn
      rw [u0, u1, u2, u3, u4, u5, e2, e3, e4, e5, e6, e7, e8, e9, e10, e11, n12, e13, n70]
      exact zR_shape hR (by omega)
    exact ⟨⟨hN, hI2⟩, hr⟩
  · skip
    have n12 : m2 12 = m 12 := (zNo_eq g2 w2 (by decide)).trans (p1.trans (if_neg hs))
    have n70 := q1.trans (if_neg (by omega))
    have hN : qKn m2 := by
      unfold qKn
      rw [u0, u1, u2, u3, u4, u5, e2, e3, e4, e5, e6, e7, e8, e9, e10, e11, n12, e13, n70]
      exact hR
    exact ⟨⟨hN, hI2⟩, hr⟩
theorem zR_weight {p n v w u e a0 a1 : Int} {f2 f3 f4 f5 f6 f7 f8 f9 f10 f11 f12 f13 g : Nat → Int} (h : qR p n v w u e f2 f3 f4 f5 f6 f7 f8 f9 f10 f11 f12 f13 g) (hc : 0 ≤ a0 ∧ a0 ≤ 3)  : qR (p) (n) (v) (w) (u) (e) (f2) (f3) (f4) (f5) (f6) (f7) (f8) (f9) (f10) (f11) (f12) (zPt f13 a0.toNat a1) (zPt g (818 + a0).toNat a1) := by
  obtain ⟨h0, h1, h2, h3, hA, hB, hC, hD0, hD1, hD2, hD3, hE, hL, hT, hS, hW, hGv, hDb, hZ⟩ := h
  refine ⟨?_, ?_, ?_, ?_, ?_, ?_, ?_, ?_, ?_, ?_, ?_, ?_, ?_, ?_, ?_, ?_, ?_, ?_, ?_⟩
  · (try simp only [zPt]); (repeat' split) <;> first | omega | rfl | contradiction
  · (try simp only [zPt]); (repeat' split) <;> first | omega | rfl | contradiction
  · (try simp only [zPt]); (repeat' split) <;> first | omega | rfl | contradiction
  · (try simp only [zPt]); (repeat' split) <;> first | omega | rfl | contradiction
  · intro i hi; have hh := hA i hi; (try simp only [zPt]); (repeat' split) <;> first | omega | rfl | contradiction
  · intro i hi; have hh := hB i hi; (try simp only [zPt]); (repeat' split) <;> first | omega | rfl | contradiction
  · intro i hi; have hh := hC i hi; (try simp only [zPt]); (repeat' split) <;> first | omega | rfl | contradiction
  · intro i hi; have hh := hD0 i hi; (try simp only [zPt]); (repeat' split) <;> first | omega | rfl | contradiction
  · intro i hi; have hh := hD1 i hi; (try simp only [zPt]); (repeat' split) <;> first | omega | rfl | contradiction
  · intro i hi; have hh := hD2 i hi; (try simp only [zPt]); (repeat' split) <;> first | omega | rfl | contradiction
  · intro i hi; have hh := hD3 i hi; (try simp only [zPt]); (repeat' split) <;> first | omega | rfl | contradiction
  · intro i hi; have hh := hE i hi; (try simp only [zPt]); (repeat' split) <;> first | omega | rfl | contradiction
  · intro i hi; have hh := hL i hi; (try simp only [zPt]); (repeat' split) <;> first | omega | rfl | contradiction
  · intro i hi j hj; have hh := hT i hi j hj; (try simp only [zPt]); (repeat' split) <;> first | omega | rfl | contradiction
  · intro i hi; have hh := hS i hi; (try simp only [zPt]); (repeat' split) <;> first | omega | rfl | contradiction
  · intro i hi; have hh := hW i hi; (try simp only [zPt]); (repeat' split) <;> first | omega | rfl | contradiction
  · intro i hi; have hh := hGv i hi; (try simp only [zPt]); (repeat' split) <;> first | omega | rfl | contradiction
  · intro i hi; have hh := hDb i hi; (try simp only [zPt]); (repeat' split) <;> first | omega | rfl | contradiction
  · exact hZ
set_option maxHeartbeats 4000000 in
theorem zk_weight {W1 W2 : List (Nat × Nat)} {m m1 m2 : zM} {a0 a1 r1 r2 : Int} (hz : zInv m) (h : qK m) (g1 : zFr W1 m m1) (p0 : (r1 = -2 ∧ (a0 < 0 ∨ 3 < a0 ∨ a1 < 1 ∨ 9 < a1)) ∨ (0 ≤ a0 ∧ a0 ≤ 3 ∧ 1 ≤ a1 ∧ a1 ≤ 9 ∧ 0 ≤ r1 ∧ r1 = (m 13) a0.toNat)) (p1 : m1 13 = if 0 ≤ r1 then zPt (m 13) a0.toNat a1 else (m 13)) (g2 : zFr W2 m1 m2) (q0 : (r2 = -2 ∧ (a0 < 0 ∨ 3 < a0 ∨ a1 < 1 ∨ 9 < a1)) ∨ (0 ≤ a0 ∧ a0 ≤ 3 ∧ 1 ≤ a1 ∧ a1 ≤ 9 ∧ 0 ≤ r2 ∧ r2 = (m1 70) (818 + a0).toNat)) (q1 : m2 70 = if 0 ≤ r2 then zPt (m1 70) (818 + a0).toNat a1 else (m1 70)) (w1 : zNo W1 [2, 3, 4, 5, 6, 7, 8, 9, 10, 11, 12, 15, 16, 17, 18, 19, 20, 21, 22, 23, 24, 25, 26, 27, 28, 29, 30, 31, 32, 33, 34, 35, 36, 37, 38, 39, 40, 41, 71, 72, 70] = true := by rfl) (w2 : zNo W2 [1, 2, 3, 4, 5, 6, 7, 8, 9, 10, 11, 12, 13, 15, 16, 17, 18, 19, 20, 21, 22, 23, 24, 25, 26, 27, 28, 29, 30, 31, 32, 33, 34, 35, 36, 37, 38, 39, 40, 41, 71, 72] = true := by rfl) (o0 : zOut W1 1 0 = true := by rfl) (o1 : zOut W1 1 1 = true := by rfl) (o2 : zOut W1 1 2 = true := by rfl) (o3 : zOut W1 1 3 = true := by rfl) (o4 : zOut W1 1 4 = true := by rfl) (o5 : zOut W1 1 5 = true := by rfl) : qK m2 ∧ r1 = r2 := by
  obtain ⟨hR, hI⟩ := h
  have b0 := ib_1_0 hz
  have b1 := ib_1_1 hz
  have e70 : m1 70 = m 70 := zNo_eq g1 w1 (by decide)
  have hR' := hR
  obtain ⟨h0, h1, h2, h3, hA, hB, hC, hD0, hD1, hD2, hD3, hE, hL, hT, hS, hW, hGv, hDb, hZ⟩ := hR'
  rw [e70] at q0
  rw [e70] at q1
  have hI2 : qKi m2 := qKi_fr hI (fun c hc => (zNo_eq g2 w2 (by revert c; decide)).trans (zNo_eq g1 w1 (by revert c; decide)))
  have e2 : m2 2 = m 2 := (zNo_eq g2 w2 (by decide)).trans (zNo_eq g1 w1 (by decide))
  have e3 : m2 3 = m 3 := (zNo_eq g2 w2 (by decide)).trans (zNo_eq g1 w1 (by decide))
  have e4 : m2 4 = m 4 := (zNo_eq g2 w2 (by decide)).trans (zNo_eq g1 w1 (by decide))
  have e5 : m2 5 = m 5 := (zNo_eq g2 w2 (by decide)).trans (zNo_eq g1 w1 (by decide))
  have e6 : m2 6 = m 6 := (zNo_eq g2 w2 (by decide)).trans (zNo_eq g1 w1 (by decide))
  have e7 : m2 7 = m 7 := (zNo_eq g2 w2 (by decide)).trans (zNo_eq g1 w1 (by decide))
  have e8 : m2 8 = m 8 := (zNo_eq g2 w2 (by decide)).trans (zNo_eq g1 w1 (by decide))
  have e9 : m2 9 = m 9 := (zNo_eq g2 w2 (by decide)).trans (zNo_eq g1 w1 (by decide))
  have e10 : m2 10 = m 10 := (zNo_eq g2 w2 (by decide)).trans (zNo_eq g1 w1 (by decide))
  have e11 : m2 11 = m 11 := (zNo_eq g2 w2 (by decide)).trans (zNo_eq g1 w1 (by decide))
  have e12 : m2 12 = m 12 := (zNo_eq g2 w2 (by decide)).trans (zNo_eq g1 w1 (by decide))
  have s1 : m2 1 = m1 1 := zNo_eq g2 w2 (by decide)
  have u0 : m2 1 0 = m 1 0 := by rw [s1]; exact g1 1 0 o0
  have u1 : m2 1 1 = m 1 1 := by rw [s1]; exact g1 1 1 o1
  have u2 : m2 1 2 = m 1 2 := by rw [s1]; exact g1 1 2 o2
  have u3 : m2 1 3 = m 1 3 := by rw [s1]; exact g1 1 3 o3
  have u4 : m2 1 4 = m 1 4 := by rw [s1]; exact g1 1 4 o4
  have u5 : m2 1 5 = m 1 5 := by rw [s1]; exact g1 1 5 o5
  have hr : r1 = r2 := by
    by_cases hc : 0 ≤ a0 ∧ a0 ≤ 3
    · have key : m 70 (818 + a0).toNat = m 13 a0.toNat := by rw [show (818 + a0).toNat = 818 + a0.toNat by omega]; exact hW _ (by omega)
      omega
    · omega
  by_cases hs : 0 ≤ r1
  · skip
    have n13 : m2 13 = zPt (m 13) a0.toNat a1 := (zNo_eq g2 w2 (by decide)).trans (p1.trans (if_pos hs))
    have n70 := q1.trans (if_pos (by omega))
    have hN : qKn m2 := by
      unfold qKn
      rw [u0, u1, u2, u3, u4, u5, e2, e3, e4, e5, e6, e7, e8, e9, e10, e11, e12, n13, n70]
      exact zR_weight hR (by omega)
    exact ⟨⟨hN, hI2⟩, hr⟩
  · skip
    have n13 : m2 13 = m 13 := (zNo_eq g2 w2 (by decide)).trans (p1.trans (if_neg hs))
    have n70 := q1.trans (if_neg (by omega))
    have hN : qKn m2 := by
      unfold qKn
      rw [u0, u1, u2, u3, u4, u5, e2, e3, e4, e5, e6, e7, e8, e9, e10, e11, e12, n13, n70]
      exact hR
    exact ⟨⟨hN, hI2⟩, hr⟩
theorem zR_wide {p n v w u e a0 a1 : Int} {f2 f3 f4 f5 f6 f7 f8 f9 f10 f11 f12 f13 g : Nat → Int} (h : qR p n v w u e f2 f3 f4 f5 f6 f7 f8 f9 f10 f11 f12 f13 g) (hc : a0 = a0)  : qR (p) (n) (v) (w) (a0) (a1) (f2) (f3) (f4) (f5) (f6) (f7) (f8) (f9) (f10) (f11) (f12) (f13) (zPt (zPt g 824 a0) 825 a1) := by
  obtain ⟨h0, h1, h2, h3, hA, hB, hC, hD0, hD1, hD2, hD3, hE, hL, hT, hS, hW, hGv, hDb, hZ⟩ := h
  refine ⟨?_, ?_, ?_, ?_, ?_, ?_, ?_, ?_, ?_, ?_, ?_, ?_, ?_, ?_, ?_, ?_, ?_, ?_, ?_⟩
  · (try simp only [zPt]); (repeat' split) <;> first | omega | rfl | contradiction
  · (try simp only [zPt]); (repeat' split) <;> first | omega | rfl | contradiction
  · (try simp only [zPt]); (repeat' split) <;> first | omega | rfl | contradiction
  · (try simp only [zPt]); (repeat' split) <;> first | omega | rfl | contradiction
  · intro i hi; have hh := hA i hi; (try simp only [zPt]); (repeat' split) <;> first | omega | rfl | contradiction
  · intro i hi; have hh := hB i hi; (try simp only [zPt]); (repeat' split) <;> first | omega | rfl | contradiction
  · intro i hi; have hh := hC i hi; (try simp only [zPt]); (repeat' split) <;> first | omega | rfl | contradiction
  · intro i hi; have hh := hD0 i hi; (try simp only [zPt]); (repeat' split) <;> first | omega | rfl | contradiction
  · intro i hi; have hh := hD1 i hi; (try simp only [zPt]); (repeat' split) <;> first | omega | rfl | contradiction
  · intro i hi; have hh := hD2 i hi; (try simp only [zPt]); (repeat' split) <;> first | omega | rfl | contradiction
  · intro i hi; have hh := hD3 i hi; (try simp only [zPt]); (repeat' split) <;> first | omega | rfl | contradiction
  · intro i hi; have hh := hE i hi; (try simp only [zPt]); (repeat' split) <;> first | omega | rfl | contradiction
  · intro i hi; have hh := hL i hi; (try simp only [zPt]); (repeat' split) <;> first | omega | rfl | contradiction
  · intro i hi j hj; have hh := hT i hi j hj; (try simp only [zPt]); (repeat' split) <;> first | omega | rfl | contradiction
  · intro i hi; have hh := hS i hi; (try simp only [zPt]); (repeat' split) <;> first | omega | rfl | contradiction
  · intro i hi; have hh := hW i hi; (try simp only [zPt]); (repeat' split) <;> first | omega | rfl | contradiction
  · intro i hi; have hh := hGv i hi; (try simp only [zPt]); (repeat' split) <;> first | omega | rfl | contradiction
  · intro i hi; have hh := hDb i hi; (try simp only [zPt]); (repeat' split) <;> first | omega | rfl | contradiction
  · exact hZ
set_option maxHeartbeats 4000000 in
theorem zk_wide {W1 W2 : List (Nat × Nat)} {m m1 m2 : zM} {a0 a1 ga0 ga1 r1 r2 : Int} (hz : zInv m) (h : qK m) (g1 : zFr W1 m m1) (x0 : m 1 4 = ga0) (x1 : m 1 5 = ga1) (p0 : (r1 = 1 ∧ 1 ≤ a0 ∧ a0 ≤ 1000 ∧ 0 ≤ a1 ∧ a1 ≤ 500) ∨ (r1 = -2 ∧ (a0 < 1 ∨ 1000 < a0 ∨ a1 < 0 ∨ 500 < a1))) (p1 : (r1 = 1 ∧ m1 1 4 = a0 ∧ m1 1 5 = a1) ∨ (r1 = -2 ∧ m1 1 4 = ga0 ∧ m1 1 5 = ga1)) (g2 : zFr W2 m1 m2) (q0 : (r2 = 1 ∧ 1 ≤ a0 ∧ a0 ≤ 1000 ∧ 0 ≤ a1 ∧ a1 ≤ 500) ∨ (r2 = -2 ∧ (a0 < 1 ∨ 1000 < a0 ∨ a1 < 0 ∨ 500 < a1))) (q1 : m2 70 = if 0 ≤ r2 then zPt (zPt (m1 70) 824 a0) 825 a1 else (m1 70)) (w1 : zNo W1 [2, 3, 4, 5, 6, 7, 8, 9, 10, 11, 12, 13, 15, 16, 17, 18, 19, 20, 21, 22, 23, 24, 25, 26, 27, 28, 29, 30, 31, 32, 33, 34, 35, 36, 37, 38, 39, 40, 41, 71, 72, 70] = true := by rfl) (w2 : zNo W2 [1, 2, 3, 4, 5, 6, 7, 8, 9, 10, 11, 12, 13, 15, 16, 17, 18, 19, 20, 21, 22, 23, 24, 25, 26, 27, 28, 29, 30, 31, 32, 33, 34, 35, 36, 37, 38, 39, 40, 41, 71, 72] = true := by rfl) (o0 : zOut W1 1 0 = true := by rfl) (o1 : zOut W1 1 1 = true := by rfl) (o2 : zOut W1 1 2 = true := by rfl) (o3 : zOut W1 1 3 = true := by rfl) : qK m2 ∧ r1 = r2 := by
  obtain ⟨hR, hI⟩ := h
  have b0 := ib_1_0 hz
  have b1 := ib_1_1 hz
  subst x0
  subst x1
  have e70 : m1 70 = m 70 := zNo_eq g1 w1 (by decide)
  have hR' := hR
  obtain ⟨h0, h1, h2, h3, hA, hB, hC, hD0, hD1, hD2, hD3, hE, hL, hT, hS, hW, hGv, hDb, hZ⟩ := hR'
  rw [e70] at q1
  have hI2 : qKi m2 := qKi_fr hI (fun c hc => (zNo_eq g2 w2 (by revert c; decide)).trans (zNo_eq g1 w1 (by revert c; decide)))
  have e2 : m2 2 = m 2 := (zNo_eq g2 w2 (by decide)).trans (zNo_eq g1 w1 (by decide))
  have e3 : m2 3 = m 3 := (zNo_eq g2 w2 (by decide)).trans (zNo_eq g1 w1 (by decide))
  have e4 : m2 4 = m 4 := (zNo_eq g2 w2 (by decide)).trans (zNo_eq g1 w1 (by decide))
  have e5 : m2 5 = m 5 := (zNo_eq g2 w2 (by decide)).trans (zNo_eq g1 w1 (by decide))
  have e6 : m2 6 = m 6 := (zNo_eq g2 w2 (by decide)).trans (zNo_eq g1 w1 (by decide))
  have e7 : m2 7 = m 7 := (zNo_eq g2 w2 (by decide)).trans (zNo_eq g1 w1 (by decide))
  have e8 : m2 8 = m 8 := (zNo_eq g2 w2 (by decide)).trans (zNo_eq g1 w1 (by decide))
  have e9 : m2 9 = m 9 := (zNo_eq g2 w2 (by decide)).trans (zNo_eq g1 w1 (by decide))
  have e10 : m2 10 = m 10 := (zNo_eq g2 w2 (by decide)).trans (zNo_eq g1 w1 (by decide))
  have e11 : m2 11 = m 11 := (zNo_eq g2 w2 (by decide)).trans (zNo_eq g1 w1 (by decide))
  have e12 : m2 12 = m 12 := (zNo_eq g2 w2 (by decide)).trans (zNo_eq g1 w1 (by decide))
  have e13 : m2 13 = m 13 := (zNo_eq g2 w2 (by decide)).trans (zNo_eq g1 w1 (by decide))
  have s1 : m2 1 = m1 1 := zNo_eq g2 w2 (by decide)
  have u0 : m2 1 0 = m 1 0 := by rw [s1]; exact g1 1 0 o0
  have u1 : m2 1 1 = m 1 1 := by rw [s1]; exact g1 1 1 o1
  have u2 : m2 1 2 = m 1 2 := by rw [s1]; exact g1 1 2 o2
  have u3 : m2 1 3 = m 1 3 := by rw [s1]; exact g1 1 3 o3
  have hr : r1 = r2 := by
    omega
  by_cases hs : 0 ≤ r1
  · skip
    have n70 := q1.trans (if_pos (by omega))
    have u4 : m2 1 4 = (a0) := by rw [s1]; omega
    have u5 : m2 1 5 = (a1) := by rw [s1]; omega
    have hN : qKn m2 := by
      unfold qKn
      rw [u0, u1, u2, u3, u4, u5, e2, e3, e4, e5, e6, e7, e8, e9, e10, e11, e12, e13, n70]
      exact zR_wide hR (by omega)
    exact ⟨⟨hN, hI2⟩, hr⟩
  · skip
    have n70 := q1.trans (if_neg (by omega))
    have u4 : m2 1 4 = m 1 4 := by rw [s1]; omega
    have u5 : m2 1 5 = m 1 5 := by rw [s1]; omega
    have hN : qKn m2 := by
      unfold qKn
      rw [u0, u1, u2, u3, u4, u5, e2, e3, e4, e5, e6, e7, e8, e9, e10, e11, e12, e13, n70]
      exact hR
    exact ⟨⟨hN, hI2⟩, hr⟩
theorem zR_moves {p n v w u e a0 a1 a2 a3 : Int} {f2 f3 f4 f5 f6 f7 f8 f9 f10 f11 f12 f13 g : Nat → Int} (h : qR p n v w u e f2 f3 f4 f5 f6 f7 f8 f9 f10 f11 f12 f13 g) (hc : 0 ≤ a0 ∧ a0 < 10 ∧ 0 ≤ a1 ∧ a1 ≤ 3)  : qR (p) (n) (v) (w) (u) (e) (f2) (zPt f3 (a0 * 4 + a1).toNat a2) (zPt f4 (a0 * 4 + a1).toNat a3) (f5) (f6) (f7) (f8) (f9) (f10) (f11) (f12) (f13) (zPt (zPt g (10 + 8 * a0 + 2 * a1).toNat a2) (10 + 8 * a0 + 2 * a1 + 1).toNat a3) := by
  obtain ⟨h0, h1, h2, h3, hA, hB, hC, hD0, hD1, hD2, hD3, hE, hL, hT, hS, hW, hGv, hDb, hZ⟩ := h
  refine ⟨?_, ?_, ?_, ?_, ?_, ?_, ?_, ?_, ?_, ?_, ?_, ?_, ?_, ?_, ?_, ?_, ?_, ?_, ?_⟩
  · (try simp only [zPt]); (repeat' split) <;> first | omega | rfl | contradiction
  · (try simp only [zPt]); (repeat' split) <;> first | omega | rfl | contradiction
  · (try simp only [zPt]); (repeat' split) <;> first | omega | rfl | contradiction
  · (try simp only [zPt]); (repeat' split) <;> first | omega | rfl | contradiction
  · intro i hi; have hh := hA i hi; (try simp only [zPt]); (repeat' split) <;> first | omega | rfl | contradiction
  · intro i hi; have hh := hB i hi; (try simp only [zPt]); (repeat' split) <;> first | omega | rfl | contradiction
  · intro i hi; have hh := hC i hi; (try simp only [zPt]); (repeat' split) <;> first | omega | rfl | contradiction
  · intro i hi; have hh := hD0 i hi; (try simp only [zPt]); (repeat' split) <;> first | omega | rfl | contradiction
  · intro i hi; have hh := hD1 i hi; (try simp only [zPt]); (repeat' split) <;> first | omega | rfl | contradiction
  · intro i hi; have hh := hD2 i hi; (try simp only [zPt]); (repeat' split) <;> first | omega | rfl | contradiction
  · intro i hi; have hh := hD3 i hi; (try simp only [zPt]); (repeat' split) <;> first | omega | rfl | contradiction
  · intro i hi; have hh := hE i hi; (try simp only [zPt]); (repeat' split) <;> first | omega | rfl | contradiction
  · intro i hi; have hh := hL i hi; (try simp only [zPt]); (repeat' split) <;> first | omega | rfl | contradiction
  · intro i hi j hj; have hh := hT i hi j hj; (try simp only [zPt]); (repeat' split) <;> first | omega | rfl | contradiction
  · intro i hi; have hh := hS i hi; (try simp only [zPt]); (repeat' split) <;> first | omega | rfl | contradiction
  · intro i hi; have hh := hW i hi; (try simp only [zPt]); (repeat' split) <;> first | omega | rfl | contradiction
  · intro i hi; have hh := hGv i hi; (try simp only [zPt]); (repeat' split) <;> first | omega | rfl | contradiction
  · intro i hi; have hh := hDb i hi; (try simp only [zPt]); (repeat' split) <;> first | omega | rfl | contradiction
  · exact hZ
set_option maxHeartbeats 4000000 in
theorem zk_moves {W1 W2 : List (Nat × Nat)} {m m1 m2 : zM} {a0 a1 a2 a3 ga0 gb0 r1 r2 : Int} (hz : zInv m) (h : qK m) (g1 : zFr W1 m m1) (x0 : m 1 0 = ga0) (p0 : (r1 = -2 ∧ (a0 < 0 ∨ ga0 ≤ a0 ∨ a1 < 0 ∨ 3 < a1 ∨ a3 < 1 ∨ 99 < a3 ∨ a2 < 0 ∨ a3 < a2)) ∨ (r1 = 1 ∧ (0 ≤ a0 ∧ a0 < ga0 ∧ 0 ≤ a1 ∧ a1 ≤ 3 ∧ 1 ≤ a3 ∧ a3 ≤ 99 ∧ 0 ≤ a2 ∧ a2 ≤ a3))) (p1 : m1 3 = if 0 ≤ r1 then zPt (m 3) (a0 * 4 + a1).toNat a2 else (m 3)) (p2 : m1 4 = if 0 ≤ r1 then zPt (m 4) (a0 * 4 + a1).toNat a3 else (m 4)) (g2 : zFr W2 m1 m2) (y0 : m1 70 822 = gb0) (q0 : (r2 = -2 ∧ (a0 < 0 ∨ gb0 ≤ a0 ∨ a1 < 0 ∨ 3 < a1 ∨ a3 < 1 ∨ 99 < a3 ∨ a2 < 0 ∨ a3 < a2)) ∨ (r2 = 1 ∧ (0 ≤ a0 ∧ a0 < gb0 ∧ 0 ≤ a1 ∧ a1 ≤ 3 ∧ 1 ≤ a3 ∧ a3 ≤ 99 ∧ 0 ≤ a2 ∧ a2 ≤ a3))) (q1 : m2 70 = if 0 ≤ r2 then zPt (zPt (m1 70) (10 + 8 * a0 + 2 * a1).toNat a2) (10 + 8 * a0 + 2 * a1 + 1).toNat a3 else (m1 70)) (w1 : zNo W1 [2, 5, 6, 7, 8, 9, 10, 11, 12, 13, 15, 16, 17, 18, 19, 20, 21, 22, 23, 24, 25, 26, 27, 28, 29, 30, 31, 32, 33, 34, 35, 36, 37, 38, 39, 40, 41, 71, 72, 70] = true := by rfl) (w2 : zNo W2 [1, 2, 3, 4, 5, 6, 7, 8, 9, 10, 11, 12, 13, 15, 16, 17, 18, 19, 20, 21, 22, 23, 24, 25, 26, 27, 28, 29, 30, 31, 32, 33, 34, 35, 36, 37, 38, 39, 40, 41, 71, 72] = true := by rfl) (o0 : zOut W1 1 0 = true := by rfl) (o1 : zOut W1 1 1 = true := by rfl) (o2 : zOut W1 1 2 = true := by rfl) (o3 : zOut W1 1 3 = true := by rfl) (o4 : zOut W1 1 4 = true := by rfl) (o5 : zOut W1 1 5 = true := by rfl) : qK m2 ∧ r1 = r2 := by
  obtain ⟨hR, hI⟩ := h
  have b0 := ib_1_0 hz
  have b1 := ib_1_1 hz
  subst x0
  have e70 : m1 70 = m 70 := zNo_eq g1 w1 (by decide)
  have hR' := hR
  obtain ⟨h0, h1, h2, h3, hA, hB, hC, hD0, hD1, hD2, hD3, hE, hL, hT, hS, hW, hGv, hDb, hZ⟩ := hR'
  rw [e70] at y0
  have z0 : gb0 = m 1 0 := by omega
  subst z0
  rw [e70] at q1
  have hI2 : qKi m2 := qKi_fr hI (fun c hc => (zNo_eq g2 w2 (by revert c; decide)).trans (zNo_eq g1 w1 (by revert c; decide)))
  have e2 : m2 2 = m 2 := (zNo_eq g2 w2 (by decide)).trans (zNo_eq g1 w1 (by decide))
  have e5 : m2 5 = m 5 := (zNo_eq g2 w2 (by decide)).trans (zNo_eq g1 w1 (by decide))
  have e6 : m2 6 = m 6 := (zNo_eq g2 w2 (by decide)).trans (zNo_eq g1 w1 (by decide))
  have e7 : m2 7 = m 7 := (zNo_eq g2 w2 (by decide)).trans (zNo_eq g1 w1 (by decide))
  have e8 : m2 8 = m 8 := (zNo_eq g2 w2 (by decide)).trans (zNo_eq g1 w1 (by decide))
  have e9 : m2 9 = m 9 := (zNo_eq g2 w2 (by decide)).trans (zNo_eq g1 w1 (by decide))
  have e10 : m2 10 = m 10 := (zNo_eq g2 w2 (by decide)).trans (zNo_eq g1 w1 (by decide))
  have e11 : m2 11 = m 11 := (zNo_eq g2 w2 (by decide)).trans (zNo_eq g1 w1 (by decide))
  have e12 : m2 12 = m 12 := (zNo_eq g2 w2 (by decide)).trans (zNo_eq g1 w1 (by decide))
  have e13 : m2 13 = m 13 := (zNo_eq g2 w2 (by decide)).trans (zNo_eq g1 w1 (by decide))
  have s1 : m2 1 = m1 1 := zNo_eq g2 w2 (by decide)
  have u0 : m2 1 0 = m 1 0 := by rw [s1]; exact g1 1 0 o0
  have u1 : m2 1 1 = m 1 1 := by rw [s1]; exact g1 1 1 o1
  have u2 : m2 1 2 = m 1 2 := by rw [s1]; exact g1 1 2 o2
  have u3 : m2 1 3 = m 1 3 := by rw [s1]; exact g1 1 3 o3
  have u4 : m2 1 4 = m 1 4 := by rw [s1]; exact g1 1 4 o4
  have u5 : m2 1 5 = m 1 5 := by rw [s1]; exact g1 1 5 o5
  have hr : r1 = r2 := by
    omega
  by_cases hs : 0 ≤ r1
  · skip
    have n3 : m2 3 = zPt (m 3) (a0 * 4 + a1).toNat a2 := (zNo_eq g2 w2 (by decide)).trans (p1.trans (if_pos hs))
    have n4 : m2 4 = zPt (m 4) (a0 * 4 + a1).toNat a3 := (zNo_eq g2 w2 (by decide)).trans (p2.trans (if_pos hs))
    have n70 := q1.trans (if_pos (by omega))
    have hN : qKn m2 := by
      unfold qKn
      rw [u0, u1, u2, u3, u4, u5, e2, n3, n4, e5, e6, e7, e8, e9, e10, e11, e12, e13, n70]
      exact zR_moves hR (by omega)
    exact ⟨⟨hN, hI2⟩, hr⟩
  · skip
    have n3 : m2 3 = m 3 := (zNo_eq g2 w2 (by decide)).trans (p1.trans (if_neg hs))
    have n4 : m2 4 = m 4 := (zNo_eq g2 w2 (by decide)).trans (p2.trans (if_neg hs))
    have n70 := q1.trans (if_neg (by omega))
    have hN : qKn m2 := by
      unfold qKn
      rw [u0, u1, u2, u3, u4, u5, e2, n3, n4, e5, e6, e7, e8, e9, e10, e11, e12, e13, n70]
      exact hR
    exact ⟨⟨hN, hI2⟩, hr⟩
theorem zR_write {p n v w u e a0 a1 a9 : Int} {f2 f3 f4 f5 f6 f7 f8 f9 f10 f11 f12 f13 g : Nat → Int} (h : qR p n v w u e f2 f3 f4 f5 f6 f7 f8 f9 f10 f11 f12 f13 g) (hc : 0 ≤ a0 ∧ a0 ≤ 3 ∧ 0 ≤ a9 ∧ a9 < 50)  : qR (p) (n) (v) (w) (u) (e) (f2) (f3) (f4) (f5) (f6) (f7) (f8) (f9) (zPt f10 a0.toNat (a9 + 1)) (zPt f11 (a0 * 50 + a9).toNat a1) (f12) (f13) (zPt (zPt g (450 + 52 * a0 + 2 + a9).toNat a1) (450 + 52 * a0 + 1).toNat (a9 + 1)) := by
  obtain ⟨h0, h1, h2, h3, hA, hB, hC, hD0, hD1, hD2, hD3, hE, hL, hT, hS, hW, hGv, hDb, hZ⟩ := h
  refine ⟨?_, ?_, ?_, ?_, ?_, ?_, ?_, ?_, ?_, ?_, ?_, ?_, ?_, ?_, ?_, ?_, ?_, ?_, ?_⟩
  · (try simp only [zPt]); (repeat' split) <;> first | omega | rfl | contradiction
  · (try simp only [zPt]); (repeat' split) <;> first | omega | rfl | contradiction
  · (try simp only [zPt]); (repeat' split) <;> first | omega | rfl | contradiction
  · (try simp only [zPt]); (repeat' split) <;> first | omega | rfl | contradiction
  · intro i hi; have hh := hA i hi; (try simp only [zPt]); (repeat' split) <;> first | omega | rfl | contradiction
  · intro i hi; have hh := hB i hi; (try simp only [zPt]); (repeat' split) <;> first | omega | rfl | contradiction
  · intro i hi; have hh := hC i hi; (try simp only [zPt]); (repeat' split) <;> first | omega | rfl | contradiction
  · intro i hi; have hh := hD0 i hi; (try simp only [zPt]); (repeat' split) <;> first | omega | rfl | contradiction
  · intro i hi; have hh := hD1 i hi; (try simp only [zPt]); (repeat' split) <;> first | omega | rfl | contradiction
  · intro i hi; have hh := hD2 i hi; (try simp only [zPt]); (repeat' split) <;> first | omega | rfl | contradiction
  · intro i hi; have hh := hD3 i hi; (try simp only [zPt]); (repeat' split) <;> first | omega | rfl | contradiction
  · intro i hi; have hh := hE i hi; (try simp only [zPt]); (repeat' split) <;> first | omega | rfl | contradiction
  · intro i hi; have hh := hL i hi; (try simp only [zPt]); (repeat' split) <;> first | omega | rfl | contradiction
  · intro i hi j hj; have hh := hT i hi j hj; (try simp only [zPt]); (repeat' split) <;> first | omega | rfl | contradiction
  · intro i hi; have hh := hS i hi; (try simp only [zPt]); (repeat' split) <;> first | omega | rfl | contradiction
  · intro i hi; have hh := hW i hi; (try simp only [zPt]); (repeat' split) <;> first | omega | rfl | contradiction
  · intro i hi; have hh := hGv i hi; (try simp only [zPt]); (repeat' split) <;> first | omega | rfl | contradiction
  · intro i hi; have hh := hDb i hi; (try simp only [zPt]); (repeat' split) <;> first | omega | rfl | contradiction
  · exact hZ
set_option maxHeartbeats 4000000 in
theorem zk_write {W1 W2 : List (Nat × Nat)} {m m1 m2 : zM} {a0 a1 r1 r2 : Int} (hz : zInv m) (h : qK m) (g1 : zFr W1 m m1) (p0 : (r1 = -2 ∧ (a0 < 0 ∨ 3 < a0 ∨ a1 < 0 ∨ 127 < a1)) ∨ (0 ≤ a0 ∧ a0 ≤ 3 ∧ 0 ≤ a1 ∧ a1 ≤ 127 ∧ ((r1 = -4 ∧ (m 10) a0.toNat = 50) ∨ (0 ≤ (m 10) a0.toNat ∧ (m 10) a0.toNat < 50 ∧ r1 = (m 10) a0.toNat + 1)))) (p1 : m1 10 = if 0 ≤ r1 then zPt (m 10) a0.toNat ((m 10) a0.toNat + 1) else (m 10)) (p2 : m1 11 = if 0 ≤ r1 then zPt (m 11) (a0 * 50 + (m 10) a0.toNat).toNat a1 else (m 11)) (g2 : zFr W2 m1 m2) (q0 : (r2 = -2 ∧ (a0 < 0 ∨ 3 < a0 ∨ a1 < 0 ∨ 127 < a1)) ∨ (0 ≤ a0 ∧ a0 ≤ 3 ∧ 0 ≤ a1 ∧ a1 ≤ 127 ∧ ((r2 = -4 ∧ (m1 70) (450 + 52 * a0 + 1).toNat = 50) ∨ (0 ≤ (m1 70) (450 + 52 * a0 + 1).toNat ∧ (m1 70) (450 + 52 * a0 + 1).toNat < 50 ∧ r2 = (m1 70) (450 + 52 * a0 + 1).toNat + 1)))) (q1 : m2 70 = if 0 ≤ r2 then zPt (zPt (m1 70) (450 + 52 * a0 + 2 + (m1 70) (450 + 52 * a0 + 1).toNat).toNat a1) (450 + 52 * a0 + 1).toNat ((m1 70) (450 + 52 * a0 + 1).toNat + 1) else (m1 70)) (w1 : zNo W1 [2, 3, 4, 5, 6, 7, 8, 9, 12, 13, 15, 16, 17, 18, 19, 20, 21, 22, 23, 24, 25, 26, 27, 28, 29, 30, 31, 32, 33, 34, 35, 36, 37, 38, 39, 40, 41, 71, 72, 70] = true := by rfl) (w2 : zNo W2 [1, 2, 3, 4, 5, 6, 7, 8, 9, 10, 11, 12, 13, 15, 16, 17, 18, 19, 20, 21, 22, 23, 24, 25, 26, 27, 28, 29, 30, 31, 32, 33, 34, 35, 36, 37, 38, 39, 40, 41, 71, 72] = true := by rfl) (o0 : zOut W1 1 0 = true := by rfl) (o1 : zOut W1 1 1 = true := by rfl) (o2 : zOut W1 1 2 = true := by rfl) (o3 : zOut W1 1 3 = true := by rfl) (o4 : zOut W1 1 4 = true := by rfl) (o5 : zOut W1 1 5 = true := by rfl) : qK m2 ∧ r1 = r2 := by
  obtain ⟨hR, hI⟩ := h
  have b0 := ib_1_0 hz
  have b1 := ib_1_1 hz
  have e70 : m1 70 = m 70 := zNo_eq g1 w1 (by decide)
  have hR' := hR
  obtain ⟨h0, h1, h2, h3, hA, hB, hC, hD0, hD1, hD2, hD3, hE, hL, hT, hS, hW, hGv, hDb, hZ⟩ := hR'
  rw [e70] at q0
  rw [e70] at q1
  have hI2 : qKi m2 := qKi_fr hI (fun c hc => (zNo_eq g2 w2 (by revert c; decide)).trans (zNo_eq g1 w1 (by revert c; decide)))
  have e2 : m2 2 = m 2 := (zNo_eq g2 w2 (by decide)).trans (zNo_eq g1 w1 (by decide))
  have e3 : m2 3 = m 3 := (zNo_eq g2 w2 (by decide)).trans (zNo_eq g1 w1 (by decide))
  have e4 : m2 4 = m 4 := (zNo_eq g2 w2 (by decide)).trans (zNo_eq g1 w1 (by decide))
  have e5 : m2 5 = m 5 := (zNo_eq g2 w2 (by decide)).trans (zNo_eq g1 w1 (by decide))
  have e6 : m2 6 = m 6 := (zNo_eq g2 w2 (by decide)).trans (zNo_eq g1 w1 (by decide))
  have e7 : m2 7 = m 7 := (zNo_eq g2 w2 (by decide)).trans (zNo_eq g1 w1 (by decide))
  have e8 : m2 8 = m 8 := (zNo_eq g2 w2 (by decide)).trans (zNo_eq g1 w1 (by decide))
  have e9 : m2 9 = m 9 := (zNo_eq g2 w2 (by decide)).trans (zNo_eq g1 w1 (by decide))
  have e12 : m2 12 = m 12 := (zNo_eq g2 w2 (by decide)).trans (zNo_eq g1 w1 (by decide))
  have e13 : m2 13 = m 13 := (zNo_eq g2 w2 (by decide)).trans (zNo_eq g1 w1 (by decide))
  have s1 : m2 1 = m1 1 := zNo_eq g2 w2 (by decide)
  have u0 : m2 1 0 = m 1 0 := by rw [s1]; exact g1 1 0 o0
  have u1 : m2 1 1 = m 1 1 := by rw [s1]; exact g1 1 1 o1
  have u2 : m2 1 2 = m 1 2 := by rw [s1]; exact g1 1 2 o2
  have u3 : m2 1 3 = m 1 3 := by rw [s1]; exact g1 1 3 o3
  have u4 : m2 1 4 = m 1 4 := by rw [s1]; exact g1 1 4 o4
  have u5 : m2 1 5 = m 1 5 := by rw [s1]; exact g1 1 5 o5
  have hr : r1 = r2 := by
    by_cases hc : 0 ≤ a0 ∧ a0 ≤ 3
    · have key : m 70 (450 + 52 * a0 + 1).toNat = m 10 a0.toNat := by rw [show (450 + 52 * a0 + 1).toNat = 451 + 52 * a0.toNat by omega]; exact hL _ (by omega)
      omega
    · omega
  by_cases hs : 0 ≤ r1
  · skip
    have n10 : m2 10 = zPt (m 10) a0.toNat (m 10 a0.toNat + 1) := (zNo_eq g2 w2 (by decide)).trans (p1.trans (if_pos hs))
    have n11 : m2 11 = zPt (m 11) (a0 * 50 + m 10 a0.toNat).toNat a1 := (zNo_eq g2 w2 (by decide)).trans (p2.trans (if_pos hs))
    have n70 := q1.trans (if_pos (by omega))
    have key : m 70 (450 + 52 * a0 + 1).toNat = m 10 a0.toNat := by rw [show (450 + 52 * a0 + 1).toNat = 451 + 52 * a0.toNat by omega]; exact hL _ (by omega)
    rw [key] at n70
    have hN : qKn m2 := by
      unfold qKn
      rw [u0, u1, u2, u3, u4, u5, e2, e3, e4, e5, e6, e7, e8, e9, n10, n11, e12, e13, n70]
      exact zR_write hR (by omega)
    exact ⟨⟨hN, hI2⟩, hr⟩
  · skip
    have n10 : m2 10 = m 10 := (zNo_eq g2 w2 (by decide)).trans (p1.trans (if_neg hs))
    have n11 : m2 11 = m 11 := (zNo_eq g2 w2 (by decide)).trans (p2.trans (if_neg hs))
    have n70 := q1.trans (if_neg (by omega))
    have hN : qKn m2 := by
      unfold qKn
      rw [u0, u1, u2, u3, u4, u5, e2, e3, e4, e5, e6, e7, e8, e9, n10, n11, e12, e13, n70]
      exact hR
    exact ⟨⟨hN, hI2⟩, hr⟩
theorem zR_meeting {p n v w u e a0 a1 a2 a3 a4 v' : Int} {f2 f3 f4 f5 f6 f7 f8 f9 f10 f11 f12 f13 g : Nat → Int} (h : qR p n v w u e f2 f3 f4 f5 f6 f7 f8 f9 f10 f11 f12 f13 g) (hc : 0 ≤ n ∧ n < 60) (hv : ∀ i, i < 60 → zbt v' i = if i = n.toNat then a4 else zbt v i) : qR (p) (n + 1) (v') (w) (u) (e) (f2) (f3) (f4) (zPt f5 n.toNat a0) (zPt f6 n.toNat a1) (zPt f7 n.toNat a2) (zPt f8 n.toNat a3) (f9) (f10) (f11) (f12) (f13) (zPt (zPt (zPt (zPt (zPt (zPt (zPt (g) (90 + 6 * n + 0).toNat a0) (90 + 6 * n + 1).toNat a1) (90 + 6 * n + 2).toNat a2) (90 + 6 * n + 3).toNat a3) (90 + 6 * n + 4).toNat a4) (90 + 6 * n + 5).toNat 0) 823 (n + 1)) := by
  obtain ⟨h0, h1, h2, h3, hA, hB, hC, hD0, hD1, hD2, hD3, hE, hL, hT, hS, hW, hGv, hDb, hZ⟩ := h
  refine ⟨?_, ?_, ?_, ?_, ?_, ?_, ?_, ?_, ?_, ?_, ?_, ?_, ?_, ?_, ?_, ?_, ?_, ?_, ?_⟩
  · (try simp only [zPt]); (repeat' split) <;> first | omega | rfl | contradiction
  · (try simp only [zPt]); (repeat' split) <;> first | omega | rfl | contradiction
  · (try simp only [zPt]); (repeat' split) <;> first | omega | rfl | contradiction
  · (try simp only [zPt]); (repeat' split) <;> first | omega | rfl | contradiction
  · intro i hi; have hh := hA i hi; (try simp only [zPt]); (repeat' split) <;> first | omega | rfl | contradiction
  · intro i hi; have hh := hB i hi; (try simp only [zPt]); (repeat' split) <;> first | omega | rfl | contradiction
  · intro i hi; have hh := hC i hi; (try simp only [zPt]); (repeat' split) <;> first | omega | rfl | contradiction
  · intro i hi; have hh := hD0 i hi; (try simp only [zPt]); (repeat' split) <;> first | omega | rfl | contradiction
  · intro i hi; have hh := hD1 i hi; (try simp only [zPt]); (repeat' split) <;> first | omega | rfl | contradiction
  · intro i hi; have hh := hD2 i hi; (try simp only [zPt]); (repeat' split) <;> first | omega | rfl | contradiction
  · intro i hi; have hh := hD3 i hi; (try simp only [zPt]); (repeat' split) <;> first | omega | rfl | contradiction
  · intro i hi; have hh := hE i hi; (try simp only [zPt]); (repeat' split) <;> first | omega | rfl | contradiction
  · intro i hi; have hh := hL i hi; (try simp only [zPt]); (repeat' split) <;> first | omega | rfl | contradiction
  · intro i hi j hj; have hh := hT i hi j hj; (try simp only [zPt]); (repeat' split) <;> first | omega | rfl | contradiction
  · intro i hi; have hh := hS i hi; (try simp only [zPt]); (repeat' split) <;> first | omega | rfl | contradiction
  · intro i hi; have hh := hW i hi; (try simp only [zPt]); (repeat' split) <;> first | omega | rfl | contradiction
  · intro i hi; have hh := hGv i hi; have hz : n ≤ (i : Int) → zbt v i = 0 ∧ zbt w i = 0 := hZ i hi
    have hz2 : (i : Int) < n ∨ (zbt v i = 0 ∧ zbt w i = 0) := by by_cases q : (i : Int) < n; exact Or.inl q; exact Or.inr (hz (by omega))
    clear hz
    rw [hv i hi]
    (try simp only [zPt]); (repeat' split) <;> first | omega | rfl | contradiction
  · intro i hi; have hh := hDb i hi; have hz : n ≤ (i : Int) → zbt v i = 0 ∧ zbt w i = 0 := hZ i hi
    have hz2 : (i : Int) < n ∨ (zbt v i = 0 ∧ zbt w i = 0) := by by_cases q : (i : Int) < n; exact Or.inl q; exact Or.inr (hz (by omega))
    clear hz
    (try simp only [zPt]); (repeat' split) <;> first | omega | rfl | contradiction
  · intro i hi hn; have hh := hZ i hi (by omega); rw [hv i hi, if_neg (by omega)]; exact hh
set_option maxHeartbeats 4000000 in
theorem zk_meeting {W1 W2 : List (Nat × Nat)} {m m1 m2 : zM} {a0 a1 a2 a3 a4 ga0 ga1 ga2 gb0 gb1 r1 r2 : Int} (hz : zInv m) (h : qK m) (g1 : zFr W1 m m1) (x0 : m 1 0 = ga0) (x1 : m 1 1 = ga1) (x2 : m 1 2 = ga2) (p0 : (r1 = -2 ∧ (a0 < 0 ∨ 99 < a0 ∨ a1 < 0 ∨ ga0 ≤ a1 ∨ a2 < 0 ∨ ga0 ≤ a2 ∨ a1 = a2 ∨ a3 < 0 ∨ 2 < a3 ∨ a0 < zly (m 5) ga1)) ∨ ((0 ≤ a0 ∧ a0 ≤ 99 ∧ 0 ≤ a1 ∧ a1 < ga0 ∧ 0 ≤ a2 ∧ a2 < ga0 ∧ a1 ≠ a2 ∧ 0 ≤ a3 ∧ a3 ≤ 2 ∧ zly (m 5) ga1 ≤ a0) ∧ ((r1 = -4 ∧ ga1 = 60) ∨ (0 ≤ ga1 ∧ ga1 < 60 ∧ r1 = ga1)))) (p1 : (0 ≤ r1 ∧ m1 1 1 = ga1 + 1) ∨ (r1 < 0 ∧ m1 1 1 = ga1)) (p2 : m1 5 = if 0 ≤ r1 then zPt (m 5) ga1.toNat a0 else (m 5)) (p3 : m1 6 = if 0 ≤ r1 then zPt (m 6) ga1.toNat a1 else (m 6)) (p4 : m1 7 = if 0 ≤ r1 then zPt (m 7) ga1.toNat a2 else (m 7)) (p5 : m1 8 = if 0 ≤ r1 then zPt (m 8) ga1.toNat a3 else (m 8)) (p6 : 0 ≤ a4 ∧ a4 ≤ 1) (p7 : (0 ≤ r1 ∧ a4 = 1 ∧ m1 1 2 = zso ga2 ga1.toNat) ∨ ((r1 < 0 ∨ a4 = 0) ∧ m1 1 2 = ga2)) (g2 : zFr W2 m1 m2) (y0 : m1 70 822 = gb0) (y1 : m1 70 823 = gb1) (q0 : (r2 = -2 ∧ (a0 < 0 ∨ 99 < a0 ∨ a1 < 0 ∨ gb0 ≤ a1 ∨ a2 < 0 ∨ gb0 ≤ a2 ∨ a1 = a2 ∨ a3 < 0 ∨ 2 < a3 ∨ a0 < zlr (m1 70) gb1)) ∨ ((0 ≤ a0 ∧ a0 ≤ 99 ∧ 0 ≤ a1 ∧ a1 < gb0 ∧ 0 ≤ a2 ∧ a2 < gb0 ∧ a1 ≠ a2 ∧ 0 ≤ a3 ∧ a3 ≤ 2 ∧ zlr (m1 70) gb1 ≤ a0) ∧ ((r2 = -4 ∧ gb1 = 60) ∨ (0 ≤ gb1 ∧ gb1 < 60 ∧ r2 = gb1)))) (q1 : m2 70 = if 0 ≤ r2 then zPt (zPt (zPt (zPt (zPt (zPt (zPt ((m1 70)) (90 + 6 * gb1 + 0).toNat a0) (90 + 6 * gb1 + 1).toNat a1) (90 + 6 * gb1 + 2).toNat a2) (90 + 6 * gb1 + 3).toNat a3) (90 + 6 * gb1 + 4).toNat a4) (90 + 6 * gb1 + 5).toNat 0) 823 (gb1 + 1) else (m1 70)) (w1 : zNo W1 [2, 3, 4, 9, 10, 11, 12, 13, 15, 16, 17, 18, 19, 20, 21, 22, 23, 24, 25, 26, 27, 28, 29, 30, 31, 32, 33, 34, 35, 36, 37, 38, 39, 40, 41, 71, 72, 70] = true := by rfl) (w2 : zNo W2 [1, 2, 3, 4, 5, 6, 7, 8, 9, 10, 11, 12, 13, 15, 16, 17, 18, 19, 20, 21, 22, 23, 24, 25, 26, 27, 28, 29, 30, 31, 32, 33, 34, 35, 36, 37, 38, 39, 40, 41, 71, 72] = true := by rfl) (o0 : zOut W1 1 0 = true := by rfl) (o3 : zOut W1 1 3 = true := by rfl) (o4 : zOut W1 1 4 = true := by rfl) (o5 : zOut W1 1 5 = true := by rfl) : qK m2 ∧ r1 = r2 := by
  obtain ⟨hR, hI⟩ := h
  have b0 := ib_1_0 hz
  have b1 := ib_1_1 hz
  subst x0
  subst x1
  subst x2
  have e70 : m1 70 = m 70 := zNo_eq g1 w1 (by decide)
  have hR' := hR
  obtain ⟨h0, h1, h2, h3, hA, hB, hC, hD0, hD1, hD2, hD3, hE, hL, hT, hS, hW, hGv, hDb, hZ⟩ := hR'
  rw [e70] at y0
  have z0 : gb0 = m 1 0 := by omega
  subst z0
  rw [e70] at y1
  have z1 : gb1 = m 1 1 := by omega
  subst z1
  rw [e70] at q0
  rw [e70] at q1
  have hI2 : qKi m2 := qKi_fr hI (fun c hc => (zNo_eq g2 w2 (by revert c; decide)).trans (zNo_eq g1 w1 (by revert c; decide)))
  have e2 : m2 2 = m 2 := (zNo_eq g2 w2 (by decide)).trans (zNo_eq g1 w1 (by decide))
  have e3 : m2 3 = m 3 := (zNo_eq g2 w2 (by decide)).trans (zNo_eq g1 w1 (by decide))
  have e4 : m2 4 = m 4 := (zNo_eq g2 w2 (by decide)).trans (zNo_eq g1 w1 (by decide))
  have e9 : m2 9 = m 9 := (zNo_eq g2 w2 (by decide)).trans (zNo_eq g1 w1 (by decide))
  have e10 : m2 10 = m 10 := (zNo_eq g2 w2 (by decide)).trans (zNo_eq g1 w1 (by decide))
  have e11 : m2 11 = m 11 := (zNo_eq g2 w2 (by decide)).trans (zNo_eq g1 w1 (by decide))
  have e12 : m2 12 = m 12 := (zNo_eq g2 w2 (by decide)).trans (zNo_eq g1 w1 (by decide))
  have e13 : m2 13 = m 13 := (zNo_eq g2 w2 (by decide)).trans (zNo_eq g1 w1 (by decide))
  have s1 : m2 1 = m1 1 := zNo_eq g2 w2 (by decide)
  have u0 : m2 1 0 = m 1 0 := by rw [s1]; exact g1 1 0 o0
  have u3 : m2 1 3 = m 1 3 := by rw [s1]; exact g1 1 3 o3
  have u4 : m2 1 4 = m 1 4 := by rw [s1]; exact g1 1 4 o4
  have u5 : m2 1 5 = m 1 5 := by rw [s1]; exact g1 1 5 o5
  have hr : r1 = r2 := by
    have c1 := zly_c (m 5) (m 1 1)
    have c2 := zlr_c (m 70) (m 1 1)
    by_cases hn : m 1 1 ≤ 0
    · omega
    · have k : m 70 (90 + 6 * (m 1 1 - 1) + 0).toNat = m 5 (m 1 1 - 1).toNat := by rw [show (90 + 6 * (m 1 1 - 1) + 0).toNat = 90 + 6 * (m 1 1 - 1).toNat by omega]; exact hD0 _ (by omega)
      omega
  by_cases hs : 0 ≤ r1
  · skip
    have n5 : m2 5 = zPt (m 5) (m 1 1).toNat a0 := (zNo_eq g2 w2 (by decide)).trans (p2.trans (if_pos hs))
    have n6 : m2 6 = zPt (m 6) (m 1 1).toNat a1 := (zNo_eq g2 w2 (by decide)).trans (p3.trans (if_pos hs))
    have n7 : m2 7 = zPt (m 7) (m 1 1).toNat a2 := (zNo_eq g2 w2 (by decide)).trans (p4.trans (if_pos hs))
    have n8 : m2 8 = zPt (m 8) (m 1 1).toNat a3 := (zNo_eq g2 w2 (by decide)).trans (p5.trans (if_pos hs))
    have n70 := q1.trans (if_pos (by omega))
    have u1 : m2 1 1 = (m 1 1 + 1) := by rw [s1]; omega
    have u2 : m2 1 2 = m1 1 2 := by rw [s1]
    have hv : ∀ i, i < 60 → zbt (m1 1 2) i = if i = (m 1 1).toNat then a4 else zbt (m 1 2) i := by
      intro i hi
      rcases p7 with ⟨_, h4, e⟩ | ⟨h4, e⟩
      · rw [e, zbt_so, h4]
      · rw [e]
        by_cases q : i = (m 1 1).toNat
        · rw [if_pos q]; have := (hZ i hi (by omega)).1; omega
        · rw [if_neg q]
    have hN : qKn m2 := by
      unfold qKn
      rw [u0, u1, u2, u3, u4, u5, e2, e3, e4, n5, n6, n7, n8, e9, e10, e11, e12, e13, n70]
      exact zR_meeting hR (by omega) hv
    exact ⟨⟨hN, hI2⟩, hr⟩
  · skip
    have n5 : m2 5 = m 5 := (zNo_eq g2 w2 (by decide)).trans (p2.trans (if_neg hs))
    have n6 : m2 6 = m 6 := (zNo_eq g2 w2 (by decide)).trans (p3.trans (if_neg hs))
    have n7 : m2 7 = m 7 := (zNo_eq g2 w2 (by decide)).trans (p4.trans (if_neg hs))
    have n8 : m2 8 = m 8 := (zNo_eq g2 w2 (by decide)).trans (p5.trans (if_neg hs))
    have n70 := q1.trans (if_neg (by omega))
    have u1 : m2 1 1 = m 1 1 := by rw [s1]; omega
    have u2 : m2 1 2 = m 1 2 := by rw [s1]; omega
    have hN : qKn m2 := by
      unfold qKn
      rw [u0, u1, u2, u3, u4, u5, e2, e3, e4, n5, n6, n7, n8, e9, e10, e11, e12, e13, n70]
      exact hR
    exact ⟨⟨hN, hI2⟩, hr⟩
theorem zR_mark {p n v w u e a0 a1 a2 v' w' : Int} {f2 f3 f4 f5 f6 f7 f8 f9 f10 f11 f12 f13 g : Nat → Int} (h : qR p n v w u e f2 f3 f4 f5 f6 f7 f8 f9 f10 f11 f12 f13 g) (hc : 0 ≤ a0 ∧ a0 < 60 ∧ 0 ≤ a1 ∧ a1 ≤ 1 ∧ a0 < n) (hv : ∀ i, i < 60 → zbt v' i = if i = a0.toNat ∧ a1 = 0 then a2 else zbt v i) (hw : ∀ i, i < 60 → zbt w' i = if i = a0.toNat ∧ a1 = 1 then a2 else zbt w i) : qR (p) (n) (v') (w') (u) (e) (f2) (f3) (f4) (f5) (f6) (f7) (f8) (f9) (f10) (f11) (f12) (f13) (zPt g (90 + 6 * a0 + 4 + a1).toNat a2) := by
  obtain ⟨h0, h1, h2, h3, hA, hB, hC, hD0, hD1, hD2, hD3, hE, hL, hT, hS, hW, hGv, hDb, hZ⟩ := h
  refine ⟨?_, ?_, ?_, ?_, ?_, ?_, ?_, ?_, ?_, ?_, ?_, ?_, ?_, ?_, ?_, ?_, ?_, ?_, ?_⟩
  · (try simp only [zPt]); (repeat' split) <;> first | omega | rfl | contradiction
  · (try simp only [zPt]); (repeat' split) <;> first | omega | rfl | contradiction
  · (try simp only [zPt]); (repeat' split) <;> first | omega | rfl | contradiction
  · (try simp only [zPt]); (repeat' split) <;> first | omega | rfl | contradiction
  · intro i hi; have hh := hA i hi; (try simp only [zPt]); (repeat' split) <;> first | omega | rfl | contradiction
  · intro i hi; have hh := hB i hi; (try simp only [zPt]); (repeat' split) <;> first | omega | rfl | contradiction
  · intro i hi; have hh := hC i hi; (try simp only [zPt]); (repeat' split) <;> first | omega | rfl | contradiction
  · intro i hi; have hh := hD0 i hi; (try simp only [zPt]); (repeat' split) <;> first | omega | rfl | contradiction
  · intro i hi; have hh := hD1 i hi; (try simp only [zPt]); (repeat' split) <;> first | omega | rfl | contradiction
  · intro i hi; have hh := hD2 i hi; (try simp only [zPt]); (repeat' split) <;> first | omega | rfl | contradiction
  · intro i hi; have hh := hD3 i hi; (try simp only [zPt]); (repeat' split) <;> first | omega | rfl | contradiction
  · intro i hi; have hh := hE i hi; (try simp only [zPt]); (repeat' split) <;> first | omega | rfl | contradiction
  · intro i hi; have hh := hL i hi; (try simp only [zPt]); (repeat' split) <;> first | omega | rfl | contradiction
  · intro i hi j hj; have hh := hT i hi j hj; (try simp only [zPt]); (repeat' split) <;> first | omega | rfl | contradiction
  · intro i hi; have hh := hS i hi; (try simp only [zPt]); (repeat' split) <;> first | omega | rfl | contradiction
  · intro i hi; have hh := hW i hi; (try simp only [zPt]); (repeat' split) <;> first | omega | rfl | contradiction
  · intro i hi; have hh := hGv i hi; have hz : n ≤ (i : Int) → zbt v i = 0 ∧ zbt w i = 0 := hZ i hi
    have hz2 : (i : Int) < n ∨ (zbt v i = 0 ∧ zbt w i = 0) := by by_cases q : (i : Int) < n; exact Or.inl q; exact Or.inr (hz (by omega))
    clear hz
    rw [hv i hi]
    (try simp only [zPt]); (repeat' split) <;> first | omega | rfl | contradiction
  · intro i hi; have hh := hDb i hi; have hz : n ≤ (i : Int) → zbt v i = 0 ∧ zbt w i = 0 := hZ i hi
    have hz2 : (i : Int) < n ∨ (zbt v i = 0 ∧ zbt w i = 0) := by by_cases q : (i : Int) < n; exact Or.inl q; exact Or.inr (hz (by omega))
    clear hz
    rw [hw i hi]
    (try simp only [zPt]); (repeat' split) <;> first | omega | rfl | contradiction
  · intro i hi hn; rw [hv i hi, hw i hi, if_neg (by omega), if_neg (by omega)]; exact hZ i hi hn
set_option maxHeartbeats 4000000 in
theorem zk_mark {W1 W2 : List (Nat × Nat)} {m m1 m2 : zM} {a0 a1 a2 ga0 ga1 ga2 gb0 r1 r2 : Int} (hz : zInv m) (h : qK m) (g1 : zFr W1 m m1) (x0 : m 1 1 = ga0) (x1 : m 1 2 = ga1) (x2 : m 1 3 = ga2) (p0 : 0 ≤ a2 ∧ a2 ≤ 1) (p1 : (r1 = -2 ∧ (a0 < 0 ∨ ga0 ≤ a0 ∨ a1 < 0 ∨ 1 < a1)) ∨ (0 ≤ a0 ∧ a0 < ga0 ∧ 0 ≤ a1 ∧ a1 ≤ 1 ∧ a1 = 0 ∧ ((r1 = -3 ∧ zbt ga1 a0.toNat = a2) ∨ (r1 = 1 ∧ zbt ga1 a0.toNat ≠ a2))) ∨ (0 ≤ a0 ∧ a0 < ga0 ∧ 0 ≤ a1 ∧ a1 ≤ 1 ∧ a1 = 1 ∧ ((r1 = -3 ∧ zbt ga2 a0.toNat = a2) ∨ (r1 = 1 ∧ zbt ga2 a0.toNat ≠ a2)))) (p2 : (r1 = 1 ∧ a1 = 0 ∧ m1 1 2 = ztg ga1 a0.toNat ∧ m1 1 3 = ga2) ∨ (r1 = 1 ∧ a1 = 1 ∧ m1 1 2 = ga1 ∧ m1 1 3 = ztg ga2 a0.toNat) ∨ (r1 ≠ 1 ∧ m1 1 2 = ga1 ∧ m1 1 3 = ga2)) (g2 : zFr W2 m1 m2) (y0 : m1 70 823 = gb0) (q0 : (r2 = -2 ∧ (a0 < 0 ∨ gb0 ≤ a0 ∨ a1 < 0 ∨ 1 < a1)) ∨ (0 ≤ a0 ∧ a0 < gb0 ∧ 0 ≤ a1 ∧ a1 ≤ 1 ∧ ((r2 = -3 ∧ (m1 70) (90 + 6 * a0 + (4 + a1)).toNat = a2) ∨ (r2 = 1 ∧ (m1 70) (90 + 6 * a0 + (4 + a1)).toNat ≠ a2)))) (q1 : m2 70 = if 0 ≤ r2 then zPt (m1 70) (90 + 6 * a0 + 4 + a1).toNat a2 else (m1 70)) (w1 : zNo W1 [2, 3, 4, 5, 6, 7, 8, 9, 10, 11, 12, 13, 15, 16, 17, 18, 19, 20, 21, 22, 23, 24, 25, 26, 27, 28, 29, 30, 31, 32, 33, 34, 35, 36, 37, 38, 39, 40, 41, 71, 72, 70] = true := by rfl) (w2 : zNo W2 [1, 2, 3, 4, 5, 6, 7, 8, 9, 10, 11, 12, 13, 15, 16, 17, 18, 19, 20, 21, 22, 23, 24, 25, 26, 27, 28, 29, 30, 31, 32, 33, 34, 35, 36, 37, 38, 39, 40, 41, 71, 72] = true := by rfl) (o0 : zOut W1 1 0 = true := by rfl) (o1 : zOut W1 1 1 = true := by rfl) (o4 : zOut W1 1 4 = true := by rfl) (o5 : zOut W1 1 5 = true := by rfl) : qK m2 ∧ r1 = r2 := by
  obtain ⟨hR, hI⟩ := h
  have b0 := ib_1_0 hz
  have b1 := ib_1_1 hz
  subst x0
  subst x1
  subst x2
  have e70 : m1 70 = m 70 := zNo_eq g1 w1 (by decide)
  have hR' := hR
  obtain ⟨h0, h1, h2, h3, hA, hB, hC, hD0, hD1, hD2, hD3, hE, hL, hT, hS, hW, hGv, hDb, hZ⟩ := hR'
  rw [e70] at y0
  have z0 : gb0 = m 1 1 := by omega
  subst z0
  rw [e70] at q0
  rw [e70] at q1
  have hI2 : qKi m2 := qKi_fr hI (fun c hc => (zNo_eq g2 w2 (by revert c; decide)).trans (zNo_eq g1 w1 (by revert c; decide)))
  have e2 : m2 2 = m 2 := (zNo_eq g2 w2 (by decide)).trans (zNo_eq g1 w1 (by decide))
  have e3 : m2 3 = m 3 := (zNo_eq g2 w2 (by decide)).trans (zNo_eq g1 w1 (by decide))
  have e4 : m2 4 = m 4 := (zNo_eq g2 w2 (by decide)).trans (zNo_eq g1 w1 (by decide))
  have e5 : m2 5 = m 5 := (zNo_eq g2 w2 (by decide)).trans (zNo_eq g1 w1 (by decide))
  have e6 : m2 6 = m 6 := (zNo_eq g2 w2 (by decide)).trans (zNo_eq g1 w1 (by decide))
  have e7 : m2 7 = m 7 := (zNo_eq g2 w2 (by decide)).trans (zNo_eq g1 w1 (by decide))
  have e8 : m2 8 = m 8 := (zNo_eq g2 w2 (by decide)).trans (zNo_eq g1 w1 (by decide))
  have e9 : m2 9 = m 9 := (zNo_eq g2 w2 (by decide)).trans (zNo_eq g1 w1 (by decide))
  have e10 : m2 10 = m 10 := (zNo_eq g2 w2 (by decide)).trans (zNo_eq g1 w1 (by decide))
  have e11 : m2 11 = m 11 := (zNo_eq g2 w2 (by decide)).trans (zNo_eq g1 w1 (by decide))
  have e12 : m2 12 = m 12 := (zNo_eq g2 w2 (by decide)).trans (zNo_eq g1 w1 (by decide))
  have e13 : m2 13 = m 13 := (zNo_eq g2 w2 (by decide)).trans (zNo_eq g1 w1 (by decide))
  have s1 : m2 1 = m1 1 := zNo_eq g2 w2 (by decide)
  have u0 : m2 1 0 = m 1 0 := by rw [s1]; exact g1 1 0 o0
  have u1 : m2 1 1 = m 1 1 := by rw [s1]; exact g1 1 1 o1
  have u4 : m2 1 4 = m 1 4 := by rw [s1]; exact g1 1 4 o4
  have u5 : m2 1 5 = m 1 5 := by rw [s1]; exact g1 1 5 o5
  have hr : r1 = r2 := by
    by_cases hc : 0 ≤ a0 ∧ a0 < 60 ∧ 0 ≤ a1 ∧ a1 ≤ 1
    · by_cases h1 : a1 = 0
      · have key : m 70 (90 + 6 * a0 + (4 + a1)).toNat = zbt (m 1 2) a0.toNat := by rw [show (90 + 6 * a0 + (4 + a1)).toNat = 94 + 6 * a0.toNat by omega]; exact hGv _ (by omega)
        have t1 := zbt_01 (m 1 2) a0.toNat
        omega
      · have key : m 70 (90 + 6 * a0 + (4 + a1)).toNat = zbt (m 1 3) a0.toNat := by rw [show (90 + 6 * a0 + (4 + a1)).toNat = 95 + 6 * a0.toNat by omega]; exact hDb _ (by omega)
        have t1 := zbt_01 (m 1 3) a0.toNat
        omega
    · omega
  by_cases hs : 0 ≤ r1
  · skip
    have n70 := q1.trans (if_pos (by omega))
    have u2 : m2 1 2 = m1 1 2 := by rw [s1]
    have u3 : m2 1 3 = m1 1 3 := by rw [s1]
    have hv : ∀ i, i < 60 → zbt (m1 1 2) i = if i = a0.toNat ∧ a1 = 0 then a2 else zbt (m 1 2) i := by
      intro i hi
      have t1 := zbt_01 (m 1 2) i
      rcases p2 with ⟨_, ha, e2, e3⟩ | ⟨_, ha, e2, e3⟩ | ⟨hn, _⟩
      · rw [e2, zbt_tg]
        by_cases q : i = a0.toNat
        · rw [if_pos q, if_pos ⟨q, ha⟩]; subst q; omega
        · rw [if_neg q, if_neg (fun z => q z.1)]
      · rw [e2, if_neg (by omega)]
      · omega
    have hw : ∀ i, i < 60 → zbt (m1 1 3) i = if i = a0.toNat ∧ a1 = 1 then a2 else zbt (m 1 3) i := by
      intro i hi
      have t1 := zbt_01 (m 1 3) i
      rcases p2 with ⟨_, ha, e2, e3⟩ | ⟨_, ha, e2, e3⟩ | ⟨hn, _⟩
      · rw [e3, if_neg (by omega)]
      · rw [e3, zbt_tg]
        by_cases q : i = a0.toNat
        · rw [if_pos q, if_pos ⟨q, ha⟩]; subst q; omega
        · rw [if_neg q, if_neg (fun z => q z.1)]
      · omega
    have hN : qKn m2 := by
      unfold qKn
      rw [u0, u1, u2, u3, u4, u5, e2, e3, e4, e5, e6, e7, e8, e9, e10, e11, e12, e13, n70]
      exact zR_mark hR (by omega) hv hw
    exact ⟨⟨hN, hI2⟩, hr⟩
  · skip
    have n70 := q1.trans (if_neg (by omega))
    have u2 : m2 1 2 = m 1 2 := by rw [s1]; omega
    have u3 : m2 1 3 = m 1 3 := by rw [s1]; omega
    have hN : qKn m2 := by
      unfold qKn
      rw [u0, u1, u2, u3, u4, u5, e2, e3, e4, e5, e6, e7, e8, e9, e10, e11, e12, e13, n70]
      exact hR
    exact ⟨⟨hN, hI2⟩, hr⟩
theorem zk_fr {W : List (Nat × Nat)} {m m2 : zM} (h : qK m) (g : zFr W m m2) (w : zNo W [1, 2, 3, 4, 5, 6, 7, 8, 9, 10, 11, 12, 13, 15, 16, 17, 18, 19, 20, 21, 22, 23, 24, 25, 26, 27, 28, 29, 30, 31, 32, 33, 34, 35, 36, 37, 38, 39, 40, 41, 71, 72, 70] = true := by rfl) : qK m2 := by
  refine ⟨?_, qKi_fr h.2 (fun c hc => zNo_eq g w (by revert c; decide))⟩
  unfold qKn
  rw [zNo_eq g w (c := 1) (by decide), zNo_eq g w (c := 2) (by decide), zNo_eq g w (c := 3) (by decide), zNo_eq g w (c := 4) (by decide), zNo_eq g w (c := 5) (by decide), zNo_eq g w (c := 6) (by decide), zNo_eq g w (c := 7) (by decide), zNo_eq g w (c := 8) (by decide), zNo_eq g w (c := 9) (by decide), zNo_eq g w (c := 10) (by decide), zNo_eq g w (c := 11) (by decide), zNo_eq g w (c := 12) (by decide), zNo_eq g w (c := 13) (by decide), zNo_eq g w (c := 70) (by decide)]
  exact h.1
theorem qR_cg {p n v w u e p' n' v' w' u' e' : Int} {f2 f3 f4 f5 f6 f7 f8 f9 f10 f11 f12 f13 g f2' f3' f4' f5' f6' f7' f8' f9' f10' f11' f12' f13' g' : Nat → Int} (h : qR p n v w u e f2 f3 f4 f5 f6 f7 f8 f9 f10 f11 f12 f13 g) (Kp : p' = p) (Kn : n' = n) (Kv : v' = v) (Kw : w' = w) (Ku : u' = u) (Ke : e' = e) (k4 : ∀ k, k < 10 → f2' k = f2 k) (k5 : ∀ k, k < 40 → f3' k = f3 k) (k6 : ∀ k, k < 40 → f4' k = f4 k) (k7 : ∀ k, k < 60 → f5' k = f5 k) (k8 : ∀ k, k < 60 → f6' k = f6 k) (k9 : ∀ k, k < 60 → f7' k = f7 k) (k10 : ∀ k, k < 60 → f8' k = f8 k) (k11 : ∀ k, k < 4 → f9' k = f9 k) (k12 : ∀ k, k < 4 → f10' k = f10 k) (k13 : ∀ k, k < 200 → f11' k = f11 k) (k14 : ∀ k, k < 160 → f12' k = f12 k) (k15 : ∀ k, k < 4 → f13' k = f13 k) (kg : ∀ k, k < 826 → g' k = g k) : qR p' n' v' w' u' e' f2' f3' f4' f5' f6' f7' f8' f9' f10' f11' f12' f13' g' := by
  obtain ⟨h0, h1, h2, h3, hA, hB, hC, hD0, hD1, hD2, hD3, hE, hL, hT, hS, hW, hGv, hDb, hZ⟩ := h
  refine ⟨by rw [Kp, kg _ (by omega)]; exact h0, by rw [Kn, kg _ (by omega)]; exact h1, by rw [Ku, kg _ (by omega)]; exact h2, by rw [Ke, kg _ (by omega)]; exact h3, ?_, ?_, ?_, ?_, ?_, ?_, ?_, ?_, ?_, ?_, ?_, ?_, ?_, ?_, ?_⟩
  · intro i hi; rw [kg _ (by omega), k4 _ (by omega)]; exact hA i hi
  · intro i hi; rw [kg _ (by omega), k5 _ (by omega)]; exact hB i hi
  · intro i hi; rw [kg _ (by omega), k6 _ (by omega)]; exact hC i hi
  · intro i hi; rw [kg _ (by omega), k7 _ (by omega)]; exact hD0 i hi
  · intro i hi; rw [kg _ (by omega), k8 _ (by omega)]; exact hD1 i hi
  · intro i hi; rw [kg _ (by omega), k9 _ (by omega)]; exact hD2 i hi
  · intro i hi; rw [kg _ (by omega), k10 _ (by omega)]; exact hD3 i hi
  · intro i hi; rw [kg _ (by omega), k11 _ (by omega)]; exact hE i hi
  · intro i hi; rw [kg _ (by omega), k12 _ (by omega)]; exact hL i hi
  · intro i hi j hj; rw [kg _ (by omega), k13 _ (by omega)]; exact hT i hi j hj
  · intro i hi; rw [kg _ (by omega), k14 _ (by omega)]; exact hS i hi
  · intro i hi; rw [kg _ (by omega), k15 _ (by omega)]; exact hW i hi
  · intro i hi; rw [kg _ (by omega), Kv]; exact hGv i hi
  · intro i hi; rw [kg _ (by omega), Kw]; exact hDb i hi
  · rw [Kn, Kv, Kw]; exact hZ
def zRi (m m' : zM) (a r : Int) : Prop := (r = -2 ∧ (a < 0 ∨ 1 < a) ∧ m' = m) ∨ (r = 1 ∧ (0 ≤ a ∧ a ≤ 1) ∧ (∀ k, k < 826 → m' 71 (826 * a.toNat + k) = m 70 k) ∧ (∀ k, (k < 826 * a.toNat ∨ 826 * a.toNat + 826 ≤ k) → m' 71 k = m 71 k) ∧ m' 72 = zPt (m 72) a.toNat 1)
def zRm (m m' : zM) (a r : Int) : Prop := (r = -2 ∧ (a < 0 ∨ 1 < a) ∧ m' = m) ∨ (r = -3 ∧ (0 ≤ a ∧ a ≤ 1) ∧ m 72 a.toNat = 0 ∧ m' = m) ∨ (r = 1 ∧ (0 ≤ a ∧ a ≤ 1) ∧ m 72 a.toNat ≠ 0 ∧ ∀ k, k < 826 → m' 70 k = m 71 (826 * a.toNat + k))
def zIg (f f1 f0 : Nat → Int) (a n : Int) : Prop := (∀ k : Nat, (k : Int) < n → f (826 * a.toNat + k) = f0 k) ∧ ∀ k, (k < 826 * a.toNat ∨ 826 * a.toNat + 826 ≤ k) → f k = f1 k
theorem zIg_0 {f f0 : Nat → Int} {a : Int} : zIg f f f0 a 0 := ⟨fun k h => by omega, fun _ _ => rfl⟩
theorem zIg_put {f f1 f0 : Nat → Int} {a n x : Int} (h : zIg f f1 f0 a n) (h0 : 0 ≤ n ∧ n < 826) (ha : 0 ≤ a) (hx : x = f0 n.toNat) : zIg (zPt f (826 * a + n).toNat x) f1 f0 a (n + 1) := by
  refine ⟨fun k hk => ?_, fun k hk => ?_⟩
  · by_cases e : k = n.toNat
    · rw [show (826 * a + n).toNat = 826 * a.toNat + k by omega, zPt_eq, hx, e]
    · rw [zPt_ne (by omega)]
      exact h.1 k (by omega)
  · rw [zPt_ne (by omega)]
    exact h.2 k hk
theorem zRi_1 {m m' : zM} {f f1 f0 f2 : Nat → Int} {a n : Int} (h : zIg f f1 f0 a n) (e0 : m 70 = f0) (e1 : m 71 = f1) (e2 : m 72 = f2) (u1 : m' 71 = f) (u2 : m' 72 = zPt f2 a.toNat 1) (hn : 826 ≤ n) (ha : 0 ≤ a ∧ a ≤ 1) : (1 : Int) = 1 ∧ (0 ≤ a ∧ a ≤ 1) ∧ (∀ k, k < 826 → m' 71 (826 * a.toNat + k) = m 70 k) ∧ (∀ k, (k < 826 * a.toNat ∨ 826 * a.toNat + 826 ≤ k) → m' 71 k = m 71 k) ∧ m' 72 = zPt (m 72) a.toNat 1 := by
  rw [e0, e1, e2, u1]
  exact ⟨rfl, ha, fun k hk => h.1 k (by omega), h.2, u2⟩
def zIf (f f1 : Nat → Int) (a n : Int) : Prop := ∀ k : Nat, (k : Int) < n → f k = f1 (826 * a.toNat + k)
theorem zIf_0 {f f1 : Nat → Int} {a : Int} : zIf f f1 a 0 := fun k h => by omega
theorem zIf_put {f f1 : Nat → Int} {a n x : Int} (h : zIf f f1 a n) (h0 : 0 ≤ n) (ha : 0 ≤ a) (hx : x = f1 (826 * a + n).toNat) : zIf (zPt f n.toNat x) f1 a (n + 1) := by
  intro k hk
  by_cases e : k = n.toNat
  · rw [e, zPt_eq, hx, show (826 * a + n).toNat = 826 * a.toNat + n.toNat by omega]
  · rw [zPt_ne e]
    exact h k (by omega)
theorem zRm_1 {m m' : zM} {f f1 : Nat → Int} {a n : Int} (h : zIf f f1 a n) (e1 : m 71 = f1) (u : m' 70 = f) (hn : 826 ≤ n) (ha : 0 ≤ a ∧ a ≤ 1) (hk : m 72 a.toNat ≠ 0) : (1 : Int) = 1 ∧ (0 ≤ a ∧ a ≤ 1) ∧ m 72 a.toNat ≠ 0 ∧ ∀ k, k < 826 → m' 70 k = m 71 (826 * a.toNat + k) := by
  rw [e1, u]
  exact ⟨rfl, ha, hk, fun k hk => h k (by omega)⟩
set_option maxHeartbeats 4000000 in
theorem zk_image {W1 W2 : List (Nat × Nat)} {m m1 m2 : zM} {a0 r1 r2 : Int} (h : qK m) (g1 : zFr W1 m m1) (p : zCi m m1 a0 r1) (g2 : zFr W2 m1 m2) (q : zRi m1 m2 a0 r2) (w1 : zNo W1 [1, 2, 3, 4, 5, 6, 7, 8, 9, 10, 11, 12, 13, 70, 71, 72] = true := by rfl) (w2 : zNo W2 [1, 2, 3, 4, 5, 6, 7, 8, 9, 10, 11, 12, 13, 15, 16, 17, 18, 19, 20, 21, 22, 23, 24, 25, 26, 27, 28, 29, 30, 31, 32, 33, 34, 35, 36, 37, 38, 39, 40, 41, 70] = true := by rfl) : qK m2 ∧ r1 = r2 := by
  obtain ⟨hR, hi0, hi1, hi2, hi3⟩ := h
  have e70 : m1 70 = m 70 := zNo_eq g1 w1 (by decide)
  have e71 : m1 71 = m 71 := zNo_eq g1 w1 (by decide)
  have e72 : m1 72 = m 72 := zNo_eq g1 w1 (by decide)
  have hN : qKn m2 := by
    unfold qKn
    rw [zNo_eq g2 w2 (c := 1) (by decide), zNo_eq g1 w1 (c := 1) (by decide), zNo_eq g2 w2 (c := 2) (by decide), zNo_eq g1 w1 (c := 2) (by decide), zNo_eq g2 w2 (c := 3) (by decide), zNo_eq g1 w1 (c := 3) (by decide), zNo_eq g2 w2 (c := 4) (by decide), zNo_eq g1 w1 (c := 4) (by decide), zNo_eq g2 w2 (c := 5) (by decide), zNo_eq g1 w1 (c := 5) (by decide), zNo_eq g2 w2 (c := 6) (by decide), zNo_eq g1 w1 (c := 6) (by decide), zNo_eq g2 w2 (c := 7) (by decide), zNo_eq g1 w1 (c := 7) (by decide), zNo_eq g2 w2 (c := 8) (by decide), zNo_eq g1 w1 (c := 8) (by decide), zNo_eq g2 w2 (c := 9) (by decide), zNo_eq g1 w1 (c := 9) (by decide), zNo_eq g2 w2 (c := 10) (by decide), zNo_eq g1 w1 (c := 10) (by decide), zNo_eq g2 w2 (c := 11) (by decide), zNo_eq g1 w1 (c := 11) (by decide), zNo_eq g2 w2 (c := 12) (by decide), zNo_eq g1 w1 (c := 12) (by decide), zNo_eq g2 w2 (c := 13) (by decide), zNo_eq g1 w1 (c := 13) (by decide), zNo_eq g2 w2 (c := 70) (by decide), zNo_eq g1 w1 (c := 70) (by decide)]
    exact hR
  rcases p with ⟨pr, pa, pe⟩ | ⟨pr, pa, ⟨t0, t1, t2, t3, t4, t5, t6, t7, t8, t9, t10, t11, t12, t13, t14, t15, t16, t17⟩, ⟨s0, s1, s2, s3, s4, s5, s6, s7, s8, s9, s10, s11, s12⟩, pk⟩ | ⟨pr, pa, ⟨t0, t1, t2, t3, t4, t5, t6, t7, t8, t9, t10, t11, t12, t13, t14, t15, t16, t17⟩, ⟨s0, s1, s2, s3, s4, s5, s6, s7, s8, s9, s10, s11, s12⟩, pk⟩
  · rcases q with ⟨qr, qa, qe⟩ | ⟨qr, qa, _⟩
    · subst qe; subst pe
      exact ⟨⟨hN, hi0, hi1, hi2, hi3⟩, by omega⟩
    · omega
  · rcases q with ⟨qr, qa, qe⟩ | ⟨qr, qa, q1, q2, q3⟩
    · omega
    · have ea : a0.toNat = 0 := by omega
      rw [ea] at q1 q2 q3
      have c15 : m2 15 = m1 15 := zNo_eq g2 w2 (by decide)
      have c16 : m2 16 = m1 16 := zNo_eq g2 w2 (by decide)
      have c17 : m2 17 = m1 17 := zNo_eq g2 w2 (by decide)
      have c18 : m2 18 = m1 18 := zNo_eq g2 w2 (by decide)
      have c19 : m2 19 = m1 19 := zNo_eq g2 w2 (by decide)
      have c20 : m2 20 = m1 20 := zNo_eq g2 w2 (by decide)
      have c21 : m2 21 = m1 21 := zNo_eq g2 w2 (by decide)
      have c22 : m2 22 = m1 22 := zNo_eq g2 w2 (by decide)
      have c23 : m2 23 = m1 23 := zNo_eq g2 w2 (by decide)
      have c24 : m2 24 = m1 24 := zNo_eq g2 w2 (by decide)
      have c25 : m2 25 = m1 25 := zNo_eq g2 w2 (by decide)
      have c26 : m2 26 = m1 26 := zNo_eq g2 w2 (by decide)
      have c27 : m2 27 = m1 27 := zNo_eq g2 w2 (by decide)
      have c28 : m2 28 = m1 28 := zNo_eq g2 w2 (by decide)
      have c29 : m2 29 = m1 29 := zNo_eq g2 w2 (by decide)
      have c30 : m2 30 = m1 30 := zNo_eq g2 w2 (by decide)
      have c31 : m2 31 = m1 31 := zNo_eq g2 w2 (by decide)
      have c32 : m2 32 = m1 32 := zNo_eq g2 w2 (by decide)
      have c33 : m2 33 = m1 33 := zNo_eq g2 w2 (by decide)
      have c34 : m2 34 = m1 34 := zNo_eq g2 w2 (by decide)
      have c35 : m2 35 = m1 35 := zNo_eq g2 w2 (by decide)
      have c36 : m2 36 = m1 36 := zNo_eq g2 w2 (by decide)
      have c37 : m2 37 = m1 37 := zNo_eq g2 w2 (by decide)
      have c38 : m2 38 = m1 38 := zNo_eq g2 w2 (by decide)
      have c39 : m2 39 = m1 39 := zNo_eq g2 w2 (by decide)
      have c40 : m2 40 = m1 40 := zNo_eq g2 w2 (by decide)
      have c41 : m2 41 = m1 41 := zNo_eq g2 w2 (by decide)
      rw [e70] at q1
      rw [e71] at q2
      rw [e72] at q3
      have k0 : m2 41 0 = 1 := by rw [c41, pk]; exact zPt_eq
      have k1 : m2 72 0 = 1 := by rw [q3]; exact zPt_eq
      have k2 : m2 41 1 = m 41 1 := by rw [c41, pk]; exact zPt_ne (by decide)
      have k3 : m2 72 1 = m 72 1 := by rw [q3]; exact zPt_ne (by decide)
      refine ⟨⟨hN, by rw [k0, k1], by rw [k2, k3]; exact hi1, ?_, ?_⟩, by omega⟩
      · exact fun _ => qR_cg hR (by rw [c15]; exact t0) (by rw [c15]; exact t1) (by rw [c15]; exact t2) (by rw [c15]; exact t3) (by rw [c15]; exact t4) (by rw [c15]; exact t5) (by rw [c16]; exact t6) (by rw [c17]; exact t7) (by rw [c18]; exact t8) (by rw [c19]; exact t9) (by rw [c20]; exact t10) (by rw [c21]; exact t11) (by rw [c22]; exact t12) (by rw [c23]; exact t13) (by rw [c24]; exact t14) (by rw [c25]; exact t15) (by rw [c26]; exact t16) (by rw [c27]; exact t17) (fun k hk => by have := q1 k hk; rwa [Nat.mul_zero, Nat.zero_add] at this)
      · exact fun hk => qR_cg (hi3 (by rw [← k3]; exact hk)) (by rw [c28, s0]) (by rw [c28, s0]) (by rw [c28, s0]) (by rw [c28, s0]) (by rw [c28, s0]) (by rw [c28, s0]) (fun k _ => by rw [c29, s1]) (fun k _ => by rw [c30, s2]) (fun k _ => by rw [c31, s3]) (fun k _ => by rw [c32, s4]) (fun k _ => by rw [c33, s5]) (fun k _ => by rw [c34, s6]) (fun k _ => by rw [c35, s7]) (fun k _ => by rw [c36, s8]) (fun k _ => by rw [c37, s9]) (fun k _ => by rw [c38, s10]) (fun k _ => by rw [c39, s11]) (fun k _ => by rw [c40, s12]) (fun k hk => by exact q2 (826 + k) (by omega))
  · rcases q with ⟨qr, qa, qe⟩ | ⟨qr, qa, q1, q2, q3⟩
    · omega
    · have ea : a0.toNat = 1 := by omega
      rw [ea] at q1 q2 q3
      have c15 : m2 15 = m1 15 := zNo_eq g2 w2 (by decide)
      have c16 : m2 16 = m1 16 := zNo_eq g2 w2 (by decide)
      have c17 : m2 17 = m1 17 := zNo_eq g2 w2 (by decide)
      have c18 : m2 18 = m1 18 := zNo_eq g2 w2 (by decide)
      have c19 : m2 19 = m1 19 := zNo_eq g2 w2 (by decide)
      have c20 : m2 20 = m1 20 := zNo_eq g2 w2 (by decide)
      have c21 : m2 21 = m1 21 := zNo_eq g2 w2 (by decide)
      have c22 : m2 22 = m1 22 := zNo_eq g2 w2 (by decide)
      have c23 : m2 23 = m1 23 := zNo_eq g2 w2 (by decide)
      have c24 : m2 24 = m1 24 := zNo_eq g2 w2 (by decide)
      have c25 : m2 25 = m1 25 := zNo_eq g2 w2 (by decide)
      have c26 : m2 26 = m1 26 := zNo_eq g2 w2 (by decide)
      have c27 : m2 27 = m1 27 := zNo_eq g2 w2 (by decide)
      have c28 : m2 28 = m1 28 := zNo_eq g2 w2 (by decide)
      have c29 : m2 29 = m1 29 := zNo_eq g2 w2 (by decide)
      have c30 : m2 30 = m1 30 := zNo_eq g2 w2 (by decide)
      have c31 : m2 31 = m1 31 := zNo_eq g2 w2 (by decide)
      have c32 : m2 32 = m1 32 := zNo_eq g2 w2 (by decide)
      have c33 : m2 33 = m1 33 := zNo_eq g2 w2 (by decide)
      have c34 : m2 34 = m1 34 := zNo_eq g2 w2 (by decide)
      have c35 : m2 35 = m1 35 := zNo_eq g2 w2 (by decide)
      have c36 : m2 36 = m1 36 := zNo_eq g2 w2 (by decide)
      have c37 : m2 37 = m1 37 := zNo_eq g2 w2 (by decide)
      have c38 : m2 38 = m1 38 := zNo_eq g2 w2 (by decide)
      have c39 : m2 39 = m1 39 := zNo_eq g2 w2 (by decide)
      have c40 : m2 40 = m1 40 := zNo_eq g2 w2 (by decide)
      have c41 : m2 41 = m1 41 := zNo_eq g2 w2 (by decide)
      rw [e70] at q1
      rw [e71] at q2
      rw [e72] at q3
      have k0 : m2 41 1 = 1 := by rw [c41, pk]; exact zPt_eq
      have k1 : m2 72 1 = 1 := by rw [q3]; exact zPt_eq
      have k2 : m2 41 0 = m 41 0 := by rw [c41, pk]; exact zPt_ne (by decide)
      have k3 : m2 72 0 = m 72 0 := by rw [q3]; exact zPt_ne (by decide)
      refine ⟨⟨hN, by rw [k2, k3]; exact hi0, by rw [k0, k1], ?_, ?_⟩, by omega⟩
      · exact fun hk => qR_cg (hi2 (by rw [← k3]; exact hk)) (by rw [c15, s0]) (by rw [c15, s0]) (by rw [c15, s0]) (by rw [c15, s0]) (by rw [c15, s0]) (by rw [c15, s0]) (fun k _ => by rw [c16, s1]) (fun k _ => by rw [c17, s2]) (fun k _ => by rw [c18, s3]) (fun k _ => by rw [c19, s4]) (fun k _ => by rw [c20, s5]) (fun k _ => by rw [c21, s6]) (fun k _ => by rw [c22, s7]) (fun k _ => by rw [c23, s8]) (fun k _ => by rw [c24, s9]) (fun k _ => by rw [c25, s10]) (fun k _ => by rw [c26, s11]) (fun k _ => by rw [c27, s12]) (fun k hk => by exact q2 k (by omega))
      · exact fun _ => qR_cg hR (by rw [c28]; exact t0) (by rw [c28]; exact t1) (by rw [c28]; exact t2) (by rw [c28]; exact t3) (by rw [c28]; exact t4) (by rw [c28]; exact t5) (by rw [c29]; exact t6) (by rw [c30]; exact t7) (by rw [c31]; exact t8) (by rw [c32]; exact t9) (by rw [c33]; exact t10) (by rw [c34]; exact t11) (by rw [c35]; exact t12) (by rw [c36]; exact t13) (by rw [c37]; exact t14) (by rw [c38]; exact t15) (by rw [c39]; exact t16) (by rw [c40]; exact t17) (fun k hk => by exact q1 k hk)
set_option maxHeartbeats 4000000 in
theorem zk_from {W1 W2 : List (Nat × Nat)} {m m1 m2 : zM} {a0 r1 r2 : Int} (h : qK m) (g1 : zFr W1 m m1) (p : zCm m m1 a0 r1) (g2 : zFr W2 m1 m2) (q : zRm m1 m2 a0 r2) (w1 : zNo W1 [15, 16, 17, 18, 19, 20, 21, 22, 23, 24, 25, 26, 27, 28, 29, 30, 31, 32, 33, 34, 35, 36, 37, 38, 39, 40, 41, 71, 72] = true := by rfl) (w2 : zNo W2 [1, 2, 3, 4, 5, 6, 7, 8, 9, 10, 11, 12, 13, 15, 16, 17, 18, 19, 20, 21, 22, 23, 24, 25, 26, 27, 28, 29, 30, 31, 32, 33, 34, 35, 36, 37, 38, 39, 40, 41, 71, 72] = true := by rfl) : qK m2 ∧ r1 = r2 := by
  obtain ⟨hR, hI⟩ := h
  have hI2 : qKi m2 := qKi_fr hI (fun c hc => (zNo_eq g2 w2 (by revert c; decide)).trans (zNo_eq g1 w1 hc))
  obtain ⟨hi0, hi1, hi2, hi3⟩ := hI
  have e71 : m1 71 = m 71 := zNo_eq g1 w1 (by decide)
  have e72 : m1 72 = m 72 := zNo_eq g1 w1 (by decide)
  have ek : (0 ≤ a0 ∧ a0 ≤ 1) → m 41 a0.toNat = m1 72 a0.toNat := by
    intro ha
    rw [e72]
    by_cases h0 : a0 = 0
    · rw [h0]; exact hi0
    · rw [show a0 = 1 by omega]; exact hi1
  rcases p with ⟨pr, pa, pe⟩ | ⟨pr, pa, pk, pe⟩ | ⟨pr, pa, pk, ⟨t0, t1, t2, t3, t4, t5, t6, t7, t8, t9, t10, t11, t12, t13, t14, t15, t16, t17⟩⟩ | ⟨pr, pa, pk, ⟨t0, t1, t2, t3, t4, t5, t6, t7, t8, t9, t10, t11, t12, t13, t14, t15, t16, t17⟩⟩
  · rcases q with ⟨qr, qa, qe⟩ | ⟨qr, qa, _⟩ | ⟨qr, qa, _⟩
    · subst qe; subst pe; exact ⟨⟨hR, hI2⟩, by omega⟩
    · omega
    · omega
  · have ek := ek pa
    rcases q with ⟨qr, qa, qe⟩ | ⟨qr, qa, _, qe⟩ | ⟨qr, qa, qk, _⟩
    · omega
    · subst qe; subst pe; exact ⟨⟨hR, hI2⟩, by omega⟩
    · exact absurd (ek.symm.trans pk) qk
  · have ek := ek (by omega)
    rcases q with ⟨qr, qa, qe⟩ | ⟨qr, qa, qk, qe⟩ | ⟨qr, qa, qk, q1⟩
    · omega
    · exact absurd (ek.trans qk) pk
    · have ea : a0.toNat = 0 := by omega
      rw [ea, e72] at qk
      rw [ea, e71] at q1
      have c1 : m2 1 = m1 1 := zNo_eq g2 w2 (by decide)
      have c2 : m2 2 = m1 2 := zNo_eq g2 w2 (by decide)
      have c3 : m2 3 = m1 3 := zNo_eq g2 w2 (by decide)
      have c4 : m2 4 = m1 4 := zNo_eq g2 w2 (by decide)
      have c5 : m2 5 = m1 5 := zNo_eq g2 w2 (by decide)
      have c6 : m2 6 = m1 6 := zNo_eq g2 w2 (by decide)
      have c7 : m2 7 = m1 7 := zNo_eq g2 w2 (by decide)
      have c8 : m2 8 = m1 8 := zNo_eq g2 w2 (by decide)
      have c9 : m2 9 = m1 9 := zNo_eq g2 w2 (by decide)
      have c10 : m2 10 = m1 10 := zNo_eq g2 w2 (by decide)
      have c11 : m2 11 = m1 11 := zNo_eq g2 w2 (by decide)
      have c12 : m2 12 = m1 12 := zNo_eq g2 w2 (by decide)
      have c13 : m2 13 = m1 13 := zNo_eq g2 w2 (by decide)
      refine ⟨⟨?_, hI2⟩, by omega⟩
      exact qR_cg (hi2 qk) (by rw [c1]; exact t0) (by rw [c1]; exact t1) (by rw [c1]; exact t2) (by rw [c1]; exact t3) (by rw [c1]; exact t4) (by rw [c1]; exact t5) (by rw [c2]; exact t6) (by rw [c3]; exact t7) (by rw [c4]; exact t8) (by rw [c5]; exact t9) (by rw [c6]; exact t10) (by rw [c7]; exact t11) (by rw [c8]; exact t12) (by rw [c9]; exact t13) (by rw [c10]; exact t14) (by rw [c11]; exact t15) (by rw [c12]; exact t16) (by rw [c13]; exact t17) (fun k hk => by have := q1 k hk; rwa [Nat.mul_zero, Nat.zero_add] at this)
  · have ek := ek (by omega)
    rcases q with ⟨qr, qa, qe⟩ | ⟨qr, qa, qk, qe⟩ | ⟨qr, qa, qk, q1⟩
    · omega
    · exact absurd (ek.trans qk) pk
    · have ea : a0.toNat = 1 := by omega
      rw [ea, e72] at qk
      rw [ea, e71] at q1
      have c1 : m2 1 = m1 1 := zNo_eq g2 w2 (by decide)
      have c2 : m2 2 = m1 2 := zNo_eq g2 w2 (by decide)
      have c3 : m2 3 = m1 3 := zNo_eq g2 w2 (by decide)
      have c4 : m2 4 = m1 4 := zNo_eq g2 w2 (by decide)
      have c5 : m2 5 = m1 5 := zNo_eq g2 w2 (by decide)
      have c6 : m2 6 = m1 6 := zNo_eq g2 w2 (by decide)
      have c7 : m2 7 = m1 7 := zNo_eq g2 w2 (by decide)
      have c8 : m2 8 = m1 8 := zNo_eq g2 w2 (by decide)
      have c9 : m2 9 = m1 9 := zNo_eq g2 w2 (by decide)
      have c10 : m2 10 = m1 10 := zNo_eq g2 w2 (by decide)
      have c11 : m2 11 = m1 11 := zNo_eq g2 w2 (by decide)
      have c12 : m2 12 = m1 12 := zNo_eq g2 w2 (by decide)
      have c13 : m2 13 = m1 13 := zNo_eq g2 w2 (by decide)
      refine ⟨⟨?_, hI2⟩, by omega⟩
      exact qR_cg (hi3 qk) (by rw [c1]; exact t0) (by rw [c1]; exact t1) (by rw [c1]; exact t2) (by rw [c1]; exact t3) (by rw [c1]; exact t4) (by rw [c1]; exact t5) (by rw [c2]; exact t6) (by rw [c3]; exact t7) (by rw [c4]; exact t8) (by rw [c5]; exact t9) (by rw [c6]; exact t10) (by rw [c7]; exact t11) (by rw [c8]; exact t12) (by rw [c9]; exact t13) (by rw [c10]; exact t14) (by rw [c11]; exact t15) (by rw [c12]; exact t16) (by rw [c13]; exact t17) (fun k hk => by exact q1 k hk)
/-! meetings of two -/
def mtc (f g : Nat → Int) (p q : Int) : Nat → Int
  | 0 => 0
  | n + 1 => mtc f g p q n + (if (f n = p ∨ g n = p) ∧ (f n = q ∨ g n = q) then 1 else 0)
theorem zmt (f g : Nat → Int) (p q : Int) (n k : Nat) (h : k = n + 1) : (((f n = p ∨ g n = p) ∧ (f n = q ∨ g n = q)) ∧ mtc f g p q k = mtc f g p q n + 1) ∨ (¬ ((f n = p ∨ g n = p) ∧ (f n = q ∨ g n = q)) ∧ mtc f g p q k = mtc f g p q n) := by
  subst h
  have e : mtc f g p q (n + 1) = mtc f g p q n + (if (f n = p ∨ g n = p) ∧ (f n = q ∨ g n = q) then 1 else 0) := rfl
  rw [e]
  by_cases hc : (f n = p ∨ g n = p) ∧ (f n = q ∨ g n = q)
  · rw [if_pos hc]; exact Or.inl ⟨hc, rfl⟩
  · rw [if_neg hc]; exact Or.inr ⟨hc, by omega⟩
def mtr (g : Nat → Int) (p q : Int) (n : Nat) : Int := mtc (fun i => g (91 + 6 * i)) (fun i => g (92 + 6 * i)) p q n
theorem zmr (g : Nat → Int) (p q : Int) (n k k1 k2 : Nat) (h : k = n + 1) (h1 : k1 = 91 + 6 * n) (h2 : k2 = 92 + 6 * n) : (((g k1 = p ∨ g k2 = p) ∧ (g k1 = q ∨ g k2 = q)) ∧ mtr g p q k = mtr g p q n + 1) ∨ (¬ ((g k1 = p ∨ g k2 = p) ∧ (g k1 = q ∨ g k2 = q)) ∧ mtr g p q k = mtr g p q n) := by
  subst h1 h2
  exact zmt (fun i => g (91 + 6 * i)) (fun i => g (92 + 6 * i)) p q n k h
theorem mtc_cg {f g f' g' : Nat → Int} {p q : Int} {n : Nat} (hf : ∀ i, i < n → f' i = f i) (hg : ∀ i, i < n → g' i = g i) : mtc f' g' p q n = mtc f g p q n := by
  induction n with
  | zero => rfl
  | succ n ih =>
    have h := ih (fun i hi => hf i (by omega)) (fun i hi => hg i (by omega))
    have a := zmt f g p q n (n + 1) rfl
    have b := zmt f' g' p q n (n + 1) rfl
    rw [hf n (by omega), hg n (by omega), h] at b
    rcases a with ⟨a1, a2⟩ | ⟨a1, a2⟩
    · rcases b with ⟨b1, b2⟩ | ⟨b1, b2⟩
      · rw [a2, b2]
      · exact absurd a1 b1
    · rcases b with ⟨b1, b2⟩ | ⟨b1, b2⟩
      · exact absurd b1 a1
      · rw [a2, b2]
theorem zq_share {W1 : List (Nat × Nat)} {m m1 : zM} {a0 a1 ga0 gb0 r1 r2 : Int} (hz : zInv m) (h : qK m) (g1 : zFr W1 m m1) (x0 : m 1 0 = ga0) (p0 : (r1 = -2 ∧ (a0 < 0 ∨ ga0 ≤ a0 ∨ a1 < 0 ∨ 1 < a1)) ∨ (0 ≤ a0 ∧ a0 < ga0 ∧ 0 ≤ a1 ∧ a1 ≤ 1 ∧ ((r1 = -3 ∧ (m 4) (a0 * 4 + 0).toNat + (m 4) (a0 * 4 + (0 + 1)).toNat + (m 4) (a0 * 4 + ((0 + 1) + 1)).toNat + (m 4) (a0 * 4 + (((0 + 1) + 1) + 1)).toNat = 0) ∨ (r1 = 1 ∧ (m 4) (a0 * 4 + 0).toNat + (m 4) (a0 * 4 + (0 + 1)).toNat + (m 4) (a0 * 4 + ((0 + 1) + 1)).toNat + (m 4) (a0 * 4 + (((0 + 1) + 1) + 1)).toNat ≠ 0)))) (y0 : m1 70 822 = gb0) (q0 : (r2 = -2 ∧ (a0 < 0 ∨ gb0 ≤ a0 ∨ a1 < 0 ∨ 1 < a1)) ∨ (0 ≤ a0 ∧ a0 < gb0 ∧ 0 ≤ a1 ∧ a1 ≤ 1 ∧ ((r2 = -3 ∧ (m1 70) (10 + 8 * a0 + 2 * 0 + 1).toNat + (m1 70) (10 + 8 * a0 + 2 * (0 + 1) + 1).toNat + (m1 70) (10 + 8 * a0 + 2 * ((0 + 1) + 1) + 1).toNat + (m1 70) (10 + 8 * a0 + 2 * (((0 + 1) + 1) + 1) + 1).toNat = 0) ∨ (r2 = 1 ∧ (m1 70) (10 + 8 * a0 + 2 * 0 + 1).toNat + (m1 70) (10 + 8 * a0 + 2 * (0 + 1) + 1).toNat + (m1 70) (10 + 8 * a0 + 2 * ((0 + 1) + 1) + 1).toNat + (m1 70) (10 + 8 * a0 + 2 * (((0 + 1) + 1) + 1) + 1).toNat ≠ 0)))) (w1 : zNo W1 [70] = true := by rfl) : r1 = r2 := by
  have e70 : m1 70 = m 70 := zNo_eq g1 w1 (by decide)
  have b0 := ib_1_0 hz
  have b1 := ib_1_1 hz
  obtain ⟨hR, hI⟩ := h
  obtain ⟨h0, h1, h2, h3, hA, hB, hC, hD0, hD1, hD2, hD3, hE, hL, hT, hS, hW, hGv, hDb, hZ⟩ := hR
  subst x0
  rw [e70] at y0
  have z0 : gb0 = m 1 0 := by omega
  subst z0
  rw [e70] at q0
  by_cases hc : 0 ≤ a0 ∧ a0 < 10
  · have k0 : m 70 (10 + 8 * a0 + 2 * 0 + 1).toNat = m 4 (a0 * 4 + 0).toNat := by rw [show (10 + 8 * a0 + 2 * 0 + 1).toNat = 11 + 2 * (a0 * 4 + 0).toNat by omega]; exact hC _ (by omega)
    have k1 : m 70 (10 + 8 * a0 + 2 * (0 + 1) + 1).toNat = m 4 (a0 * 4 + (0 + 1)).toNat := by rw [show (10 + 8 * a0 + 2 * (0 + 1) + 1).toNat = 11 + 2 * (a0 * 4 + (0 + 1)).toNat by omega]; exact hC _ (by omega)
    have k2 : m 70 (10 + 8 * a0 + 2 * ((0 + 1) + 1) + 1).toNat = m 4 (a0 * 4 + ((0 + 1) + 1)).toNat := by rw [show (10 + 8 * a0 + 2 * ((0 + 1) + 1) + 1).toNat = 11 + 2 * (a0 * 4 + ((0 + 1) + 1)).toNat by omega]; exact hC _ (by omega)
    have k3 : m 70 (10 + 8 * a0 + 2 * (((0 + 1) + 1) + 1) + 1).toNat = m 4 (a0 * 4 + (((0 + 1) + 1) + 1)).toNat := by rw [show (10 + 8 * a0 + 2 * (((0 + 1) + 1) + 1) + 1).toNat = 11 + 2 * (a0 * 4 + (((0 + 1) + 1) + 1)).toNat by omega]; exact hC _ (by omega)
    omega
  · omega
theorem zq_even {W1 : List (Nat × Nat)} {m m1 : zM} {a0 a1 a2 a3 ga0 gb0 r1 r2 : Int} (hz : zInv m) (h : qK m) (g1 : zFr W1 m m1) (x0 : m 1 0 = ga0) (p0 : (r1 = -2 ∧ (a0 < 0 ∨ ga0 ≤ a0 ∨ a1 < 0 ∨ ga0 ≤ a1 ∨ a0 = a1 ∨ a2 < 1 ∨ a3 ≤ a2 ∨ 9 < a3)) ∨ (0 ≤ a0 ∧ a0 < ga0 ∧ 0 ≤ a1 ∧ a1 < ga0 ∧ a0 ≠ a1 ∧ 1 ≤ a2 ∧ a2 < a3 ∧ a3 ≤ 9 ∧ ((r1 = 1 ∧ 1 ≤ mtc (m 6) (m 7) a0 a1 (m 1 1).toNat ∧ mtc (m 6) (m 7) a0 a1 (m 1 1).toNat ≤ 15) ∨ (r1 = -3 ∧ (mtc (m 6) (m 7) a0 a1 (m 1 1).toNat < 1 ∨ 15 < mtc (m 6) (m 7) a0 a1 (m 1 1).toNat))))) (y0 : m1 70 822 = gb0) (q0 : (r2 = -2 ∧ (a0 < 0 ∨ gb0 ≤ a0 ∨ a1 < 0 ∨ gb0 ≤ a1 ∨ a0 = a1 ∨ a2 < 1 ∨ a3 ≤ a2 ∨ 9 < a3)) ∨ (0 ≤ a0 ∧ a0 < gb0 ∧ 0 ≤ a1 ∧ a1 < gb0 ∧ a0 ≠ a1 ∧ 1 ≤ a2 ∧ a2 < a3 ∧ a3 ≤ 9 ∧ ((r2 = 1 ∧ 1 ≤ mtr (m1 70) a0 a1 ((m1 70) 823).toNat ∧ mtr (m1 70) a0 a1 ((m1 70) 823).toNat ≤ 15) ∨ (r2 = -3 ∧ (mtr (m1 70) a0 a1 ((m1 70) 823).toNat < 1 ∨ 15 < mtr (m1 70) a0 a1 ((m1 70) 823).toNat))))) (w1 : zNo W1 [70] = true := by rfl) : r1 = r2 := by
  have e70 : m1 70 = m 70 := zNo_eq g1 w1 (by decide)
  have b0 := ib_1_0 hz
  have b1 := ib_1_1 hz
  obtain ⟨hR, hI⟩ := h
  obtain ⟨h0, h1, h2, h3, hA, hB, hC, hD0, hD1, hD2, hD3, hE, hL, hT, hS, hW, hGv, hDb, hZ⟩ := hR
  subst x0
  rw [e70] at y0
  have z0 : gb0 = m 1 0 := by omega
  subst z0
  rw [e70] at q0
  have key : mtc (m 6) (m 7) a0 a1 (m 1 1).toNat = mtr (m 70) a0 a1 (m 70 823).toNat := by
    rw [← h1]
    exact (mtc_cg (fun i hi => hD1 i (by omega)) (fun i hi => hD2 i (by omega))).symm
  omega
/-! marks summed -/
def sfl (f : Nat → Int) (c : Nat) : Nat → Int
  | 0 => 0
  | n + 1 => sfl f c n + f (94 + c + 6 * n)
theorem zsf (f : Nat → Int) (c n k j : Nat) (h : k = n + 1) (hj : j = 94 + c + 6 * n) : sfl f c k = sfl f c n + f j := by
  subst h hj
  rfl
theorem sfl_bs {f : Nat → Int} {v : Int} {c n : Nat} (h : ∀ i, i < n → f (94 + c + 6 * i) = zbt v i) : sfl f c n = ((bs v.toNat n : Nat) : Int) := by
  induction n with
  | zero => rfl
  | succ n ih =>
    have e1 : sfl f c (n + 1) = sfl f c n + f (94 + c + 6 * n) := rfl
    have e2 : bs v.toNat (n + 1) = bs v.toNat n + (if v.toNat.testBit n then 1 else 0) := rfl
    have e3 : zbt v n = if v.toNat.testBit n then 1 else 0 := rfl
    rw [e1, e2, ih (fun i hi => h i (by omega)), h n (by omega), e3]
    by_cases hb : v.toNat.testBit n
    · rw [if_pos hb, if_pos hb]; rfl
    · rw [if_neg hb, if_neg hb]; rfl
theorem bs_more {x n : Nat} (k : Nat) (h : ∀ i, n ≤ i → i < n + k → x.testBit i = false) : bs x (n + k) = bs x n := by
  induction k with
  | zero => rfl
  | succ k ih =>
    have e : bs x (n + (k + 1)) = bs x (n + k) + (if x.testBit (n + k) then 1 else 0) := rfl
    rw [e, ih (fun i h1 h2 => h i h1 (by omega)), h (n + k) (by omega) (by omega)]
    rfl
theorem zbt_f {v : Int} {i : Nat} (h : zbt v i = 0) : v.toNat.testBit i = false := by
  unfold zbt at h
  cases hb : v.toNat.testBit i
  · rfl
  · rw [hb] at h
    exact absurd h (by decide)
theorem bs_all {v : Int} {n : Nat} (hn : n ≤ 60) (hv : 0 ≤ v ∧ v ≤ 1152921504606846975) (hz : ∀ i, n ≤ i → i < 60 → zbt v i = 0) : bs v.toNat 64 = bs v.toNat n := by
  have := bs_more (x := v.toNat) (n := n) (64 - n) (fun i h1 h2 => by
    by_cases h : i < 60
    · exact zbt_f (hz i h1 h)
    · refine Nat.testBit_lt_two_pow (Nat.lt_of_lt_of_le (show v.toNat < 2 ^ 60 by omega) (Nat.pow_le_pow_right (by decide) (by omega))))
  rwa [show n + (64 - n) = 64 by omega] at this
theorem zq_count {W1 : List (Nat × Nat)} {m m1 : zM} {a0 ga0 ga1 ga2 ga3 gb0 gb1 r1 r2 : Int} (hz : zInv m) (h : qK m) (g1 : zFr W1 m m1) (x0 : m 1 0 = ga0) (x1 : m 1 1 = ga1) (x2 : m 1 2 = ga2) (x3 : m 1 3 = ga3) (p0 : (a0 = 0 ∧ r1 = ga0) ∨ (a0 = 1 ∧ r1 = ga1) ∨ (a0 = 2 ∧ r1 = ((bs ga2.toNat 64 : Nat) : Int)) ∨ (a0 = 3 ∧ r1 = ((bs ga3.toNat 64 : Nat) : Int)) ∨ ((a0 < 0 ∨ 3 < a0) ∧ r1 = -2)) (y0 : m1 70 822 = gb0) (y1 : m1 70 823 = gb1) (q0 : (r2 = -2 ∧ (a0 < 0 ∨ 3 < a0)) ∨ (a0 = 0 ∧ r2 = gb0) ∨ (a0 = 1 ∧ r2 = gb1) ∨ (2 ≤ a0 ∧ a0 ≤ 3 ∧ r2 = sfl (m1 70) (a0 - 2).toNat gb1.toNat)) (w1 : zNo W1 [70] = true := by rfl) : r1 = r2 := by
  have e70 : m1 70 = m 70 := zNo_eq g1 w1 (by decide)
  have b0 := ib_1_0 hz
  have b1 := ib_1_1 hz
  obtain ⟨hR, hI⟩ := h
  obtain ⟨h0, h1, h2, h3, hA, hB, hC, hD0, hD1, hD2, hD3, hE, hL, hT, hS, hW, hGv, hDb, hZ⟩ := hR
  subst x0
  subst x1
  subst x2
  subst x3
  rw [e70] at y0
  have z0 : gb0 = m 1 0 := by omega
  subst z0
  rw [e70] at y1
  have z1 : gb1 = m 1 1 := by omega
  subst z1
  rw [e70] at q0
  have b2 := ib_1_2 hz
  have b3 := ib_1_3 hz
  have k2 : sfl (m 70) 0 (m 1 1).toNat = ((bs (m 1 2).toNat 64 : Nat) : Int) := by
    rw [bs_all (n := (m 1 1).toNat) (by omega) b2 (fun i h1 h2 => (hZ i h2 (by omega)).1)]
    exact sfl_bs (fun i hi => hGv i (by omega))
  have k3 : sfl (m 70) 1 (m 1 1).toNat = ((bs (m 1 3).toNat 64 : Nat) : Int) := by
    rw [bs_all (n := (m 1 1).toNat) (by omega) b3 (fun i h1 h2 => (hZ i h2 (by omega)).2)]
    exact sfl_bs (fun i hi => hDb i (by omega))
  by_cases q2 : a0 = 2
  · subst q2
    rw [show (2 - 2 : Int).toNat = 0 from rfl, k2] at q0
    omega
  · by_cases q3 : a0 = 3
    · subst q3
      rw [show (3 - 2 : Int).toNat = 1 from rfl, k3] at q0
      omega
    · omega
theorem zq_fault {W1 : List (Nat × Nat)} {m m1 : zM} {a0 r1 r2 : Int} (hz : zInv m) (h : qK m) (g1 : zFr W1 m m1) (p0 : (r1 = -2 ∧ (a0 < 0 ∨ 3 < a0)) ∨ ((0 ≤ a0 ∧ a0 ≤ 3) ∧ ∃ f y, zPc (chc (m 11) (m 10) a0) f y r1)) (q0 : (r2 = -2 ∧ (a0 < 0 ∨ 3 < a0)) ∨ ((0 ≤ a0 ∧ a0 ≤ 3) ∧ ∃ nm x, RV (cht (m1 70) a0) nm 0 1 0 [] [] (r2, x))) (w1 : zNo W1 [70] = true := by rfl) : r1 = r2 := by
  have e70 : m1 70 = m 70 := zNo_eq g1 w1 (by decide)
  have b0 := ib_1_0 hz
  have b1 := ib_1_1 hz
  obtain ⟨hR, hI⟩ := h
  obtain ⟨h0, h1, h2, h3, hA, hB, hC, hD0, hD1, hD2, hD3, hE, hL, hT, hS, hW, hGv, hDb, hZ⟩ := hR
  rw [e70] at q0
  rcases p0 with ⟨a, b⟩ | ⟨a, f, y, b⟩
  · rcases q0 with ⟨c, d⟩ | ⟨c, nm, x, d⟩
    · omega
    · omega
  · rcases q0 with ⟨c, d⟩ | ⟨c, nm, x, d⟩
    · omega
    · have hch : cht (m 70) a0 = chc (m 11) (m 10) a0 := cht_c (hL _ (by omega)) (fun j hj => hT _ (by omega) j hj) (ib_10 hz (by omega)).2
      rw [hch] at d
      exact zPc_q b d
theorem zq_paid {W1 : List (Nat × Nat)} {m m1 : zM} {a0 a1 ga0 ga1 gb0 r1 r2 : Int} (hz : zInv m) (h : qK m) (g1 : zFr W1 m m1) (x0 : m 1 1 = ga0) (x1 : m 1 2 = ga1) (p0 : (r1 = -100000 ∧ (a0 < 0 ∨ 3 < a0 ∨ a1 < 0 ∨ 99 < a1)) ∨ ((0 ≤ a0 ∧ a0 ≤ 3 ∧ 0 ≤ a1 ∧ a1 ≤ 99) ∧ ∃ S, zAn (pst (chc (m 11) (m 10) a0) (m 6) (m 7) (m 8) (m 5) (zbt ga1)) (fun _ => 1) (cpy (chc (m 11) (m 10) a0) (m 6) (m 7) (m 8) (m 5) (zbt ga1) a1) ((m 9) a0.toNat) S r1 ga0)) (y0 : m1 70 823 = gb0) (q0 : (r2 = -100000 ∧ (a0 < 0 ∨ 3 < a0 ∨ a1 < 0 ∨ 99 < a1)) ∨ ((0 ≤ a0 ∧ a0 ≤ 3 ∧ 0 ≤ a1 ∧ a1 ≤ 99) ∧ ∃ S, zBn (psr (cht (m1 70) a0) (fun i => (m1 70) (91 + 6 * i)) (fun i => (m1 70) (92 + 6 * i)) (fun i => (m1 70) (93 + 6 * i)) (fun i => (m1 70) (90 + 6 * i)) (fun i => (m1 70) (94 + 6 * i))) (fun _ => 1) (cpr (cht (m1 70) a0) (fun i => (m1 70) (91 + 6 * i)) (fun i => (m1 70) (92 + 6 * i)) (fun i => (m1 70) (93 + 6 * i)) (fun i => (m1 70) (90 + 6 * i)) (fun i => (m1 70) (94 + 6 * i)) a1) ((m1 70) (450 + 52 * a0).toNat) S r2 gb0)) (w1 : zNo W1 [70] = true := by rfl) : r1 = r2 := by
  have e70 : m1 70 = m 70 := zNo_eq g1 w1 (by decide)
  have b0 := ib_1_0 hz
  have b1 := ib_1_1 hz
  obtain ⟨hR, hI⟩ := h
  obtain ⟨h0, h1, h2, h3, hA, hB, hC, hD0, hD1, hD2, hD3, hE, hL, hT, hS, hW, hGv, hDb, hZ⟩ := hR
  subst x0
  subst x1
  rw [e70] at y0
  have z0 : gb0 = m 1 1 := by omega
  subst z0
  rw [e70] at q0
  rcases p0 with ⟨a, b⟩ | ⟨a, S, b⟩
  · rcases q0 with ⟨d, e⟩ | ⟨d, R, e⟩
    · omega
    · omega
  · rcases q0 with ⟨d, e⟩ | ⟨d, R, e⟩
    · omega
    · have hch : cht (m 70) a0 = chc (m 11) (m 10) a0 := cht_c (hL _ (by omega)) (fun j hj => hT _ (by omega) j hj) (ib_10 hz (by omega)).2
      have hv : m 9 a0.toNat = m 70 (450 + 52 * a0).toNat := by rw [show (450 + 52 * a0).toNat = 450 + 52 * a0.toNat by omega]; exact (hE _ (by omega)).symm
      rw [hch] at e
      exact (zAn_k b e ⟨hv, rfl⟩ (fun i hi => hD1 i (by omega)) (fun i hi => hD2 i (by omega)) (fun i hi => hD3 i (by omega)) (fun i hi => hD0 i (by omega)) (fun i hi => hGv i (by omega)) (fun _ _ => rfl) (fun i hi => by have z := ib_6 hz (k := i) (by omega); omega) (fun i hi => by have z := ib_7 hz (k := i) (by omega); omega) (fun i hi => (ib_5 hz (k := i) (by omega)).1) (fun i P Q hi h => cpr_k h (hD1 i (by omega)) (hD2 i (by omega)) (hD3 i (by omega)) (hD0 i (by omega)) (hGv i (by omega)) (by have z := ib_6 hz (k := i) (by omega); omega) (by have z := ib_7 hz (k := i) (by omega); omega))).symm
theorem zq_foretold {W1 : List (Nat × Nat)} {m m1 : zM} {a0 ga0 ga1 gb0 r1 r2 : Int} (hz : zInv m) (h : qK m) (g1 : zFr W1 m m1) (x0 : m 1 1 = ga0) (x1 : m 1 2 = ga1) (p0 : (r1 = -2 ∧ (a0 < 0 ∨ 3 < a0)) ∨ ((0 ≤ a0 ∧ a0 ≤ 3) ∧ ∃ S, zAn (pst (chc (m 11) (m 10) a0) (m 6) (m 7) (m 8) (m 5) (zbt ga1)) (fun _ => 1) (cft (m 6) (m 7) (m 8) (zbt ga1)) ((m 9) a0.toNat) S r1 ga0)) (y0 : m1 70 823 = gb0) (q0 : (r2 = -2 ∧ (a0 < 0 ∨ 3 < a0)) ∨ ((0 ≤ a0 ∧ a0 ≤ 3) ∧ ∃ S, zBn (psr (cht (m1 70) a0) (fun i => (m1 70) (91 + 6 * i)) (fun i => (m1 70) (92 + 6 * i)) (fun i => (m1 70) (93 + 6 * i)) (fun i => (m1 70) (90 + 6 * i)) (fun i => (m1 70) (94 + 6 * i))) (fun _ => 1) (cft (fun i => (m1 70) (91 + 6 * i)) (fun i => (m1 70) (92 + 6 * i)) (fun i => (m1 70) (93 + 6 * i)) (fun i => (m1 70) (94 + 6 * i))) ((m1 70) (450 + 52 * a0).toNat) S r2 gb0)) (w1 : zNo W1 [70] = true := by rfl) : r1 = r2 := by
  have e70 : m1 70 = m 70 := zNo_eq g1 w1 (by decide)
  have b0 := ib_1_0 hz
  have b1 := ib_1_1 hz
  obtain ⟨hR, hI⟩ := h
  obtain ⟨h0, h1, h2, h3, hA, hB, hC, hD0, hD1, hD2, hD3, hE, hL, hT, hS, hW, hGv, hDb, hZ⟩ := hR
  subst x0
  subst x1
  rw [e70] at y0
  have z0 : gb0 = m 1 1 := by omega
  subst z0
  rw [e70] at q0
  rcases p0 with ⟨a, b⟩ | ⟨a, S, b⟩
  · rcases q0 with ⟨d, e⟩ | ⟨d, R, e⟩
    · omega
    · omega
  · rcases q0 with ⟨d, e⟩ | ⟨d, R, e⟩
    · omega
    · have hch : cht (m 70) a0 = chc (m 11) (m 10) a0 := cht_c (hL _ (by omega)) (fun j hj => hT _ (by omega) j hj) (ib_10 hz (by omega)).2
      have hv : m 9 a0.toNat = m 70 (450 + 52 * a0).toNat := by rw [show (450 + 52 * a0).toNat = 450 + 52 * a0.toNat by omega]; exact (hE _ (by omega)).symm
      rw [hch] at e
      exact (zAn_k b e ⟨hv, rfl⟩ (fun i hi => hD1 i (by omega)) (fun i hi => hD2 i (by omega)) (fun i hi => hD3 i (by omega)) (fun i hi => hD0 i (by omega)) (fun i hi => hGv i (by omega)) (fun _ _ => rfl) (fun i hi => by have z := ib_6 hz (k := i) (by omega); omega) (fun i hi => by have z := ib_7 hz (k := i) (by omega); omega) (fun i hi => (ib_5 hz (k := i) (by omega)).1) (fun i P Q hi h => cft_k h (hD1 i (by omega)) (hD2 i (by omega)) (hD3 i (by omega)) (hGv i (by omega)) (by have z := ib_6 hz (k := i) (by omega); omega) (by have z := ib_7 hz (k := i) (by omega); omega))).symm
theorem zq_hiding {W1 : List (Nat × Nat)} {m m1 : zM} {a0 a1 a2 ga0 ga1 ga2 gb0 gb1 r1 r2 : Int} (hz : zInv m) (h : qK m) (g1 : zFr W1 m m1) (x0 : m 1 0 = ga0) (x1 : m 1 1 = ga1) (x2 : m 1 2 = ga2) (p0 : (r1 = -100000 ∧ (a0 < 0 ∨ 3 < a0 ∨ a1 < 0 ∨ ga0 ≤ a1 ∨ a2 < 0 ∨ 99 < a2)) ∨ ((0 ≤ a0 ∧ a0 ≤ 3 ∧ 0 ≤ a1 ∧ a1 < ga0 ∧ 0 ≤ a2 ∧ a2 ≤ 99) ∧ ∃ S T, zSn (pst (chc (m 11) (m 10) a0) (m 6) (m 7) (m 8) (m 5) (zbt ga2)) (hsl (m 5) (m 6) (m 7) a2 a1) ((m 9) a0.toNat) S ga1 ∧ zSn (pst (chc (m 11) (m 10) a0) (m 6) (m 7) (m 8) (m 5) (zbt ga2)) (fun _ => 1) ((m 9) a0.toNat) T ga1 ∧ r1 = S.1 a1.toNat - T.1 a1.toNat)) (y0 : m1 70 822 = gb0) (y1 : m1 70 823 = gb1) (q0 : (r2 = -100000 ∧ (a0 < 0 ∨ 3 < a0 ∨ a1 < 0 ∨ gb0 ≤ a1 ∨ a2 < 0 ∨ 99 < a2)) ∨ ((0 ≤ a0 ∧ a0 ≤ 3 ∧ 0 ≤ a1 ∧ a1 < gb0 ∧ 0 ≤ a2 ∧ a2 ≤ 99) ∧ ∃ S T, zRn (psr (cht (m1 70) a0) (fun i => (m1 70) (91 + 6 * i)) (fun i => (m1 70) (92 + 6 * i)) (fun i => (m1 70) (93 + 6 * i)) (fun i => (m1 70) (90 + 6 * i)) (fun i => (m1 70) (94 + 6 * i))) (hsl (fun i => (m1 70) (90 + 6 * i)) (fun i => (m1 70) (91 + 6 * i)) (fun i => (m1 70) (92 + 6 * i)) a2 a1) ((m1 70) (450 + 52 * a0).toNat) S gb1 ∧ zRn (psr (cht (m1 70) a0) (fun i => (m1 70) (91 + 6 * i)) (fun i => (m1 70) (92 + 6 * i)) (fun i => (m1 70) (93 + 6 * i)) (fun i => (m1 70) (90 + 6 * i)) (fun i => (m1 70) (94 + 6 * i))) (fun _ => 1) ((m1 70) (450 + 52 * a0).toNat) T gb1 ∧ r2 = S.1 a1.toNat - T.1 a1.toNat)) (w1 : zNo W1 [70] = true := by rfl) : r1 = r2 := by
  have e70 : m1 70 = m 70 := zNo_eq g1 w1 (by decide)
  have b0 := ib_1_0 hz
  have b1 := ib_1_1 hz
  obtain ⟨hR, hI⟩ := h
  obtain ⟨h0, h1, h2, h3, hA, hB, hC, hD0, hD1, hD2, hD3, hE, hL, hT, hS, hW, hGv, hDb, hZ⟩ := hR
  subst x0
  subst x1
  subst x2
  rw [e70] at y0
  have z0 : gb0 = m 1 0 := by omega
  subst z0
  rw [e70] at y1
  have z1 : gb1 = m 1 1 := by omega
  subst z1
  rw [e70] at q0
  rcases p0 with ⟨a, b⟩ | ⟨a, S, T, b, b2, b3⟩
  · rcases q0 with ⟨d, e⟩ | ⟨d, S2, T2, e, e2, e3⟩
    · omega
    · omega
  · rcases q0 with ⟨d, e⟩ | ⟨d, S2, T2, e, e2, e3⟩
    · omega
    · have hch : cht (m 70) a0 = chc (m 11) (m 10) a0 := cht_c (hL _ (by omega)) (fun j hj => hT _ (by omega) j hj) (ib_10 hz (by omega)).2
      have hv : m 9 a0.toNat = m 70 (450 + 52 * a0).toNat := by rw [show (450 + 52 * a0).toNat = 450 + 52 * a0.toNat by omega]; exact (hE _ (by omega)).symm
      rw [hch] at e e2
      have k1 := zSn_k b e ⟨hv, rfl⟩ (fun i hi => hD1 i (by omega)) (fun i hi => hD2 i (by omega)) (fun i hi => hD3 i (by omega)) (fun i hi => hD0 i (by omega)) (fun i hi => hGv i (by omega)) (fun i hi => hsl_k (hD0 i (by omega)) (hD1 i (by omega)) (hD2 i (by omega))) (fun i hi => by have z := ib_6 hz (k := i) (by omega); omega) (fun i hi => by have z := ib_7 hz (k := i) (by omega); omega) (fun i hi => (ib_5 hz (k := i) (by omega)).1)
      have k2 := zSn_k b2 e2 ⟨hv, rfl⟩ (fun i hi => hD1 i (by omega)) (fun i hi => hD2 i (by omega)) (fun i hi => hD3 i (by omega)) (fun i hi => hD0 i (by omega)) (fun i hi => hGv i (by omega)) (fun _ _ => rfl) (fun i hi => by have z := ib_6 hz (k := i) (by omega); omega) (fun i hi => by have z := ib_7 hz (k := i) (by omega); omega) (fun i hi => (ib_5 hz (k := i) (by omega)).1)
      rw [b3, e3, (k1 a1.toNat (by omega)).1, (k2 a1.toNat (by omega)).1]
theorem zq_bestSystem {W1 : List (Nat × Nat)} {m m1 : zM} {ga0 ga1 gb0 r1 r2 : Int} (hz : zInv m) (h : qK m) (g1 : zFr W1 m m1) (x0 : m 1 1 = ga0) (x1 : m 1 2 = ga1) (p0 : ∃ bm, zBc (fun s => zKcs (chc (m 11) (m 10) s) (pst (chc (m 11) (m 10) s) (m 6) (m 7) (m 8) (m 5) (zbt ga1)) (cft (m 6) (m 7) (m 8) (zbt ga1)) ((m 9) s) ga0) 4 r1 bm) (y0 : m1 70 823 = gb0) (q0 : ∃ bm, zBr2 (fun s => zKr (cht (m1 70) s) (psr (cht (m1 70) s) (fun i => (m1 70) (91 + 6 * i)) (fun i => (m1 70) (92 + 6 * i)) (fun i => (m1 70) (93 + 6 * i)) (fun i => (m1 70) (90 + 6 * i)) (fun i => (m1 70) (94 + 6 * i))) (cft (fun i => (m1 70) (91 + 6 * i)) (fun i => (m1 70) (92 + 6 * i)) (fun i => (m1 70) (93 + 6 * i)) (fun i => (m1 70) (94 + 6 * i))) ((m1 70) (450 + 52 * (s : Int)).toNat) gb0) 4 r2 bm) (w1 : zNo W1 [70] = true := by rfl) : r1 = r2 := by
  have e70 : m1 70 = m 70 := zNo_eq g1 w1 (by decide)
  have b0 := ib_1_0 hz
  have b1 := ib_1_1 hz
  obtain ⟨hR, hI⟩ := h
  obtain ⟨h0, h1, h2, h3, hA, hB, hC, hD0, hD1, hD2, hD3, hE, hL, hT, hS, hW, hGv, hDb, hZ⟩ := hR
  subst x0
  subst x1
  rw [e70] at y0
  have z0 : gb0 = m 1 1 := by omega
  subst z0
  rw [e70] at q0
  obtain ⟨b, hb⟩ := p0
  obtain ⟨c, hc⟩ := q0
  refine zBc_un hb hc (fun i hi x y hx hy => ?_)
  obtain ⟨fl, f, u, S, r, k1, k2, k3⟩ := hx
  obtain ⟨fl2, nm, t, l1, l2⟩ := hy
  have hch : cht (m 70) i = chc (m 11) (m 10) i := cht_c (hL _ (by omega)) (fun j hj => hT _ (by omega) j hj) (ib_10 hz (by omega)).2
  rw [hch] at l1
  have e := zPc_q k1 l1
  subst e
  rcases k3 with ⟨k3, k4⟩ | ⟨k3, k4⟩
  · rcases l2 with ⟨l3, l4⟩ | ⟨l3, l4⟩
    · rw [k4, l4]
    · exact absurd l3 k3
  · rcases l2 with ⟨l3, l4⟩ | ⟨l3, R, l4⟩
    · exact absurd k3 l3
    · rw [hch] at l4
      have hv : m 9 i = m 70 (450 + 52 * (i : Int)).toNat := by rw [show (450 + 52 * (i : Int)).toNat = 450 + 52 * i by omega]; exact (hE _ hi).symm
      rw [k4]
      exact (zAn_k k2 l4 ⟨hv, rfl⟩ (fun i hi => hD1 i (by omega)) (fun i hi => hD2 i (by omega)) (fun i hi => hD3 i (by omega)) (fun i hi => hD0 i (by omega)) (fun i hi => hGv i (by omega)) (fun _ _ => rfl) (fun i hi => by have z := ib_6 hz (k := i) (by omega); omega) (fun i hi => by have z := ib_7 hz (k := i) (by omega); omega) (fun i hi => (ib_5 hz (k := i) (by omega)).1) (fun i P Q hi h => cft_k h (hD1 i (by omega)) (hD2 i (by omega)) (hD3 i (by omega)) (hGv i (by omega)) (by have z := ib_6 hz (k := i) (by omega); omega) (by have z := ib_7 hz (k := i) (by omega); omega))).symm
theorem zq_number {W1 : List (Nat × Nat)} {m m1 : zM} {a0 a1 a2 ga0 ga1 ga2 gb0 gb1 r1 r2 : Int} (hz : zInv m) (h : qK m) (g1 : zFr W1 m m1) (x0 : m 1 0 = ga0) (x1 : m 1 1 = ga1) (x2 : m 1 2 = ga2) (p0 : (r1 = -100000 ∧ (a0 < 0 ∨ 3 < a0 ∨ a1 < 0 ∨ ga0 ≤ a1 ∨ a2 < 0 ∨ ga1 < a2)) ∨ ((0 ≤ a0 ∧ a0 ≤ 3 ∧ 0 ≤ a1 ∧ a1 < ga0 ∧ 0 ≤ a2 ∧ a2 ≤ ga1) ∧ ∃ S, zSn (pst (chc (m 11) (m 10) a0) (m 6) (m 7) (m 8) (m 5) (zbt ga2)) (fun _ => 1) ((m 9) a0.toNat) S a2 ∧ r1 = S.1 a1.toNat)) (y0 : m1 70 822 = gb0) (y1 : m1 70 823 = gb1) (q0 : (r2 = -100000 ∧ (a0 < 0 ∨ 3 < a0 ∨ a1 < 0 ∨ gb0 ≤ a1 ∨ a2 < 0 ∨ gb1 < a2)) ∨ ((0 ≤ a0 ∧ a0 ≤ 3 ∧ 0 ≤ a1 ∧ a1 < gb0 ∧ 0 ≤ a2 ∧ a2 ≤ gb1) ∧ ∃ S, zRn (psr (cht (m1 70) a0) (fun i => (m1 70) (91 + 6 * i)) (fun i => (m1 70) (92 + 6 * i)) (fun i => (m1 70) (93 + 6 * i)) (fun i => (m1 70) (90 + 6 * i)) (fun i => (m1 70) (94 + 6 * i))) (fun _ => 1) ((m1 70) (450 + 52 * a0).toNat) S a2 ∧ r2 = S.1 a1.toNat)) (w1 : zNo W1 [70] = true := by rfl) : r1 = r2 := by
  have e70 : m1 70 = m 70 := zNo_eq g1 w1 (by decide)
  have b0 := ib_1_0 hz
  have b1 := ib_1_1 hz
  obtain ⟨hR, hI⟩ := h
  obtain ⟨h0, h1, h2, h3, hA, hB, hC, hD0, hD1, hD2, hD3, hE, hL, hT, hS, hW, hGv, hDb, hZ⟩ := hR
  subst x0
  subst x1
  subst x2
  rw [e70] at y0
  have z0 : gb0 = m 1 0 := by omega
  subst z0
  rw [e70] at y1
  have z1 : gb1 = m 1 1 := by omega
  subst z1
  rw [e70] at q0
  rcases p0 with ⟨a, b⟩ | ⟨a, S, b, c⟩
  · rcases q0 with ⟨d, e⟩ | ⟨d, R, e, f⟩
    · omega
    · omega
  · rcases q0 with ⟨d, e⟩ | ⟨d, R, e, f⟩
    · omega
    · have hch : cht (m 70) a0 = chc (m 11) (m 10) a0 := cht_c (hL _ (by omega)) (fun j hj => hT _ (by omega) j hj) (ib_10 hz (by omega)).2
      have hv : m 9 a0.toNat = m 70 (450 + 52 * a0).toNat := by rw [show (450 + 52 * a0).toNat = 450 + 52 * a0.toNat by omega]; exact (hE _ (by omega)).symm
      rw [hch] at e
      have k := zSn_k b e ⟨hv, rfl⟩ (fun i hi => hD1 i (by omega)) (fun i hi => hD2 i (by omega)) (fun i hi => hD3 i (by omega)) (fun i hi => hD0 i (by omega)) (fun i hi => hGv i (by omega)) (fun _ _ => rfl) (fun i hi => by have z := ib_6 hz (k := i) (by omega); omega) (fun i hi => by have z := ib_7 hz (k := i) (by omega); omega) (fun i hi => (ib_5 hz (k := i) (by omega)).1)
      rw [c, f]
      exact (k a1.toNat (by omega)).1
