/-! a cell as a function; counts and bounds of functions -/
def zPt (f : Nat → Int) (k : Nat) (v : Int) : Nat → Int := fun j => if j = k then v else f j
theorem zUp_fn {m : zM} {r k : Nat} {v : Int} {c : Nat} (h : c ≠ r) : zUp m r k v c = m c := funext fun _ => zUp_ne (fun q => h q.1)
theorem zUp_ff {m : zM} {r k : Nat} {v : Int} : zUp m r k v r = zPt (m r) k v := by
  funext j
  by_cases h : j = k
  · subst h
    rw [zUp_eq]
    exact (if_pos rfl).symm
  · rw [zUp_ne (fun q => h q.2)]
    exact (if_neg h).symm
theorem zPt_eq {f : Nat → Int} {k : Nat} {v : Int} : zPt f k v k = v := if_pos rfl
theorem zPt_ne {f : Nat → Int} {k j : Nat} {v : Int} (h : j ≠ k) : zPt f k v j = f j := if_neg h
/-! signs below 1000, and brackets, among the first n -/
def cB (f : Nat → Int) : Nat → Int
  | 0 => 0
  | n + 1 => cB f n + (if f n < 1000 then 1 else 0)
def cP (f : Nat → Int) : Nat → Int
  | 0 => 0
  | n + 1 => cP f n + (if f n = 1000 then 1 else 0)
theorem zcb (f : Nat → Int) (n k : Nat) (h : k = n + 1) : (f n < 1000 ∧ cB f k = cB f n + 1 ∧ cP f k = cP f n) ∨ (f n = 1000 ∧ cB f k = cB f n ∧ cP f k = cP f n + 1) ∨ (1000 < f n ∧ cB f k = cB f n ∧ cP f k = cP f n) := by
  subst h
  have e1 : cB f (n + 1) = cB f n + (if f n < 1000 then 1 else 0) := rfl
  have e2 : cP f (n + 1) = cP f n + (if f n = 1000 then 1 else 0) := rfl
  rw [e1, e2]
  by_cases h1 : f n < 1000
  · rw [if_pos h1, if_neg (by omega)]
    exact Or.inl ⟨h1, rfl, by omega⟩
  · rw [if_neg h1]
    by_cases h2 : f n = 1000
    · rw [if_pos h2]
      exact Or.inr (Or.inl ⟨h2, by omega, rfl⟩)
    · rw [if_neg h2]
      exact Or.inr (Or.inr ⟨by omega, by omega, by omega⟩)
theorem zcd (f : Nat → Int) (n k : Nat) : k ≠ n + 1 ∨ (f n < 1000 ∧ cB f k = cB f n + 1 ∧ cP f k = cP f n) ∨ (f n = 1000 ∧ cB f k = cB f n ∧ cP f k = cP f n + 1) ∨ (1000 < f n ∧ cB f k = cB f n ∧ cP f k = cP f n) := by
  by_cases h : k = n + 1
  · exact Or.inr (zcb f n k h)
  · exact Or.inl h
theorem cB_nn (f : Nat → Int) (n : Nat) : (0 ≤ cB f n ∧ cB f n ≤ n) ∧ 0 ≤ cP f n ∧ cP f n ≤ n := by
  induction n with
  | zero => exact ⟨⟨Int.le_refl _, Int.le_refl _⟩, Int.le_refl _, Int.le_refl _⟩
  | succ n ih =>
    have h := zcb f n (n + 1) rfl
    omega
theorem cB_pt {f : Nat → Int} {k n : Nat} {v : Int} (h : n ≤ k) : cB (zPt f k v) n = cB f n ∧ cP (zPt f k v) n = cP f n := by
  induction n with
  | zero => exact ⟨rfl, rfl⟩
  | succ n ih =>
    obtain ⟨h1, h2⟩ := ih (by omega)
    have e : zPt f k v n = f n := zPt_ne (by omega)
    have a := zcb f n (n + 1) rfl
    have b := zcb (zPt f k v) n (n + 1) rfl
    rw [e, h1, h2] at b
    omega
theorem zcp (f : Nat → Int) (k n : Nat) (v : Int) (h : n = k + 1) : (v < 1000 ∧ cB (zPt f k v) n = cB f k + 1 ∧ cP (zPt f k v) n = cP f k) ∨ (v = 1000 ∧ cB (zPt f k v) n = cB f k ∧ cP (zPt f k v) n = cP f k + 1) ∨ (1000 < v ∧ cB (zPt f k v) n = cB f k ∧ cP (zPt f k v) n = cP f k) := by
  have b := zcb (zPt f k v) k n h
  obtain ⟨h1, h2⟩ := cB_pt (f := f) (k := k) (v := v) (Nat.le_refl k)
  rw [zPt_eq, h1, h2] at b
  exact b
/-! a player met in a year, among the first n meetings -/
def hmv (f : Nat → Int) (p y : Int) : Nat → Int
  | 0 => 0
  | n + 1 => if hmv f p y n = 1 ∨ (f (90 + 6 * n) = y ∧ (f (91 + 6 * n) = p ∨ f (92 + 6 * n) = p)) then 1 else 0
theorem zhm (f : Nat → Int) (p y : Int) (n k k0 k1 k2 : Nat) (h : k = n + 1) (h0 : k0 = 90 + 6 * n) (h1 : k1 = 91 + 6 * n) (h2 : k2 = 92 + 6 * n) : (hmv f p y k = 1 ∧ (hmv f p y n = 1 ∨ (f k0 = y ∧ (f k1 = p ∨ f k2 = p)))) ∨ (hmv f p y k = 0 ∧ hmv f p y n ≠ 1 ∧ ¬ (f k0 = y ∧ (f k1 = p ∨ f k2 = p))) := by
  subst h h0 h1 h2
  have e : hmv f p y (n + 1) = if hmv f p y n = 1 ∨ (f (90 + 6 * n) = y ∧ (f (91 + 6 * n) = p ∨ f (92 + 6 * n) = p)) then 1 else 0 := rfl
  rw [e]
  by_cases hc : hmv f p y n = 1 ∨ (f (90 + 6 * n) = y ∧ (f (91 + 6 * n) = p ∨ f (92 + 6 * n) = p))
  · rw [if_pos hc]
    exact Or.inl ⟨rfl, hc⟩
  · rw [if_neg hc]
    exact Or.inr ⟨rfl, fun q => hc (Or.inl q), fun q => hc (Or.inr q)⟩
theorem zcgh (f : Nat → Int) (a b y : Int) (n : Nat) : a ≠ b ∨ hmv f a y n = hmv f b y n := by
  by_cases h : a = b
  · exact Or.inr (by rw [h])
  · exact Or.inl h
/-! all alike up to a place; years told of each player -/
def zFil (f : Nat → Int) (n v : Int) : Prop := ∀ j : Nat, (j : Int) < n → f j = v
theorem zFil_0 {f : Nat → Int} {v : Int} : zFil f 0 v := fun j h => by omega
theorem zFil_put {f : Nat → Int} {n v : Int} (h : zFil f n v) (h0 : 0 ≤ n) : zFil (zPt f n.toNat v) (n + 1) v := by
  intro j hj
  by_cases e : j = n.toNat
  · rw [e, zPt_eq]
  · rw [zPt_ne e]
    exact h j (by omega)
theorem zFil_le {f : Nat → Int} {n k v : Int} (h : zFil f n v) (h0 : k ≤ n) : zFil f k v := fun j hj => h j (by omega)
def zY (f : Nat → Int) (p g : Int) : Prop := ∀ j : Nat, j < 10 → f j ≤ g ∨ ((j : Int) < p ∧ f j ≤ g + 1)
theorem zY_at {f : Nat → Int} {p g : Int} (h : zY f p g) (h0 : 0 ≤ p) (h1 : p < 10) : f p.toNat ≤ g := by
  have := h p.toNat (by omega)
  omega
theorem zY_put {f : Nat → Int} {p g v : Int} (h : zY f p g) (h0 : 0 ≤ p) (hv : v ≤ g + 1) : zY (zPt f p.toNat v) (p + 1) g := by
  intro j hj
  by_cases e : j = p.toNat
  · rw [e, zPt_eq]
    exact Or.inr ⟨by omega, hv⟩
  · rw [zPt_ne e]
    have := h j hj
    omega
theorem zY_mono {f : Nat → Int} {p q g : Int} (h : zY f p g) (hq : p ≤ q) : zY f q g := fun j hj => by
  have := h j hj
  omega
theorem zY_next {f : Nat → Int} {p g : Int} (h : zY f p g) : zY f 0 (g + 1) := fun j hj => by
  have := h j hj
  omega
theorem zY_fil {f : Nat → Int} (h : zFil f 10 0) : zY f 0 0 := fun j hj => by
  have := h j (by omega)
  omega
/-- the place of a name -/
def nmv (c : Int) : Int := if c = 120 then 0 else if c = 111 then 1 else if c = 101 then 2 else if c = 109 then 3 else if c = 121 then 4 else if c = 103 then 5 else -1
theorem zcw (f : Nat → Int) (n k : Nat) (h : k = n + 1) : (cB f n ≤ cB f k ∧ cB f k ≤ cB f n + 1) ∧ cP f n ≤ cP f k ∧ cP f k ≤ cP f n + 1 := by
  have := zcb f n k h
  omega
theorem zcp_u (f : Nat → Int) (k n : Nat) (v : Int) (h : n = k + 1) (hv : 1000 < v) : cB (zPt f k v) n = cB f k ∧ cP (zPt f k v) n = cP f k := by
  have := zcp f k n v h
  omega
theorem zcp_b (f : Nat → Int) (k n : Nat) (v : Int) (h : n = k + 1) (hv : v = 1000) : cB (zPt f k v) n = cB f k ∧ cP (zPt f k v) n = cP f k + 1 := by
  have := zcp f k n v h
  omega
theorem zcp_s (f : Nat → Int) (k n : Nat) (v : Int) (h : n = k + 1) (hv : v < 1000) : cB (zPt f k v) n = cB f k + 1 ∧ cP (zPt f k v) n = cP f k := by
  have := zcp f k n v h
  omega
