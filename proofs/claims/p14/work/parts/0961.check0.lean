def xRc (M : Nat → Option xMt) (own nm : String) (bb : ByteArray) (q : Nat) (r : Option xRow) : Bool := match r with
  | none => true
  | some row => xChk M own nm bb q row
def xRg (M : Nat → Option xMt) (own nm : String) (bb : ByteArray) (f : Nat → Option xRow) (lo n : Nat) : Bool := (List.range n).all (fun q => xRc M own nm bb (lo + q) (f (lo + q)))
theorem xcat {M : Nat → Option xMt} {own nm : String} {bb : ByteArray} {f : Nat → Option xRow} {a n : Nat} (h1 : ∀ q, q < a → xRc M own nm bb q (f q) = true) (h2 : xRg M own nm bb f a n = true) : ∀ q, q < a + n → xRc M own nm bb q (f q) = true := by
  intro q hq
  by_cases hl : q < a
  · exact h1 q hl
  · have := List.all_eq_true.mp h2 (q - a) (List.mem_range.mpr (by omega))
    rwa [show a + (q - a) = q by omega] at this
theorem xnil {M : Nat → Option xMt} {own nm : String} {bb : ByteArray} {f : Nat → Option xRow} : ∀ q, q < 0 → xRc M own nm bb q (f q) = true := fun q h => absurd h (Nat.not_lt_zero q)
theorem xrows_of {M : Nat → Option xMt} {own nm : String} {bb : ByteArray} {n : Nat} {f : Nat → Option xRow} (h : ∀ q, q < n → xRc M own nm bb q (f q) = true) : ∀ (pc : Nat) (row : xRow), xG n f pc = some row → xChk M own nm bb pc row = true := by
  intro pc row hq
  unfold xG at hq
  cases hl : Nat.blt pc n with
  | false => rw [hl] at hq; cases hq
  | true =>
    rw [hl, cond_true] at hq
    have := h pc (xblt hl)
    rw [hq] at this
    exact this
theorem xAt_of (j : Nat) {w : Jvm.Cond} (h : xAt j w = true) : w ∈ xTb := xAt_ok h
