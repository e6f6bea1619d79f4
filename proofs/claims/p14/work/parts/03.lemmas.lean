/-! what the executor's helpers are -/
theorem xF_eq {α : Type} (n : Nat) (k : Nat → α) : xF n k = k n := by cases n <;> rfl
theorem xGet_eq (l : List Nat) : ∀ i, xGet l i = l.getD i 0 := by
  induction l with
  | nil => intro i; simp [xGet]
  | cons a t ih =>
    intro i
    cases i with
    | zero => rfl
    | succ j =>
      show xGet t j = _
      rw [ih j]
      simp
theorem xGet_some {l : List Nat} {i c : Nat} (h : xGet l i = c) (h0 : c ≠ 0) : l[i]? = some c := by
  rw [xGet_eq, List.getD_eq_getElem?_getD] at h
  cases hq : l[i]? with
  | none => rw [hq] at h; exact absurd h.symm h0
  | some a => rw [hq] at h; simp at h; rw [h]
theorem xGet_lt {l : List Nat} {i : Nat} (h : i < l.length) : l[i]? = some (xGet l i) := by
  rw [xGet_eq, List.getD_eq_getElem?_getD, List.getElem?_eq_getElem h]; rfl
theorem xSet_eq {α : Type} (l : List Nat) : ∀ (i v : Nat) (k : List Nat → α), xSet l i v k = k (l.set i v) := by
  induction l with
  | nil => intro i v k; rfl
  | cons a t ih =>
    intro i v k
    cases i with
    | zero => rfl
    | succ j =>
      show xSet t j v (fun t' => k (a :: t')) = _
      rw [ih]
      rfl
theorem xSnoc_eq {α : Type} (l : List Nat) (c : Nat) : ∀ (k : List Nat → α), xSnoc l c k = k (l ++ [c]) := by
  induction l with
  | nil => intro k; rfl
  | cons a t ih =>
    intro k
    show xSnoc t c (fun t' => k (a :: t')) = _
    rw [ih]
    rfl
theorem xLen_eq (l : List Nat) : xLen l = l.length := by
  induction l with
  | nil => rfl
  | cons a t ih => show Nat.succ (xLen t) = _; rw [ih]; rfl
theorem xTk_eq (n : Nat) : ∀ (S acc : List Nat) (k : List Nat → List Nat → xRes) (o : List xOut), xTk n S acc k none = some o → ∃ bs r, S = bs ++ r ∧ bs.length = n ∧ k (bs.reverse ++ acc) r = some o := by
  induction n with
  | zero => intro S acc k o h; exact ⟨[], S, rfl, rfl, h⟩
  | succ n ih =>
    intro S acc k o h
    cases S with
    | nil => exact absurd h (by intro q; cases q)
    | cons a t =>
      obtain ⟨bs, r, h1, h2, h3⟩ := ih t (a :: acc) k o h
      exact ⟨a :: bs, r, by rw [h1]; rfl, by simp [h2], by simpa using h3⟩
theorem xPad_eq {α : Type} (n : Nat) : ∀ (k : List Nat → α), xPad n k = k (List.replicate n 11) := by
  induction n with
  | zero => intro k; rfl
  | succ n ih =>
    intro k
    show xPad n (fun t => k (11 :: t)) = _
    rw [ih]
    rfl
def xEntL : List Nat → Nat → List Nat
  | [], n => List.replicate n 11
  | a :: t, n => bif xIsL a then a :: 11 :: xEntL t (n - 2) else a :: xEntL t (n - 1)
theorem xEnt_eq {α : Type} (as : List Nat) : ∀ (n : Nat) (k : List Nat → α), xEnt as n k = k (xEntL as n) := by
  induction as with
  | nil => intro n k; exact xPad_eq n k
  | cons a t ih =>
    intro n k
    show (bif xIsL a then xEnt t (n - 2) (fun t => k (a :: 11 :: t)) else xEnt t (n - 1) (fun t => k (a :: t))) = k (bif xIsL a then _ else _)
    cases xIsL a
    · exact ih _ _
    · exact ih _ _
theorem xCats_cons (a : Nat) (t : List Nat) : xCats (a :: t) = xCat a + xCats t := rfl
theorem xApp_some {a b : xRes} {o : List xOut} (h : xApp a b = some o) : ∃ x y, a = some x ∧ b = some y ∧ o = x ++ y := by
  unfold xApp at h
  cases a with
  | none => cases h
  | some x =>
    cases b with
    | none => cases h
    | some y => exact ⟨x, y, rfl, rfl, (Option.some.inj h).symm⟩
theorem xOuts_mem {l : List xOut} {f : xOut → xRes} {o : List xOut} (h : xOuts l f = some o) {q : xOut} (hq : q ∈ l) : ∃ x, f q = some x ∧ ∀ y ∈ x, y ∈ o := by
  have key : ∀ (l : List xOut) (o : List xOut), List.rec (motive := fun _ => xRes) (some []) (fun a _ ih => xApp (f a) ih) l = some o → ∀ q ∈ l, ∃ x, f q = some x ∧ ∀ y ∈ x, y ∈ o := by
    intro l
    induction l with
    | nil => intro o _ q hq; cases hq
    | cons a t ih =>
      intro o h q hq
      obtain ⟨x, y, h1, h2, h3⟩ := xApp_some h
      subst h3
      rcases List.mem_cons.mp hq with rfl | hq
      · exact ⟨x, h1, fun z hz => List.mem_append_left _ hz⟩
      · obtain ⟨x', h4, h5⟩ := ih y h2 q hq
        exact ⟨x', h4, fun z hz => List.mem_append_right _ (h5 z hz)⟩
  cases l with
  | nil => cases hq
  | cons a t =>
    cases t with
    | nil =>
      rcases List.mem_cons.mp hq with rfl | hq
      · exact ⟨o, h, fun _ hz => hz⟩
      · cases hq
    | cons a2 t2 => exact key _ o h q hq
/-! digits -/
theorem xPn_form (c i n v : Nat) : ∃ r q : Nat, r < 2 ^ (64 + 72 * i) ∧ c = r + 2 ^ (64 + 72 * i) * (xDn c i n + 2 ^ (72 * n) * q) ∧ xPn c i n v = r + 2 ^ (64 + 72 * i) * (v + 2 ^ (72 * n) * q) := by
  have hP : 0 < 2 ^ (64 + 72 * i) := Nat.two_pow_pos _
  generalize hp : 2 ^ (64 + 72 * i) = P at hP
  generalize hB : 2 ^ (72 * n) = B
  have h1 : c = c % P + P * (xDn c i n + B * (c / P / B)) := by
    have e1 := Nat.mod_add_div c P
    have e2 := Nat.mod_add_div (c / P) B
    unfold xDn
    rw [hp, hB, e2]
    exact e1.symm
  refine ⟨c % P, c / P / B, Nat.mod_lt _ hP, h1, ?_⟩
  unfold xPn
  rw [hp]
  generalize xDn c i n = d at h1 ⊢
  generalize c / P / B = q at h1 ⊢
  generalize c % P = r at h1 ⊢
  subst h1
  rw [Nat.mul_comm d P, Nat.mul_comm v P, Nat.mul_add, Nat.mul_add]
  omega
theorem xD_low {r x i j : Nat} (h : j < i) : xDn (r + 2 ^ (64 + 72 * i) * x) j 1 = xDn r j 1 := by
  have e : 2 ^ (64 + 72 * i) = 2 ^ (64 + 72 * j) * (2 ^ (72 * 1) * 2 ^ (72 * (i - j - 1))) := by
    rw [← Nat.pow_add, ← Nat.pow_add]
    congr 1
    omega
  unfold xDn
  rw [e, Nat.mul_assoc, Nat.add_mul_div_left _ _ (Nat.two_pow_pos _), Nat.mul_assoc, Nat.add_mul_mod_self_left]
theorem xD_high {r x i j : Nat} (hr : r < 2 ^ (64 + 72 * i)) (h : i ≤ j) : xDn (r + 2 ^ (64 + 72 * i) * x) j 1 = x / 2 ^ (72 * (j - i)) % 2 ^ 72 := by
  have e : 2 ^ (64 + 72 * j) = 2 ^ (64 + 72 * i) * 2 ^ (72 * (j - i)) := by
    rw [← Nat.pow_add]
    congr 1
    omega
  unfold xDn
  rw [e, ← Nat.div_div_eq_div_mul, Nat.add_mul_div_left _ _ (Nat.two_pow_pos _), Nat.div_eq_of_lt hr, Nat.zero_add]
theorem xPn_dig {c i n v : Nat} (hv : v < 2 ^ (72 * n)) (j : Nat) : xDn (xPn c i n v) j 1 = if i ≤ j ∧ j < i + n then v / 2 ^ (72 * (j - i)) % 2 ^ 72 else xDn c j 1 := by
  obtain ⟨r, q, hr, h1, h2⟩ := xPn_form c i n v
  have hd : xDn c i n < 2 ^ (72 * n) := Nat.mod_lt _ (Nat.two_pow_pos _)
  rw [h2]
  conv => rhs; rw [h1]
  by_cases hj : j < i
  · rw [if_neg (by omega), xD_low hj, xD_low hj]
  · rw [xD_high hr (by omega), xD_high hr (by omega)]
    by_cases hj2 : j < i + n
    · rw [if_pos ⟨by omega, hj2⟩]
      have e : 2 ^ (72 * n) = 2 ^ (72 * (j - i)) * (2 ^ 72 * 2 ^ (72 * (n - 1 - (j - i)))) := by
        rw [← Nat.pow_add, ← Nat.pow_add]
        congr 1
        omega
      rw [e, Nat.mul_assoc, Nat.add_mul_div_left _ _ (Nat.two_pow_pos _), Nat.mul_assoc, Nat.add_mul_mod_self_left]
    · rw [if_neg (by omega)]
      have e : 2 ^ (72 * (j - i)) = 2 ^ (72 * n) * 2 ^ (72 * (j - i - n)) := by
        rw [← Nat.pow_add]
        congr 1
        omega
      rw [e, ← Nat.div_div_eq_div_mul, ← Nat.div_div_eq_div_mul, Nat.add_mul_div_left _ _ (Nat.two_pow_pos _), Nat.add_mul_div_left _ _ (Nat.two_pow_pos _), Nat.div_eq_of_lt hv, Nat.div_eq_of_lt hd]
theorem xPn_one {c i v : Nat} (hv : v < 4722366482869645213696) (j : Nat) : xDn (xPn c i 1 v) j 1 = if j = i then v else xDn c j 1 := by
  have hv' : v < 2 ^ (72 * 1) := hv
  rw [xPn_dig hv']
  by_cases hj : j = i
  · subst hj
    rw [if_pos ⟨by omega, by omega⟩, if_pos rfl, Nat.sub_self, Nat.mul_zero, Nat.pow_zero, Nat.div_one]
    exact Nat.mod_eq_of_lt hv
  · rw [if_neg (by omega), if_neg hj]
theorem xPn_hdr (c i n v : Nat) : xPn c i n v % 18446744073709551616 = c % 18446744073709551616 := by
  obtain ⟨r, q, hr, h1, h2⟩ := xPn_form c i n v
  rw [h2]
  conv => rhs; rw [h1]
  have e : 2 ^ (64 + 72 * i) = 18446744073709551616 * 2 ^ (72 * i) := by rw [Nat.pow_add]
  rw [e, Nat.mul_assoc, Nat.mul_assoc, Nat.add_mul_mod_self_left, Nat.add_mul_mod_self_left]
theorem x8 (c : Nat) : c % 18446744073709551616 % 8 = c % 8 := Nat.mod_mod_of_dvd c ⟨2305843009213693952, rfl⟩
theorem x2 (c : Nat) : c % 8 % 2 = c % 2 := Nat.mod_mod_of_dvd c ⟨4, rfl⟩
theorem xPn_8 (c i n v : Nat) : xPn c i n v % 8 = c % 8 := by rw [← x8, xPn_hdr, x8]
theorem xDn_sub {c s n j : Nat} (h : j < n) : xDn c s n / 2 ^ (72 * j) % 2 ^ 72 = xDn c (s + j) 1 := by
  have e : 2 ^ (72 * n) = 2 ^ (72 * j) * (2 ^ 72 * 2 ^ (72 * (n - 1 - j))) := by
    rw [← Nat.pow_add, ← Nat.pow_add]
    congr 1
    omega
  have e2 : 2 ^ (64 + 72 * (s + j)) = 2 ^ (64 + 72 * s) * 2 ^ (72 * j) := by
    rw [← Nat.pow_add]
    congr 1
    omega
  unfold xDn
  rw [e, Nat.mod_mul_right_div_self, Nat.mod_mul_right_mod, e2, ← Nat.div_div_eq_div_mul]
theorem xDn_small {c j : Nat} (h : c < 18446744073709551616) : xDn c j 1 = 0 := by
  unfold xDn
  rw [Nat.div_eq_of_lt (Nat.lt_of_lt_of_le h (Nat.pow_le_pow_right (n := 2) (by decide) (show 64 ≤ 64 + 72 * j by omega)))]
/-! numbers -/
theorem xnI_mod (n : Nat) : nI (n % 4294967296) = nI n := by
  unfold nI
  apply Int32.toBitVec_inj.mp
  show BitVec.ofNat 32 (n % 2 ^ 32) = BitVec.ofNat 32 n
  apply BitVec.eq_of_toNat_eq
  rw [BitVec.toNat_ofNat, BitVec.toNat_ofNat, Nat.mod_mod]
theorem xlN_mod (n : Nat) : lN (n % 18446744073709551616) = lN n := by
  unfold lN
  apply Int64.toBitVec_inj.mp
  show BitVec.ofNat 64 (n % 2 ^ 64) = BitVec.ofNat 64 n
  apply BitVec.eq_of_toNat_eq
  rw [BitVec.toNat_ofNat, BitVec.toNat_ofNat, Nat.mod_mod]
theorem xN32_eq (x : Int32) : nI (xN32 x) = x := by
  unfold nI xN32
  apply Int32.toBitVec_inj.mp
  simp [Int32.toBitVec_ofNat]
theorem xN64_eq (x : Int64) : lN (xN64 x) = x := by
  unfold lN xN64
  apply Int64.toBitVec_inj.mp
  simp [Int64.toBitVec_ofNat]
theorem xs32_eq (u : Nat) : (nI u).toInt = xs32 u := by
  unfold nI xs32 xb32
  rw [Int32.toInt_ofNat', Int.bmod]
  have e : (Int32.size : Int) = 4294967296 := rfl
  rw [e]
  split <;> omega
theorem xs64_eq (u : Nat) : (lN u).toInt = xs64 u := by
  unfold lN xs64 xb64
  rw [Int64.toInt_ofNat', Int.bmod]
  have e : (Int64.size : Int) = 18446744073709551616 := rfl
  rw [e]
  split <;> omega
theorem xsub_eq (x y : Nat) : nI ((x + 4294967296 - y % 4294967296) % 4294967296) = nI x - nI y := by
  rw [xnI_mod]
  have h1 : nI (x + 4294967296 - y % 4294967296) + nI y = nI x := by
    rw [← xnI_mod y, nI_add]
    have hy := Nat.mod_lt y (show 0 < 4294967296 by decide)
    rw [show x + 4294967296 - y % 4294967296 + y % 4294967296 = x + 4294967296 by omega, ← xnI_mod (x + 4294967296), Nat.add_mod_right, xnI_mod]
  rw [← h1]
  simp
theorem xCI_eq (v : Int32) : nI (xCI v.toInt / 8) = v := by
  unfold xCI
  rw [Nat.mul_div_cancel _ (by decide)]
  apply Int32.toInt_inj.mp
  rw [xs32_eq]
  unfold xs32 xb32
  have h1 := v.le_toInt
  have h2 := v.toInt_lt
  omega
theorem xCI_tag (v : Int) : xCI v % 8 = 0 := Nat.mul_mod_left _ _
