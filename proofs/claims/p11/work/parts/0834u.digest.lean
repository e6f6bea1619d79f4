/-! one more number into the digest -/
def hst (h v : Int) : Int := Ladd (Lmul 31 h) v
def hsf (f : Nat → Int) (h : Int) : Nat → Int
  | 0 => h
  | n + 1 => hst (hsf f h n) (f n)
theorem hsf_s {f : Nat → Int} {h : Int} {n k : Nat} (hk : k = n + 1) : hsf f h k = hst (hsf f h n) (f n) := by
  subst hk
  rfl
theorem hst_e {s x y v : Int} (hx : x = Lmul 31 s) (hy : y = Ladd x v) : y = hst s v := by
  rw [hy, hx]
  rfl
theorem hsf_t {f : Nat → Int} {h s y v i i1 : Int} (e : s = hsf f h i.toNat) (hy : y = hst s v) (hv : v = f i.toNat) (hi : 0 ≤ i ∧ i1 = i + 1) : y = hsf f h i1.toNat := by
  rw [hsf_s (n := i.toNat) (by omega), ← e, ← hv, hy]
theorem hsf_cg {f g : Nat → Int} {h : Int} {n : Nat} (hf : ∀ i, i < n → f i = g i) : hsf f h n = hsf g h n := by
  induction n with
  | zero => rfl
  | succ n ih => rw [hsf_s rfl, hsf_s rfl, ih (fun i hi => hf i (by omega)), hf n (by omega)]
theorem hsf_add (f : Nat → Int) (h : Int) (a b : Nat) : hsf f h (a + b) = hsf (fun i => f (a + i)) (hsf f h a) b := by
  induction b with
  | zero => rfl
  | succ b ih =>
    show hst (hsf f h (a + b)) (f (a + b)) = hst (hsf (fun i => f (a + i)) (hsf f h a) b) (f (a + b))
    rw [ih]
/-! players -/
def hpf (F3 F4 : Nat → Int) (p : Nat) : Nat → Int := fun k => if k % 2 = 0 then F3 (p * 4 + k / 2) else F4 (p * 4 + k / 2)
def hpl (F2 F3 F4 : Nat → Int) (h : Int) : Nat → Int
  | 0 => h
  | p + 1 => hsf (hpf F3 F4 p) (hst (hpl F2 F3 F4 h p) (F2 p)) 8
theorem hpl_s {F2 F3 F4 : Nat → Int} {h i i1 s0 s1 s2 s3 s4 s5 s6 s7 s8 s9 v1 v2 v3 v4 v5 v6 v7 v8 v9 : Int} (e : s0 = hpl F2 F3 F4 h i.toNat) (h1 : s1 = hst s0 v1) (h2 : s2 = hst s1 v2) (h3 : s3 = hst s2 v3) (h4 : s4 = hst s3 v4) (h5 : s5 = hst s4 v5) (h6 : s6 = hst s5 v6) (h7 : s7 = hst s6 v7) (h8 : s8 = hst s7 v8) (h9 : s9 = hst s8 v9) (q1 : v1 = F2 i.toNat) (q2 : v2 = F3 (i.toNat * 4)) (q3 : v3 = F4 (i.toNat * 4)) (q4 : v4 = F3 (i.toNat * 4 + 1)) (q5 : v5 = F4 (i.toNat * 4 + 1)) (q6 : v6 = F3 (i.toNat * 4 + 2)) (q7 : v7 = F4 (i.toNat * 4 + 2)) (q8 : v8 = F3 (i.toNat * 4 + 3)) (q9 : v9 = F4 (i.toNat * 4 + 3)) (hi : 0 ≤ i ∧ i1 = i + 1) : s9 = hpl F2 F3 F4 h i1.toNat := by
  rw [show i1.toNat = i.toNat + 1 by omega]
  show s9 = hst (hst (hst (hst (hst (hst (hst (hst (hst (hpl F2 F3 F4 h i.toNat) (F2 i.toNat)) (F3 (i.toNat * 4))) (F4 (i.toNat * 4))) (F3 (i.toNat * 4 + 1))) (F4 (i.toNat * 4 + 1))) (F3 (i.toNat * 4 + 2))) (F4 (i.toNat * 4 + 2))) (F3 (i.toNat * 4 + 3))) (F4 (i.toNat * 4 + 3))
  rw [← e, ← q1, ← q2, ← q3, ← q4, ← q5, ← q6, ← q7, ← q8, ← q9, h9, h8, h7, h6, h5, h4, h3, h2, h1]
def hpr (F : Nat → Int) (h : Int) : Nat → Int
  | 0 => h
  | p + 1 => hsf (fun k => F (10 + 8 * p + k)) (hst (hpr F h p) (F p)) 8
theorem hpr_s {F : Nat → Int} {h i i1 s0 s1 s2 v1 : Int} (e : s0 = hpr F h i.toNat) (h1 : s1 = hst s0 v1) (q1 : v1 = F i.toNat) (h2 : s2 = hsf (fun k => F ((10 + 8 * i).toNat + k)) s1 8) (hi : 0 ≤ i ∧ i1 = i + 1) : s2 = hpr F h i1.toNat := by
  rw [show i1.toNat = i.toNat + 1 by omega]
  show s2 = hsf (fun k => F (10 + 8 * i.toNat + k)) (hst (hpr F h i.toNat) (F i.toNat)) 8
  rw [← e, ← q1, ← h1, h2, show (10 + 8 * i).toNat = 10 + 8 * i.toNat by omega]
theorem hpl_r {F2 F3 F4 F : Nat → Int} {h : Int} {n : Nat} (h2 : ∀ i, i < n → F i = F2 i) (h3 : ∀ i, i < n * 4 → F (10 + 2 * i) = F3 i) (h4 : ∀ i, i < n * 4 → F (11 + 2 * i) = F4 i) : hpr F h n = hpl F2 F3 F4 h n := by
  induction n with
  | zero => rfl
  | succ n ih =>
    show hsf (fun k => F (10 + 8 * n + k)) (hst (hpr F h n) (F n)) 8 = hsf (hpf F3 F4 n) (hst (hpl F2 F3 F4 h n) (F2 n)) 8
    rw [ih (fun i hi => h2 i (by omega)) (fun i hi => h3 i (by omega)) (fun i hi => h4 i (by omega)), h2 n (by omega)]
    refine hsf_cg (fun k hk => ?_)
    show F (10 + 8 * n + k) = if k % 2 = 0 then F3 (n * 4 + k / 2) else F4 (n * 4 + k / 2)
    by_cases c : k % 2 = 0
    · rw [if_pos c, ← h3 (n * 4 + k / 2) (by omega)]
      exact congrArg F (by omega)
    · rw [if_neg c, ← h4 (n * 4 + k / 2) (by omega)]
      exact congrArg F (by omega)
/-! meetings -/
def hmt (Y A B E : Nat → Int) (v w h : Int) : Nat → Int
  | 0 => h
  | i + 1 => hst (hst (hst (hst (hst (hst (hmt Y A B E v w h i) (Y i)) (A i)) (B i)) (E i)) (zbt v i)) (zbt w i)
theorem hmt_s {Y A B E : Nat → Int} {v w h i i1 s0 s1 s2 s3 s4 s5 s6 v1 v2 v3 v4 v5 v6 : Int} (e : s0 = hmt Y A B E v w h i.toNat) (h1 : s1 = hst s0 v1) (h2 : s2 = hst s1 v2) (h3 : s3 = hst s2 v3) (h4 : s4 = hst s3 v4) (h5 : s5 = hst s4 v5) (h6 : s6 = hst s5 v6) (q1 : v1 = Y i.toNat) (q2 : v2 = A i.toNat) (q3 : v3 = B i.toNat) (q4 : v4 = E i.toNat) (q5 : v5 = zbt v i.toNat) (q6 : v6 = zbt w i.toNat) (hi : 0 ≤ i ∧ i1 = i + 1) : s6 = hmt Y A B E v w h i1.toNat := by
  rw [show i1.toNat = i.toNat + 1 by omega]
  show s6 = hst (hst (hst (hst (hst (hst (hmt Y A B E v w h i.toNat) (Y i.toNat)) (A i.toNat)) (B i.toNat)) (E i.toNat)) (zbt v i.toNat)) (zbt w i.toNat)
  rw [← e, ← q1, ← q2, ← q3, ← q4, ← q5, ← q6, h6, h5, h4, h3, h2, h1]
theorem hmt_r {Y A B E F : Nat → Int} {v w h : Int} {n : Nat} (h0 : ∀ i, i < n → F (90 + 6 * i) = Y i) (h1 : ∀ i, i < n → F (91 + 6 * i) = A i) (h2 : ∀ i, i < n → F (92 + 6 * i) = B i) (h3 : ∀ i, i < n → F (93 + 6 * i) = E i) (h4 : ∀ i, i < n → F (94 + 6 * i) = zbt v i) (h5 : ∀ i, i < n → F (95 + 6 * i) = zbt w i) : hsf (fun k => F (90 + k)) h (6 * n) = hmt Y A B E v w h n := by
  induction n with
  | zero => rfl
  | succ n ih =>
    show hst (hst (hst (hst (hst (hst (hsf (fun k => F (90 + k)) h (6 * n)) (F (90 + 6 * n))) (F (90 + (6 * n + 1)))) (F (90 + (6 * n + 2)))) (F (90 + (6 * n + 3)))) (F (90 + (6 * n + 4)))) (F (90 + (6 * n + 5))) = hst (hst (hst (hst (hst (hst (hmt Y A B E v w h n) (Y n)) (A n)) (B n)) (E n)) (zbt v n)) (zbt w n)
    rw [ih (fun i hi => h0 i (by omega)) (fun i hi => h1 i (by omega)) (fun i hi => h2 i (by omega)) (fun i hi => h3 i (by omega)) (fun i hi => h4 i (by omega)) (fun i hi => h5 i (by omega)), h0 n (by omega), show 90 + (6 * n + 1) = 91 + 6 * n by omega, h1 n (by omega), show 90 + (6 * n + 2) = 92 + 6 * n by omega, h2 n (by omega), show 90 + (6 * n + 3) = 93 + 6 * n by omega, h3 n (by omega), show 90 + (6 * n + 4) = 94 + 6 * n by omega, h4 n (by omega), show 90 + (6 * n + 5) = 95 + 6 * n by omega, h5 n (by omega)]
/-! systems -/
def hsy (F9 F10 F11 : Nat → Int) (h : Int) : Nat → Int
  | 0 => h
  | s + 1 => hsf (fun i => F11 (s * 50 + i)) (hst (hst (hsy F9 F10 F11 h s) (F9 s)) (F10 s)) (F10 s).toNat
theorem hsy_s {F9 F10 F11 : Nat → Int} {h i i1 j s : Int} (e : s = hsf (fun k => F11 (i.toNat * 50 + k)) (hst (hst (hsy F9 F10 F11 h i.toNat) (F9 i.toNat)) (F10 i.toNat)) j.toNat) (hj : j.toNat = (F10 i.toNat).toNat) (hi : 0 ≤ i ∧ i1 = i + 1) : s = hsy F9 F10 F11 h i1.toNat := by
  rw [show i1.toNat = i.toNat + 1 by omega, e, hj]
  rfl
def hsr (F : Nat → Int) (h : Int) : Nat → Int
  | 0 => h
  | s + 1 => hsf (fun k => F (450 + 52 * s + k)) (hsr F h s) (2 + F (451 + 52 * s)).toNat
theorem hsr_s {F : Nat → Int} {h i i1 s0 s1 n l : Int} (e : s0 = hsr F h i.toNat) (h1 : s1 = hsf (fun k => F ((450 + 52 * i).toNat + k)) s0 n.toNat) (hn : n = 2 + l ∧ l = F (451 + 52 * i.toNat)) (hi : 0 ≤ i ∧ i1 = i + 1) : s1 = hsr F h i1.toNat := by
  rw [show i1.toNat = i.toNat + 1 by omega]
  show s1 = hsf (fun k => F (450 + 52 * i.toNat + k)) (hsr F h i.toNat) (2 + F (451 + 52 * i.toNat)).toNat
  rw [← e, h1, hn.1, hn.2, show (450 + 52 * i).toNat = 450 + 52 * i.toNat by omega]
theorem hsy_r {F9 F10 F11 F : Nat → Int} {h : Int} {n : Nat} (h9 : ∀ i, i < n → F (450 + 52 * i) = F9 i) (h10 : ∀ i, i < n → F (451 + 52 * i) = F10 i) (h11 : ∀ i, i < n → ∀ j, j < 50 → F (452 + 52 * i + j) = F11 (50 * i + j)) (hb : ∀ i, i < n → 0 ≤ F10 i ∧ F10 i ≤ 50) : hsr F h n = hsy F9 F10 F11 h n := by
  induction n with
  | zero => rfl
  | succ n ih =>
    have b := hb n (by omega)
    show hsf (fun k => F (450 + 52 * n + k)) (hsr F h n) (2 + F (451 + 52 * n)).toNat = hsf (fun i => F11 (n * 50 + i)) (hst (hst (hsy F9 F10 F11 h n) (F9 n)) (F10 n)) (F10 n).toNat
    rw [h10 n (by omega), show (2 + F10 n).toNat = 2 + (F10 n).toNat by omega, hsf_add]
    have e : hsf (fun k => F (450 + 52 * n + k)) (hsr F h n) 2 = hst (hst (hsy F9 F10 F11 h n) (F9 n)) (F10 n) := by
      show hst (hst (hsr F h n) (F (450 + 52 * n))) (F (450 + 52 * n + 1)) = _
      rw [ih (fun i hi => h9 i (by omega)) (fun i hi => h10 i (by omega)) (fun i hi => h11 i (by omega)) (fun i hi => hb i (by omega)), h9 n (by omega), show 450 + 52 * n + 1 = 451 + 52 * n by omega, h10 n (by omega)]
    rw [e]
    refine hsf_cg (fun i hi => ?_)
    show F (450 + 52 * n + (2 + i)) = F11 (n * 50 + i)
    rw [show n * 50 + i = 50 * n + i by omega, ← h11 n (by omega) i (by omega)]
    exact congrArg F (by omega)
