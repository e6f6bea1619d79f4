/-! texts as characters (ch: -1 at the end and behind it); signs and values as lists, the last one first; the reference's reading as a machine -/
/-! names that stand for nothing (a way that is not taken) -/
theorem zz : True := True.intro
theorem qzz : True := True.intro
theorem q0 : True := True.intro
def Ladd (x y : Int) : Int := (Int64.ofInt x + Int64.ofInt y).toInt
def Lsub (x y : Int) : Int := (Int64.ofInt x - Int64.ofInt y).toInt
def Lmul (x y : Int) : Int := (Int64.ofInt x * Int64.ofInt y).toInt
def Ldiv (x y : Int) : Int := (Int64.ofInt x / Int64.ofInt y).toInt
def Lneg (x : Int) : Int := (-(Int64.ofInt x)).toInt
def rkv (c : Int) : Int := if c = 124 then 1 else if c = 38 then 2 else if c = 60 ∨ c = 61 ∨ c = 62 then 3 else if c = 43 ∨ c = 45 then 4 else if c = 42 ∨ c = 47 then 5 else 0
theorem rkv_c (c : Int) : (c = 124 ∧ rkv c = 1) ∨ (c = 38 ∧ rkv c = 2) ∨ ((c = 60 ∨ c = 61 ∨ c = 62) ∧ rkv c = 3) ∨ ((c = 43 ∨ c = 45) ∧ rkv c = 4) ∨ ((c = 42 ∨ c = 47) ∧ rkv c = 5) ∨ (rkv c = 0 ∧ c ≠ 124 ∧ c ≠ 38 ∧ c ≠ 60 ∧ c ≠ 61 ∧ c ≠ 62 ∧ c ≠ 43 ∧ c ≠ 45 ∧ c ≠ 42 ∧ c ≠ 47) := by
  unfold rkv
  (repeat' split) <;> omega
theorem nmv_c (c : Int) : (nmv c = -1 ∧ c ≠ 120 ∧ c ≠ 111 ∧ c ≠ 101 ∧ c ≠ 109 ∧ c ≠ 121 ∧ c ≠ 103) ∨ (c = 120 ∧ nmv c = 0) ∨ (c = 111 ∧ nmv c = 1) ∨ (c = 101 ∧ nmv c = 2) ∨ (c = 109 ∧ nmv c = 3) ∨ (c = 121 ∧ nmv c = 4) ∨ (c = 103 ∧ nmv c = 5) := by
  unfold nmv
  (repeat' split) <;> omega
def opv (c a b : Int) : Int :=
  if c = 124 then (if a ≠ 0 ∨ b ≠ 0 then 1 else 0)
  else if c = 38 then (if a ≠ 0 ∧ b ≠ 0 then 1 else 0)
  else if c = 60 then (if a < b then 1 else 0)
  else if c = 62 then (if b < a then 1 else 0)
  else if c = 61 then (if a = b then 1 else 0)
  else if c = 43 then Ladd a b
  else if c = 45 then Lsub a b
  else if c = 42 then Lmul a b
  else if b = 0 then 0 else Ldiv a b
theorem opv_e {c a b r : Int} (h : (c = 124 ∧ (((a ≠ 0 ∨ b ≠ 0) ∧ r = 1) ∨ (a = 0 ∧ b = 0 ∧ r = 0))) ∨ (c = 38 ∧ ((a ≠ 0 ∧ b ≠ 0 ∧ r = 1) ∨ ((a = 0 ∨ b = 0) ∧ r = 0))) ∨ (c = 60 ∧ ((a < b ∧ r = 1) ∨ (b ≤ a ∧ r = 0))) ∨ (c = 62 ∧ ((b < a ∧ r = 1) ∨ (a ≤ b ∧ r = 0))) ∨ (c = 61 ∧ ((a = b ∧ r = 1) ∨ (a ≠ b ∧ r = 0))) ∨ (c = 43 ∧ r = Ladd a b) ∨ (c = 45 ∧ r = Lsub a b) ∨ (c = 42 ∧ r = Lmul a b) ∨ (c ≠ 124 ∧ c ≠ 38 ∧ c ≠ 60 ∧ c ≠ 62 ∧ c ≠ 61 ∧ c ≠ 43 ∧ c ≠ 45 ∧ c ≠ 42 ∧ ((b = 0 ∧ r = 0) ∨ (b ≠ 0 ∧ r = Ldiv a b)))) : r = opv c a b := by
  unfold opv
  generalize Ladd a b = t1 at h ⊢
  generalize Lsub a b = t2 at h ⊢
  generalize Lmul a b = t3 at h ⊢
  generalize Ldiv a b = t4 at h ⊢
  (repeat' split) <;> omega
theorem opv_e1 {c a b r : Int} (hc : c = 124) (h : ((a ≠ 0 ∨ b ≠ 0) ∧ r = 1) ∨ (a = 0 ∧ b = 0 ∧ r = 0)) : r = opv c a b := opv_e (Or.inl ⟨hc, h⟩)
theorem opv_e2 {c a b r : Int} (hc : c = 38) (h : (a ≠ 0 ∧ b ≠ 0 ∧ r = 1) ∨ ((a = 0 ∨ b = 0) ∧ r = 0)) : r = opv c a b := opv_e (Or.inr (Or.inl ⟨hc, h⟩))
theorem opv_e3 {c a b r : Int} (hc : c = 60) (h : (a < b ∧ r = 1) ∨ (b ≤ a ∧ r = 0)) : r = opv c a b := opv_e (Or.inr (Or.inr (Or.inl ⟨hc, h⟩)))
theorem opv_e4 {c a b r : Int} (hc : c = 62) (h : (b < a ∧ r = 1) ∨ (a ≤ b ∧ r = 0)) : r = opv c a b := opv_e (Or.inr (Or.inr (Or.inr (Or.inl ⟨hc, h⟩))))
theorem opv_e5 {c a b r : Int} (hc : c = 61) (h : (a = b ∧ r = 1) ∨ (a ≠ b ∧ r = 0)) : r = opv c a b := opv_e (Or.inr (Or.inr (Or.inr (Or.inr (Or.inl ⟨hc, h⟩)))))
theorem opv_e6 {c a b r : Int} (hc : c = 43) (h : r = Ladd a b) : r = opv c a b := opv_e (Or.inr (Or.inr (Or.inr (Or.inr (Or.inr (Or.inl ⟨hc, h⟩))))))
theorem opv_e7 {c a b r : Int} (hc : c = 45) (h : r = Lsub a b) : r = opv c a b := opv_e (Or.inr (Or.inr (Or.inr (Or.inr (Or.inr (Or.inr (Or.inl ⟨hc, h⟩)))))))
theorem opv_e8 {c a b r : Int} (hc : c = 42) (h : r = Lmul a b) : r = opv c a b := opv_e (Or.inr (Or.inr (Or.inr (Or.inr (Or.inr (Or.inr (Or.inr (Or.inl ⟨hc, h⟩))))))))
theorem opv_e9 {c a b r : Int} (hc : c ≠ 124 ∧ c ≠ 38 ∧ c ≠ 60 ∧ c ≠ 62 ∧ c ≠ 61 ∧ c ≠ 43 ∧ c ≠ 45 ∧ c ≠ 42) (h : (b = 0 ∧ r = 0) ∨ (b ≠ 0 ∧ r = Ldiv a b)) : r = opv c a b := opv_e (Or.inr (Or.inr (Or.inr (Or.inr (Or.inr (Or.inr (Or.inr (Or.inr (⟨hc.1, hc.2.1, hc.2.2.1, hc.2.2.2.1, hc.2.2.2.2.1, hc.2.2.2.2.2.1, hc.2.2.2.2.2.2.1, hc.2.2.2.2.2.2.2, h⟩)))))))))
def unv (c a : Int) : Int := if c = 1001 then (if a = 0 then 1 else 0) else Lneg a
theorem unv_e {c a r : Int} (h : (c = 1001 ∧ ((a = 0 ∧ r = 1) ∨ (a ≠ 0 ∧ r = 0))) ∨ (c ≠ 1001 ∧ r = Lneg a)) : r = unv c a := by
  unfold unv
  generalize Lneg a = t at h ⊢
  (repeat' split) <;> omega
def slv (f : Nat → Int) : Nat → List Int
  | 0 => []
  | n + 1 => f n :: slv f n
theorem slv_s (f : Nat → Int) {n k : Nat} (h : n = k + 1) : slv f n = f k :: slv f k := by
  subst h
  rfl
theorem slv_ge {f : Nat → Int} {k : Nat} {v : Int} {n : Nat} (h : n ≤ k) : slv (zPt f k v) n = slv f n := by
  induction n with
  | zero => rfl
  | succ n ih =>
    show zPt f k v n :: slv (zPt f k v) n = f n :: slv f n
    rw [zPt_ne (by omega), ih (by omega)]
theorem slv_p (f : Nat → Int) {n k : Nat} {v : Int} (h : n = k + 1) : slv (zPt f k v) n = v :: slv f k := by
  rw [slv_s _ h, zPt_eq, slv_ge (Nat.le_refl k)]
theorem slv_last1 (f : Nat → Int) (n : Nat) : (slv f (n + 1)).getLastD 0 = f 0 := by
  induction n with
  | zero => rfl
  | succ n ih =>
    have e : (slv f (n + 1 + 1)).getLastD 0 = (slv f (n + 1)).getLastD 0 := by
      rw [slv_s f (n := n + 1 + 1) (k := n + 1) rfl, slv_s f (n := n + 1) (k := n) rfl]
      rfl
    rw [e]
    exact ih
theorem slv_last (f : Nat → Int) {n : Nat} (h : 0 < n) : (slv f n).getLastD 0 = f 0 := by
  obtain ⟨k, rfl⟩ : ∃ k, n = k + 1 := ⟨n - 1, by omega⟩
  exact slv_last1 f k
def apv (c : Int) : List Int → List Int
  | b :: a :: v => opv c a b :: v
  | v => v
def wsg (r : Int) : List Int → List Int
  | [] => []
  | c :: s => if c < 1000 ∧ r ≤ rkv c then wsg r s else c :: s
def wvl (r : Int) : List Int → List Int → List Int
  | [], v => v
  | c :: s, v => if c < 1000 ∧ r ≤ rkv c then wvl r s (apv c v) else v
theorem wsg_y {r c : Int} {s : List Int} (h : c < 1000 ∧ r ≤ rkv c) : wsg r (c :: s) = wsg r s := if_pos h
theorem wsg_n {r c : Int} {s : List Int} (h : ¬ (c < 1000 ∧ r ≤ rkv c)) : wsg r (c :: s) = c :: s := if_neg h
theorem wvl_y {r c : Int} {s v : List Int} (h : c < 1000 ∧ r ≤ rkv c) : wvl r (c :: s) v = wvl r s (apv c v) := if_pos h
theorem wvl_n {r c : Int} {s v : List Int} (h : ¬ (c < 1000 ∧ r ≤ rkv c)) : wvl r (c :: s) v = v := if_neg h
theorem wsg_2 {r q : Int} (h : r ≤ q) : ∀ s, wsg r (wsg q s) = wsg r s
  | [] => rfl
  | c :: s => by
    by_cases hc : c < 1000 ∧ q ≤ rkv c
    · rw [wsg_y hc, wsg_y (r := r) (by omega), wsg_2 h s]
    · rw [wsg_n hc]
theorem wvl_2 {r q : Int} (h : r ≤ q) : ∀ s v, wvl r (wsg q s) (wvl q s v) = wvl r s v
  | [], _ => rfl
  | c :: s, v => by
    by_cases hc : c < 1000 ∧ q ≤ rkv c
    · rw [wsg_y hc, wvl_y hc, wvl_y (r := r) (by omega), wvl_2 h s]
    · rw [wsg_n hc, wvl_n hc]
def sds : List Int → List Int
  | [] => []
  | c :: s => if 1000 < c then sds s else c :: s
def sdx : List Int → Int → Int
  | [], x => x
  | c :: s, x => if 1000 < c then sdx s (unv c x) else x
theorem sds_y {c : Int} {s : List Int} (h : 1000 < c) : sds (c :: s) = sds s := if_pos h
theorem sds_n {c : Int} {s : List Int} (h : ¬ 1000 < c) : sds (c :: s) = c :: s := if_neg h
theorem sdx_y {c x : Int} {s : List Int} (h : 1000 < c) : sdx (c :: s) x = sdx s (unv c x) := if_pos h
theorem sdx_n {c x : Int} {s : List Int} (h : ¬ 1000 < c) : sdx (c :: s) x = x := if_neg h
def cxt (L : Int) : List Int → Prop
  | [] => True
  | c :: _ => c ≤ 1000 ∧ (c < 1000 → rkv c ≤ L)
theorem cxt_m {L K : Int} {s : List Int} (h : cxt L s) (hk : L ≤ K) : cxt K s := by
  cases s with
  | nil => exact trivial
  | cons c t => exact ⟨h.1, fun q => Int.le_trans (h.2 q) hk⟩
theorem cxt_w {L r : Int} {s : List Int} (h : cxt L s) (hr : L < r) : wsg r s = s ∧ ∀ v, wvl r s v = v := by
  cases s with
  | nil => exact ⟨rfl, fun _ => rfl⟩
  | cons c t =>
    have hn : ¬ (c < 1000 ∧ r ≤ rkv c) := fun q => by
      have := h.2 q.1
      omega
    exact ⟨wsg_n hn, fun _ => wvl_n hn⟩
theorem cxt_s {L : Int} {s : List Int} (h : cxt L s) : sds s = s ∧ ∀ x, sdx s x = x := by
  cases s with
  | nil => exact ⟨rfl, fun _ => rfl⟩
  | cons c t =>
    have hn : ¬ 1000 < c := fun q => by
      have := h.1
      omega
    exact ⟨sds_n hn, fun _ => sdx_n hn⟩
def tp3 : List Int → Int
  | [] => 0
  | c :: _ => if c < 1000 ∧ rkv c = 3 then 1 else 0
theorem tp3_c (c : Int) (s : List Int) : (tp3 (c :: s) = 1 ∧ c < 1000 ∧ rkv c = 3) ∨ (tp3 (c :: s) = 0 ∧ ¬ (c < 1000 ∧ rkv c = 3)) := by
  show ((if c < 1000 ∧ rkv c = 3 then (1 : Int) else 0) = 1 ∧ _) ∨ ((if c < 1000 ∧ rkv c = 3 then (1 : Int) else 0) = 0 ∧ _)
  by_cases h : c < 1000 ∧ rkv c = 3
  · exact Or.inl ⟨if_pos h, h⟩
  · exact Or.inr ⟨if_neg h, h⟩
theorem cxt_3 {s : List Int} (h : cxt 2 s) : tp3 s ≠ 1 := by
  cases s with
  | nil => exact fun q => absurd q (by decide)
  | cons c t =>
    intro q
    rcases tp3_c c t with ⟨_, h1, h2⟩ | ⟨h1, _⟩
    · have := h.2 h1
      omega
    · omega
def rqv (c : Int) : Int := if rkv c = 3 then 4 else rkv c
def dln (ch : Nat → Int) : Nat → Nat → Nat
  | 0, _ => 0
  | k + 1, a => if 48 ≤ ch a ∧ ch a ≤ 57 then dln ch k (a + 1) + 1 else 0
theorem dln_e {ch : Nat → Int} (k : Nat) : ∀ (a j : Nat), (∀ i, i < j → 48 ≤ ch (a + i) ∧ ch (a + i) ≤ 57) → j ≤ k → (j = k ∨ ¬ (48 ≤ ch (a + j) ∧ ch (a + j) ≤ 57)) → dln ch k a = j := by
  induction k with
  | zero =>
    intro a j _ h1 _
    show 0 = j
    omega
  | succ k ih =>
    intro a j h0 h1 h2
    by_cases hj : j = 0
    · subst hj
      rcases h2 with h2 | h2
      · exact absurd h2 (by omega)
      · exact if_neg h2
    · have e : dln ch (k + 1) a = dln ch k (a + 1) + 1 := if_pos (h0 0 (by omega))
      have i1 := ih (a + 1) (j - 1) (fun i hi => by rw [show a + 1 + i = a + (i + 1) by omega]; exact h0 (i + 1) (by omega)) (by omega) (by rw [show a + 1 + (j - 1) = a + j by omega]; rcases h2 with h2 | h2; exact Or.inl (by omega); exact Or.inr h2)
      omega
def dvl (ch : Nat → Int) (a : Nat) : Nat → Int
  | 0 => 0
  | j + 1 => 10 * dvl ch a j + (ch (a + j) - 48)
theorem dvl_s (ch : Nat → Int) (a : Nat) {j k : Nat} (h : k = j + 1) : dvl ch a k = 10 * dvl ch a j + (ch (a + j) - 48) := by
  subst h
  rfl
theorem dvl_b {ch : Nat → Int} {a : Nat} {j : Nat} (h : ∀ i, i < j → 48 ≤ ch (a + i) ∧ ch (a + i) ≤ 57) (hj : j ≤ 6) : 0 ≤ dvl ch a j ∧ dvl ch a j ≤ 999999 ∧ (j ≤ 5 → dvl ch a j ≤ 99999) := by
  have t : ∀ n, n ≤ j → 0 ≤ dvl ch a n ∧ dvl ch a n ≤ 999999 ∧ (n ≤ 5 → dvl ch a n ≤ 99999) ∧ (n ≤ 4 → dvl ch a n ≤ 9999) ∧ (n ≤ 3 → dvl ch a n ≤ 999) ∧ (n ≤ 2 → dvl ch a n ≤ 99) ∧ (n ≤ 1 → dvl ch a n ≤ 9) ∧ (n ≤ 0 → dvl ch a n ≤ 0) := by
    intro n
    induction n with
    | zero => intro _; show (0 : Int) ≤ 0 ∧ (0 : Int) ≤ 999999 ∧ (_ → (0 : Int) ≤ 99999) ∧ (_ → (0 : Int) ≤ 9999) ∧ (_ → (0 : Int) ≤ 999) ∧ (_ → (0 : Int) ≤ 99) ∧ (_ → (0 : Int) ≤ 9) ∧ (_ → (0 : Int) ≤ 0); omega
    | succ n ih =>
      intro hn
      have i1 := ih (by omega)
      have i2 := h n (by omega)
      have e : dvl ch a (n + 1) = 10 * dvl ch a n + (ch (a + n) - 48) := rfl
      rw [e]
      omega
  have := t j (Nat.le_refl j)
  omega
/-- one step of the reading; K goes on -/
def rst (ch : Nat → Int) (nm : Int → Int) (K : Nat → Int → Int → List Int → List Int → Option (Int × Int)) (a : Nat) (w o : Int) (s v : List Int) : Option (Int × Int) :=
  if ch a = 32 then K (a + 1) w o s v
  else if w = 1 then
    (if 48 ≤ ch a ∧ ch a ≤ 57 then
      (if dln ch 7 a = 7 then some (10 * (a : Int) + 2, 0) else K (a + dln ch 7 a) 0 o (sds s) (sdx s (dvl ch a (dln ch 7 a)) :: v))
    else if nmv (ch a) ≠ -1 then K (a + 1) 0 o (sds s) (sdx s (nm (nmv (ch a))) :: v)
    else if ch a = 33 ∨ ch a = 45 then K (a + 1) 1 o ((if ch a = 33 then 1001 else 1002) :: s) v
    else if ch a = 40 ∧ o < 8 then K (a + 1) 1 (o + 1) (1000 :: s) v
    else some (10 * (a : Int) + (if ch a = 40 then 3 else 1), 0))
  else if ch a = 41 ∧ 0 < o then K (a + 1) 0 (o - 1) (sds (wsg 1 s).tail) (sdx (wsg 1 s).tail ((wvl 1 s v).headD 0) :: (wvl 1 s v).tail)
  else if 0 < rkv (ch a) then
    (if rkv (ch a) = 3 ∧ tp3 (wsg 4 s) = 1 then some (10 * (a : Int) + 1, 0)
    else K (a + 1) 1 o (ch a :: wsg (rqv (ch a)) s) (wvl (rqv (ch a)) s v))
  else if ch a = -1 ∧ o = 0 then some (-1, (wvl 1 s v).getLastD 0)
  else some (10 * (a : Int) + 1, 0)
def rrn (ch : Nat → Int) (nm : Int → Int) : Nat → Nat → Int → Int → List Int → List Int → Option (Int × Int)
  | 0 => fun _ _ _ _ _ => none
  | f + 1 => rst ch nm (rrn ch nm f)
def RV (ch : Nat → Int) (nm : Int → Int) (a : Nat) (w o : Int) (s v : List Int) (x : Int × Int) : Prop := ∃ f, rrn ch nm f a w o s v = some x
theorem rst_mono {ch : Nat → Int} {nm : Int → Int} {K K' : Nat → Int → Int → List Int → List Int → Option (Int × Int)} {x : Int × Int} (hK : ∀ a w o s v, K a w o s v = some x → K' a w o s v = some x) (a : Nat) (w o : Int) (s v : List Int) (h : rst ch nm K a w o s v = some x) : rst ch nm K' a w o s v = some x := by
  unfold rst at h ⊢
  by_cases h0 : ch a = 32
  · rw [if_pos h0] at h ⊢
    exact hK _ _ _ _ _ h
  rw [if_neg h0] at h ⊢
  by_cases h1 : w = 1
  · rw [if_pos h1] at h ⊢
    by_cases h2 : 48 ≤ ch a ∧ ch a ≤ 57
    · rw [if_pos h2] at h ⊢
      by_cases h3 : dln ch 7 a = 7
      · rw [if_pos h3] at h ⊢
        exact h
      · rw [if_neg h3] at h ⊢
        exact hK _ _ _ _ _ h
    rw [if_neg h2] at h ⊢
    by_cases h3 : nmv (ch a) ≠ -1
    · rw [if_pos h3] at h ⊢
      exact hK _ _ _ _ _ h
    rw [if_neg h3] at h ⊢
    by_cases h4 : ch a = 33 ∨ ch a = 45
    · rw [if_pos h4] at h ⊢
      exact hK _ _ _ _ _ h
    rw [if_neg h4] at h ⊢
    by_cases h5 : ch a = 40 ∧ o < 8
    · rw [if_pos h5] at h ⊢
      exact hK _ _ _ _ _ h
    rw [if_neg h5] at h ⊢
    exact h
  rw [if_neg h1] at h ⊢
  by_cases h2 : ch a = 41 ∧ 0 < o
  · rw [if_pos h2] at h ⊢
    exact hK _ _ _ _ _ h
  rw [if_neg h2] at h ⊢
  by_cases h3 : 0 < rkv (ch a)
  · rw [if_pos h3] at h ⊢
    by_cases h4 : rkv (ch a) = 3 ∧ tp3 (wsg 4 s) = 1
    · rw [if_pos h4] at h ⊢
      exact h
    · rw [if_neg h4] at h ⊢
      exact hK _ _ _ _ _ h
  rw [if_neg h3] at h ⊢
  exact h
theorem rrn_mono {ch : Nat → Int} {nm : Int → Int} {x : Int × Int} : ∀ (f : Nat) (a : Nat) (w o : Int) (s v : List Int), rrn ch nm f a w o s v = some x → rrn ch nm (f + 1) a w o s v = some x
  | 0, _, _, _, _, _, h => absurd (show none = some x from h) (by simp)
  | f + 1, a, w, o, s, v, h => rst_mono (rrn_mono f) a w o s v h
theorem rrn_le {ch : Nat → Int} {nm : Int → Int} {x : Int × Int} {f g : Nat} {a : Nat} {w o : Int} {s v : List Int} (hfg : f ≤ g) (h : rrn ch nm f a w o s v = some x) : rrn ch nm g a w o s v = some x := by
  induction hfg with
  | refl => exact h
  | step _ ih => exact rrn_mono _ _ _ _ _ _ ih
theorem RV_det {ch : Nat → Int} {nm : Int → Int} {x y : Int × Int} {a : Nat} {w o : Int} {s v : List Int} (h : RV ch nm a w o s v x) (h' : RV ch nm a w o s v y) : x = y := by
  obtain ⟨f, h⟩ := h
  obtain ⟨g, h'⟩ := h'
  have e1 := rrn_le (Nat.le_max_left f g) h
  have e2 := rrn_le (Nat.le_max_right f g) h'
  rw [e1] at e2
  exact Option.some.inj e2
theorem RV_st {ch : Nat → Int} {nm : Int → Int} {x : Int × Int} {a : Nat} {w o : Int} {s v : List Int} (h : ∃ f, rst ch nm (rrn ch nm f) a w o s v = some x) : RV ch nm a w o s v x := by
  obtain ⟨f, h⟩ := h
  exact ⟨f + 1, h⟩
section RVS
variable {ch : Nat → Int} {nm : Int → Int} {x : Int × Int} {a : Nat} {w o : Int} {s v : List Int}
theorem RV_bl (h : ch a = 32) (n : RV ch nm (a + 1) w o s v x) : RV ch nm a w o s v x := by
  obtain ⟨f, n⟩ := n
  exact RV_st ⟨f, by unfold rst; rw [if_pos h]; exact n⟩
theorem RV_bls {b : Nat} (h : ∀ k, a ≤ k → k < b → ch k = 32) (hb : a ≤ b) (n : RV ch nm b w o s v x) : RV ch nm a w o s v x := by
  obtain ⟨d, rfl⟩ : ∃ d, b = a + d := ⟨b - a, by omega⟩
  clear hb
  induction d with
  | zero => exact n
  | succ d ih => exact ih (fun k h1 h2 => h k h1 (by omega)) (RV_bl (h (a + d) (by omega) (by omega)) n)
theorem RV_dg (h : 48 ≤ ch a ∧ ch a ≤ 57) {j : Nat} (hj : dln ch 7 a = j) (h7 : j ≠ 7) (n : RV ch nm (a + j) 0 o (sds s) (sdx s (dvl ch a j) :: v) x) : RV ch nm a 1 o s v x := by
  subst hj
  obtain ⟨f, n⟩ := n
  exact RV_st ⟨f, by unfold rst; rw [if_neg (by omega), if_pos rfl, if_pos h, if_neg h7]; exact n⟩
theorem RV_d7 (h : 48 ≤ ch a ∧ ch a ≤ 57) (hj : dln ch 7 a = 7) : RV ch nm a 1 o s v (10 * (a : Int) + 2, 0) :=
  RV_st ⟨0, by unfold rst; rw [if_neg (by omega), if_pos rfl, if_pos h, if_pos hj]⟩
theorem RV_nm (h : nmv (ch a) ≠ -1) (n : RV ch nm (a + 1) 0 o (sds s) (sdx s (nm (nmv (ch a))) :: v) x) : RV ch nm a 1 o s v x := by
  obtain ⟨f, n⟩ := n
  have hc := nmv_c (ch a)
  exact RV_st ⟨f, by unfold rst; rw [if_neg (by omega), if_pos rfl, if_neg (by omega), if_pos h]; exact n⟩
theorem RV_un (h : ch a = 33 ∨ ch a = 45) (n : RV ch nm (a + 1) 1 o ((if ch a = 33 then 1001 else 1002) :: s) v x) : RV ch nm a 1 o s v x := by
  obtain ⟨f, n⟩ := n
  have hc := nmv_c (ch a)
  exact RV_st ⟨f, by unfold rst; rw [if_neg (by omega), if_pos rfl, if_neg (by omega), if_neg (by omega), if_pos h]; exact n⟩
theorem RV_br (h : ch a = 40) (ho : o < 8) (n : RV ch nm (a + 1) 1 (o + 1) (1000 :: s) v x) : RV ch nm a 1 o s v x := by
  obtain ⟨f, n⟩ := n
  have hc := nmv_c (ch a)
  exact RV_st ⟨f, by unfold rst; rw [if_neg (by omega), if_pos rfl, if_neg (by omega), if_neg (by omega), if_neg (by omega), if_pos ⟨h, ho⟩]; exact n⟩
theorem RV_b9 (h : ch a = 40) (ho : ¬ o < 8) : RV ch nm a 1 o s v (10 * (a : Int) + 3, 0) := by
  have hc := nmv_c (ch a)
  exact RV_st ⟨0, by unfold rst; rw [if_neg (by omega), if_pos rfl, if_neg (by omega), if_neg (by omega), if_neg (by omega), if_neg (by omega), if_pos h]⟩
theorem RV_w1 (h0 : ch a ≠ 32) (h1 : ¬ (48 ≤ ch a ∧ ch a ≤ 57)) (h2 : nmv (ch a) = -1) (h3 : ch a ≠ 33 ∧ ch a ≠ 45 ∧ ch a ≠ 40) : RV ch nm a 1 o s v (10 * (a : Int) + 1, 0) :=
  RV_st ⟨0, by unfold rst; rw [if_neg h0, if_pos rfl, if_neg h1, if_neg (by omega), if_neg (by omega), if_neg (by omega), if_neg h3.2.2]⟩
theorem RV_cl (h : ch a = 41) (ho : 0 < o) (n : RV ch nm (a + 1) 0 (o - 1) (sds (wsg 1 s).tail) (sdx (wsg 1 s).tail ((wvl 1 s v).headD 0) :: (wvl 1 s v).tail) x) : RV ch nm a 0 o s v x := by
  obtain ⟨f, n⟩ := n
  exact RV_st ⟨f, by unfold rst; rw [if_neg (by omega), if_neg (by omega), if_pos ⟨h, ho⟩]; exact n⟩
theorem RV_op (h : 0 < rkv (ch a)) (h3 : ¬ (rkv (ch a) = 3 ∧ tp3 (wsg 4 s) = 1)) (n : RV ch nm (a + 1) 1 o (ch a :: wsg (rqv (ch a)) s) (wvl (rqv (ch a)) s v) x) : RV ch nm a 0 o s v x := by
  obtain ⟨f, n⟩ := n
  have hc := rkv_c (ch a)
  exact RV_st ⟨f, by unfold rst; rw [if_neg (by omega), if_neg (by omega), if_neg (by omega), if_pos h, if_neg h3]; exact n⟩
theorem RV_o3 (h : rkv (ch a) = 3) (h3 : tp3 (wsg 4 s) = 1) : RV ch nm a 0 o s v (10 * (a : Int) + 1, 0) := by
  have hc := rkv_c (ch a)
  exact RV_st ⟨0, by unfold rst; rw [if_neg (by omega), if_neg (by omega), if_neg (by omega), if_pos (by omega), if_pos ⟨h, h3⟩]⟩
theorem RV_fi (h : ch a = -1) (ho : o = 0) : RV ch nm a 0 o s v (-1, (wvl 1 s v).getLastD 0) := by
  have hc := rkv_c (ch a)
  exact RV_st ⟨0, by unfold rst; rw [if_neg (by omega), if_neg (by omega), if_neg (by omega), if_neg (by omega), if_pos ⟨h, ho⟩]⟩
theorem RV_w0 (h0 : ch a ≠ 32) (h1 : ¬ (ch a = 41 ∧ 0 < o)) (h2 : rkv (ch a) ≤ 0) (h3 : ¬ (ch a = -1 ∧ o = 0)) : RV ch nm a 0 o s v (10 * (a : Int) + 1, 0) :=
  RV_st ⟨0, by unfold rst; rw [if_neg h0, if_neg (by omega), if_neg h1, if_neg (by omega), if_neg h3]⟩
end RVS
/-! exact rules of long sums: the answer is the machine's own, by name -/
section ZXL
variable {E : zE} {d k pc q : Nat} {L S L' : List zV} {m : zM} {Q : zV → zM → Prop} {i : Instr} {a1 a2 : Nat}
theorem zw_27x {x y : Int} (h : zRow xM k pc = some (27, i, q, a1, a2)) (n : ∀ r : Int, r = Ladd x y → -9223372036854775808 ≤ r → r ≤ 9223372036854775807 → zW E d k q L ((1, r) :: S) m Q) : zW E d k pc L ((1, y) :: (1, x) :: S) m Q :=
  zw_p h (by decide) (by decide) rfl (n (Ladd x y) rfl (zToIntL _).1 (zToIntL _).2)
theorem zw_28x {x y : Int} (h : zRow xM k pc = some (28, i, q, a1, a2)) (n : ∀ r : Int, r = Lsub x y → -9223372036854775808 ≤ r → r ≤ 9223372036854775807 → zW E d k q L ((1, r) :: S) m Q) : zW E d k pc L ((1, y) :: (1, x) :: S) m Q :=
  zw_p h (by decide) (by decide) rfl (n (Lsub x y) rfl (zToIntL _).1 (zToIntL _).2)
theorem zw_29x {x y : Int} (h : zRow xM k pc = some (29, i, q, a1, a2)) (n : ∀ r : Int, r = Lmul x y → -9223372036854775808 ≤ r → r ≤ 9223372036854775807 → zW E d k q L ((1, r) :: S) m Q) : zW E d k pc L ((1, y) :: (1, x) :: S) m Q :=
  zw_p h (by decide) (by decide) rfl (n (Lmul x y) rfl (zToIntL _).1 (zToIntL _).2)
theorem zw_117x {x : Int} (h : zRow xM k pc = some (117, i, q, a1, a2)) (n : ∀ r : Int, r = Lneg x → -9223372036854775808 ≤ r → r ≤ 9223372036854775807 → zW E d k q L ((1, r) :: S) m Q) : zW E d k pc L ((1, x) :: S) m Q :=
  zw_p h (by decide) (by decide) rfl (n (Lneg x) rfl (zToIntL _).1 (zToIntL _).2)
theorem zw_118x {x y : Int} (h : zRow xM k pc = some (118, i, q, a1, a2)) (hy : y ≠ 0) (n : ∀ r : Int, r = Ldiv x y → -9223372036854775808 ≤ r → r ≤ 9223372036854775807 → zW E d k q L ((1, r) :: S) m Q) : zW E d k pc L ((1, y) :: (1, x) :: S) m Q := by
  refine zw_p h (by decide) (by decide) ?_ (n (Ldiv x y) rfl (zToIntL _).1 (zToIntL _).2)
  show (if y = 0 then none else some (q, L, (1, (Int64.ofInt x / Int64.ofInt y).toInt) :: S, m)) = _
  rw [if_neg hy]
  rfl
end ZXL
/-! a copy from a place on -/
def zCo (f g : Nat → Int) (s n : Nat) : Nat → Int := fun k => if k < n then g (s + k) else f k
theorem zCo_lt {f g : Nat → Int} {s n k : Nat} (h : k < n) : zCo f g s n k = g (s + k) := if_pos h
theorem zCp_fo {m : zM} {c1 c2 n s b : Nat} (hb : b = 0) : zCp m c1 b c2 s n c1 = zCo (m c1) (m c2) s n := by
  subst hb
  funext k
  show (if c1 = c1 ∧ 0 ≤ k ∧ k < 0 + n then m c2 (s + (k - 0)) else m c1 k) = (if k < n then m c2 (s + k) else m c1 k)
  by_cases h : k < n
  · rw [if_pos ⟨rfl, by omega, by omega⟩, if_pos h, Nat.sub_zero]
  · rw [if_neg (by omega), if_neg h]
/-! the class's reading: steps of a small stack (below 0: minus a character), and what a piece of text that was read has done to the machine -/
def chf (f : Nat → Int) (n : Int) : Nat → Int := fun k => if (k : Int) < n then f k else -1
theorem chf_lt {f : Nat → Int} {n : Int} {k : Nat} (h : (k : Int) < n) : chf f n k = f k := if_pos h
theorem chf_ge {f : Nat → Int} {n : Int} {k : Nat} (h : n ≤ (k : Int)) : chf f n k = -1 := if_neg (by omega)
theorem chf_c (f : Nat → Int) (n : Int) (k : Nat) : ((k : Int) < n ∧ chf f n k = f k) ∨ (n ≤ (k : Int) ∧ chf f n k = -1) := by
  by_cases h : (k : Int) < n
  · exact Or.inl ⟨h, chf_lt h⟩
  · exact Or.inr ⟨by omega, chf_ge (by omega)⟩
theorem chf_at {f : Nat → Int} {n p x : Int} (hx : x = f p.toNat) (h : 0 ≤ p ∧ p < n) : chf f n p.toNat = x := (chf_lt (by omega)).trans hx.symm
def evs (nm : Int → Int) (c : Int) (st : List Int) : List Int :=
  if 0 ≤ c then c :: st
  else if nmv (-c) ≠ -1 then nm (nmv (-c)) :: st
  else if -c = 33 then (if st.headD 0 = 0 then 1 else 0) :: st.tail
  else if -c = 126 then Lneg (st.headD 0) :: st.tail
  else opv (-c) (st.tail.headD 0) (st.headD 0) :: st.tail.tail
def evl (f : Nat → Int) (nm : Int → Int) (a : Nat) : Nat → List Int → List Int
  | 0, st => st
  | k + 1, st => evs nm (f (a + k)) (evl f nm a k st)
theorem evl_s {f : Nat → Int} {nm : Int → Int} {a k n : Nat} {st : List Int} (h : n = k + 1) : evl f nm a n st = evs nm (f (a + k)) (evl f nm a k st) := by
  subst h
  rfl
theorem evl_z {f : Nat → Int} {nm : Int → Int} {a n : Nat} {st : List Int} (h : n = 0) : evl f nm a n st = st := by
  subst h
  rfl
theorem evl_cg {f g : Nat → Int} {nm : Int → Int} {a k : Nat} {st : List Int} (h : ∀ i, a ≤ i → i < a + k → f i = g i) : evl f nm a k st = evl g nm a k st := by
  induction k with
  | zero => rfl
  | succ k ih => rw [evl_s rfl, evl_s rfl, ih (fun i h1 h2 => h i h1 (by omega)), h (a + k) (by omega) (by omega)]
theorem evl_add {f : Nat → Int} {nm : Int → Int} {a j k b n : Nat} {st : List Int} (hb : b = a + j) (hn : n = j + k) : evl f nm a n st = evl f nm b k (evl f nm a j st) := by
  subst hb hn
  induction k with
  | zero => rfl
  | succ k ih => rw [evl_s (n := j + (k + 1)) (k := j + k) rfl, evl_s (n := k + 1) rfl, ih, show a + (j + k) = a + j + k by omega]
theorem evs_v {nm : Int → Int} {c : Int} {st : List Int} (h : 0 ≤ c) : evs nm c st = c :: st := if_pos h
theorem evs_n {nm : Int → Int} {c : Int} {st : List Int} (h : nmv c ≠ -1) : evs nm (-c) st = nm (nmv c) :: st := by
  have hc := nmv_c c
  unfold evs
  rw [if_neg (by omega), show - -c = c by omega, if_pos h]
theorem evs_o {nm : Int → Int} {c a b : Int} {st : List Int} (h : 0 < rkv c) : evs nm (-c) (b :: a :: st) = opv c a b :: st := by
  have hc := rkv_c c
  have hn := nmv_c c
  unfold evs
  rw [if_neg (by omega), show - -c = c by omega, if_neg (by omega), if_neg (by omega), if_neg (by omega)]
  rfl
theorem evs_b {nm : Int → Int} {a : Int} {st : List Int} : evs nm (-33) (a :: st) = unv 1001 a :: st := by
  unfold evs
  rw [if_neg (by omega), show -(-33 : Int) = 33 by omega, if_neg (by decide), if_pos rfl]
  rfl
theorem evs_l {nm : Int → Int} {a : Int} {st : List Int} : evs nm (-126) (a :: st) = unv 1002 a :: st := by
  unfold evs
  rw [if_neg (by omega), show -(-126 : Int) = 126 by omega, if_neg (by decide), if_neg (by decide), if_pos rfl]
  rfl
/-! signs ahead of a unit -/
def usg (ch : Nat → Int) (b : Nat) : Nat → List Int
  | 0 => []
  | k + 1 => if ch (b + k) = 33 then 1001 :: usg ch b k else if ch (b + k) = 45 then 1002 :: usg ch b k else usg ch b k
theorem usg_b {ch : Nat → Int} {b k n : Nat} (hn : n = k + 1) (h : ch (b + k) = 33) : usg ch b n = 1001 :: usg ch b k := by
  subst hn
  exact if_pos h
theorem usg_l {ch : Nat → Int} {b k n : Nat} (hn : n = k + 1) (h : ch (b + k) = 45) : usg ch b n = 1002 :: usg ch b k := by
  subst hn
  exact (if_neg (by omega)).trans (if_pos h)
theorem usg_n {ch : Nat → Int} {b k n : Nat} (hn : n = k + 1) (h : ch (b + k) ≠ 33) (h' : ch (b + k) ≠ 45) : usg ch b n = usg ch b k := by
  subst hn
  exact (if_neg h).trans (if_neg h')
theorem usg_bl {ch : Nat → Int} {b k n : Nat} (hk : k ≤ n) (h : ∀ i, b + k ≤ i → i < b + n → ch i = 32) : usg ch b n = usg ch b k := by
  obtain ⟨d, rfl⟩ : ∃ d, n = k + d := ⟨n - k, by omega⟩
  clear hk
  induction d with
  | zero => rfl
  | succ d ih =>
    have hh := h (b + (k + d)) (by omega) (by omega)
    rw [usg_n (k := k + d) (by omega) (by omega) (by omega)]
    exact ih (fun i h1 h2 => h i h1 (by omega))
theorem usg_cg {ch g : Nat → Int} {b k : Nat} (h : ∀ i, i < b + k → ch i = g i) : usg ch b k = usg g b k := by
  induction k with
  | zero => rfl
  | succ k ih =>
    have hh := h (b + k) (by omega)
    have ih := ih (fun i hi => h i (by omega))
    by_cases h1 : ch (b + k) = 33
    · rw [usg_b rfl h1, usg_b rfl (by omega), ih]
    · by_cases h2 : ch (b + k) = 45
      · rw [usg_l rfl h2, usg_l rfl (by omega), ih]
      · rw [usg_n rfl h1 h2, usg_n rfl (by omega) (by omega), ih]
def uap : List Int → Int → Int
  | [], x => x
  | c :: u, x => uap u (unv c x)
theorem usg_sd {ch : Nat → Int} {b : Nat} {s : List Int} (k : Nat) : sds (usg ch b k ++ s) = sds s ∧ ∀ x, sdx (usg ch b k ++ s) x = sdx s (uap (usg ch b k) x) := by
  induction k with
  | zero => exact ⟨rfl, fun _ => rfl⟩
  | succ k ih =>
    by_cases h1 : ch (b + k) = 33
    · rw [usg_b rfl h1]
      refine ⟨?_, fun x => ?_⟩
      · show sds (1001 :: (usg ch b k ++ s)) = _
        rw [sds_y (by omega)]
        exact ih.1
      · show sdx (1001 :: (usg ch b k ++ s)) x = _
        rw [sdx_y (by omega)]
        exact ih.2 _
    · by_cases h2 : ch (b + k) = 45
      · rw [usg_l rfl h2]
        refine ⟨?_, fun x => ?_⟩
        · show sds (1002 :: (usg ch b k ++ s)) = _
          rw [sds_y (by omega)]
          exact ih.1
        · show sdx (1002 :: (usg ch b k ++ s)) x = _
          rw [sdx_y (by omega)]
          exact ih.2 _
      · rw [usg_n rfl h1 h2]
        exact ih
/-! what was read -/
def zFrm (f g : Nat → Int) (z : Int) : Prop := ∀ i : Nat, (i : Int) < z → g i = f i
theorem zFrm_r {f : Nat → Int} {z : Int} : zFrm f f z := fun _ _ => rfl
theorem zFrm_t {f g h : Nat → Int} {z y : Int} (a : zFrm f g z) (b : zFrm g h y) (hz : z ≤ y) : zFrm f h z := fun i hi => (b i (by omega)).trans (a i hi)
theorem zFrm_p {f g : Nat → Int} {z y v : Int} (a : zFrm f g z) (h : 0 ≤ y ∧ z ≤ y) : zFrm f (zPt g y.toNat v) z := fun i hi => by
  rw [zPt_ne (by omega)]
  exact a i hi
def zNx (ch : Nat → Int) (fl p q r : Int) : Prop := (fl = -1 ∧ p ≤ q ∧ (∀ k : Nat, p ≤ k → (k : Int) < q → ch k = 32) ∧ ch q.toNat = r ∧ r ≠ 32) ∨ (fl ≠ -1 ∧ q = p ∧ r = -1)
theorem zNx_b {ch : Nat → Int} {fl p q r : Int} (h : fl ≠ -1 ∧ q = p ∧ r = -1) : zNx ch fl p q r := Or.inr h
def zBl (ch : Nat → Int) (p q : Int) : Prop := p ≤ q ∧ ∀ k : Nat, p ≤ k → (k : Int) < q → ch k = 32
theorem zBl_0 {ch : Nat → Int} {p : Int} : zBl ch p p := ⟨by omega, fun k h1 h2 => by omega⟩
theorem zBl_s {ch : Nat → Int} {p q q1 c : Int} (h : zBl ch p q) (hc : ch q.toNat = c) (h1 : c = 32 ∧ 0 ≤ q ∧ q1 = q + 1) : zBl ch p q1 := by
  obtain ⟨g1, g2, rfl⟩ := h1
  refine ⟨by have := h.1; omega, fun k h2 h3 => ?_⟩
  by_cases e : k = q.toNat
  · rw [e, hc]
    exact g1
  · exact h.2 k h2 (by omega)
theorem zBl_x {ch : Nat → Int} {fl p q r : Int} (h : zBl ch p q) (hc : ch q.toNat = r) (h1 : fl = -1 ∧ r ≠ 32) : zNx ch fl p q r := Or.inl ⟨h1.1, h.1, h.2, hc, h1.2⟩
def zNS (ch : Nat → Int) (nm : Int → Int) (L o : Int) (s v : List Int) (p : Nat) : Prop := ∀ q, p ≤ q → (∀ k, p ≤ k → k < q → ch k = 32) → ch q ≠ 32 → rkv (ch q) ≤ L ∨ RV ch nm q 0 o s v (10 * (q : Int) + 1, 0)
def zEv (f : Nat → Int) (nm : Int → Int) (z y x : Int) : Prop := ∀ st, evl f nm z.toNat (y - z).toNat st = x :: st
theorem zEv_p {f : Nat → Int} {nm : Int → Int} {z y x v : Int} (h : zEv f nm z y x) (hz : 0 ≤ z ∧ z ≤ y) : zEv (zPt f y.toNat v) nm z y x := fun st => by
  rw [← h st]
  exact evl_cg fun i h1 h2 => zPt_ne (by omega)
theorem zEv_fr {f g : Nat → Int} {nm : Int → Int} {z y x : Int} (h : zEv f nm z y x) (hz : 0 ≤ z ∧ z ≤ y) (hf : zFrm f g y) : zEv g nm z y x := fun st => by
  rw [← h st]
  exact evl_cg fun i h1 h2 => hf i (by omega)
def zOk (ch : Nat → Int) (L o p z : Int) (f : Nat → Int) (q y : Int) : Prop := ∀ nm s v, cxt L s → ∃ s' v' x, (∀ t, RV ch nm q.toNat 0 o s' v' t → RV ch nm p.toNat 1 o s v t) ∧ wsg (L + 1) s' = s ∧ wvl (L + 1) s' v' = x :: v ∧ zEv f nm z y x ∧ zNS ch nm L o s' v' q.toNat
def zBad (ch : Nat → Int) (L o p fl : Int) : Prop := ∀ nm s v, cxt L s → RV ch nm p.toNat 1 o s v (fl, 0)
def zLv (ch : Nat → Int) (L o p z : Int) (f : Nat → Int) (q y fl : Int) : Prop := (fl = -1 ∧ zOk ch L o p z f q y) ∨ (fl ≠ -1 ∧ zBad ch L o p fl)
def zLst (L i : Int) (s' v' s v : List Int) (x : Int) : Prop := (i = 0 ∧ wsg (L + 2) s' = s ∧ wvl (L + 2) s' v' = x :: v) ∨ (1 ≤ i ∧ ∃ c x1 x2, c < 1000 ∧ rkv c = L + 1 ∧ wsg (L + 2) s' = c :: s ∧ wvl (L + 2) s' v' = x2 :: x1 :: v ∧ x = opv c x1 x2)
theorem zLst_1 {L i x : Int} {s' v' s v : List Int} (h : zLst L i s' v' s v x) (hc : cxt L s) : wsg (L + 1) s' = s ∧ wvl (L + 1) s' v' = x :: v := by
  have hw := cxt_w hc (show L < L + 1 by omega)
  rw [← wsg_2 (show L + 1 ≤ L + 2 by omega) s', ← wvl_2 (show L + 1 ≤ L + 2 by omega) s' v']
  rcases h with ⟨_, h1, h2⟩ | ⟨_, c, x1, x2, h0, h3, h1, h2, h4⟩
  · rw [h1, h2]
    exact ⟨hw.1, hw.2 _⟩
  · have hy : c < 1000 ∧ L + 1 ≤ rkv c := ⟨h0, by omega⟩
    rw [h1, h2, wsg_y hy, wvl_y hy, h4]
    exact ⟨hw.1, hw.2 _⟩
def zLpk (ch : Nat → Int) (L o p z : Int) (f : Nat → Int) (i q y fl : Int) : Prop := (fl = -1 ∧ ∀ nm s v, cxt L s → ∃ s' v' x, (∀ t, RV ch nm q.toNat 0 o s' v' t → RV ch nm p.toNat 1 o s v t) ∧ zLst L i s' v' s v x ∧ zEv f nm z y x ∧ zNS ch nm (L + 1) o s' v' q.toNat) ∨ (fl ≠ -1 ∧ zBad ch L o p fl)
theorem zLpk_0 {ch : Nat → Int} {L K o p z q y fl : Int} {f : Nat → Int} (h : zLv ch K o p z f q y fl) (hK : K = L + 1) : zLpk ch L o p z f 0 q y fl := by
  subst hK
  rcases h with ⟨h0, h⟩ | ⟨h0, h⟩
  · refine Or.inl ⟨h0, fun nm s v hc => ?_⟩
    obtain ⟨s', v', x, h1, h2, h3, h4, h5⟩ := h nm s v (cxt_m hc (by omega))
    have e : L + 1 + 1 = L + 2 := by omega
    rw [e] at h2 h3
    exact ⟨s', v', x, h1, Or.inl ⟨rfl, h2, h3⟩, h4, h5⟩
  · exact Or.inr ⟨h0, fun nm s v hc => h nm s v (cxt_m hc (by omega))⟩
theorem zNx_bl {ch : Nat → Int} {fl p q r : Int} (h : zNx ch fl p q r) (hf : fl = -1) (hp : 0 ≤ p) : p.toNat ≤ q.toNat ∧ (∀ k, p.toNat ≤ k → k < q.toNat → ch k = 32) ∧ ch q.toNat = r ∧ r ≠ 32 := by
  rcases h with ⟨_, h1, h2, h3, h4⟩ | ⟨h1, _⟩
  · exact ⟨by omega, fun k h5 h6 => h2 k (by omega) (by omega), h3, h4⟩
  · exact absurd hf h1
theorem zLpk_x {ch : Nat → Int} {L o p z i q y fl t r : Int} {f : Nat → Int} (h : zLpk ch L o p z f i q y fl) (hx : zNx ch fl q t r) (hr : rkv r - 1 ≠ L) (hq : 0 ≤ q) : zLv ch L o p z f t y fl := by
  rcases h with ⟨h0, h⟩ | ⟨h0, h⟩
  · obtain ⟨b1, b2, b3, b4⟩ := zNx_bl hx h0 hq
    refine Or.inl ⟨h0, fun nm s v hc => ?_⟩
    obtain ⟨s', v', x, h1, h2, h3, h4⟩ := h nm s v hc
    obtain ⟨h5, h6⟩ := zLst_1 h2 hc
    refine ⟨s', v', x, fun u hu => h1 u (RV_bls b2 b1 hu), h5, h6, h3, fun k hk1 hk2 hk3 => ?_⟩
    have e : k = t.toNat := by
      by_cases e : k = t.toNat
      · exact e
      · have := hk2 t.toNat (Nat.le_refl _) (by omega)
        omega
    subst e
    rcases h4 t.toNat b1 b2 (by omega) with h7 | h7
    · left
      rw [b3] at h7 ⊢
      omega
    · exact Or.inr h7
  · exact Or.inr ⟨h0, h⟩
theorem zLpk_e {ch : Nat → Int} {L o p z i q y fl : Int} {f : Nat → Int} (h : zLpk ch L o p z f i q y fl) (hc : fl ≠ -1 ∨ (L = 2 ∧ 1 ≤ i)) : zLv ch L o p z f q y fl := by
  rcases h with ⟨h0, h⟩ | ⟨h0, h⟩
  · obtain ⟨rfl, hi⟩ : L = 2 ∧ 1 ≤ i := by
      rcases hc with hc | hc
      · exact absurd h0 hc
      · exact hc
    refine Or.inl ⟨h0, fun nm s v hc => ?_⟩
    obtain ⟨s', v', x, h1, h2, h3, h4⟩ := h nm s v hc
    obtain ⟨h5, h6⟩ := zLst_1 h2 hc
    refine ⟨s', v', x, h1, h5, h6, h3, fun k hk1 hk2 hk3 => ?_⟩
    rcases h4 k hk1 hk2 hk3 with h7 | h7
    · by_cases h8 : rkv (ch k) ≤ 2
      · exact Or.inl h8
      · right
        refine RV_o3 (by omega) ?_
        rcases h2 with ⟨h9, _⟩ | ⟨_, c, x1, x2, h10, h11, h12, _⟩
        · omega
        · have e : (2 : Int) + 2 = 4 := by decide
          rw [e] at h12
          rw [h12]
          rcases tp3_c c s with ⟨h13, _⟩ | ⟨_, h13⟩
          · exact h13
          · exact absurd ⟨h10, h11⟩ h13
    · exact Or.inr h7
  · exact Or.inr ⟨h0, h⟩
theorem zLpk_s {ch : Nat → Int} {L K o p z i q y fl t r u y2 fl2 y3 i2 : Int} {f f2 f3 : Nat → Int} (h : zLpk ch L o p z f i q y fl) (hx : zNx ch fl q t r) (hr : rkv r - 1 = L) (h2 : zLv ch K o (t + 1) y f2 u y2 fl2) (hf : zFrm f f2 y) (h3 : fl2 ≠ -1 ∨ (f3 = zPt f2 y2.toNat (-r) ∧ y3 = y2 + 1)) (hn : 0 ≤ z ∧ z ≤ y ∧ (fl2 ≠ -1 ∨ y ≤ y2) ∧ 0 ≤ q ∧ 0 ≤ i ∧ (L ≠ 2 ∨ i = 0) ∧ 0 ≤ L ∧ K = L + 1 ∧ i2 = i + 1) : zLpk ch L o p z f3 i2 u y3 fl2 := by
  obtain ⟨n1, n2, n3, n4, n5, n6, n7, rfl, rfl⟩ := hn
  have hrc := rkv_c r
  rcases h with ⟨h0, h⟩ | ⟨h0, h⟩
  · obtain ⟨b1, b2, b3, b4⟩ := zNx_bl hx h0 n4
    have ht : (t + 1).toNat = t.toNat + 1 := by
      rcases hx with ⟨_, g1, _⟩ | ⟨g1, _⟩
      · omega
      · exact absurd h0 g1
    have key : ∀ nm s v, cxt L s → ∃ x, zEv f nm z y x ∧ cxt (L + 1) (r :: s) ∧ ∀ w, RV ch nm (t + 1).toNat 1 o (r :: s) (x :: v) w → RV ch nm p.toNat 1 o s v w := by
      intro nm s v hc
      obtain ⟨s', v', x, g1, g2, g3, g4⟩ := h nm s v hc
      refine ⟨x, g3, ⟨by omega, fun _ => by omega⟩, fun w hw => g1 w (RV_bls b2 b1 ?_)⟩
      rw [ht] at hw
      by_cases hL : L = 2
      · obtain ⟨e1, e2⟩ : wsg 4 s' = s ∧ wvl 4 s' v' = x :: v := by
          rcases g2 with ⟨_, g5, g6⟩ | ⟨g5, _⟩
          · have e : L + 2 = 4 := by omega
            rw [e] at g5 g6
            exact ⟨g5, g6⟩
          · omega
        have er : rqv r = 4 := if_pos (by omega)
        refine RV_op (by rw [b3]; omega) (fun g => ?_) (by rw [b3, er, e1, e2]; exact hw)
        rw [e1] at g
        subst hL
        exact cxt_3 hc g.2
      · obtain ⟨e1, e2⟩ := zLst_1 g2 hc
        have er : rqv r = L + 1 := (if_neg (by omega)).trans (by omega)
        exact RV_op (by rw [b3]; omega) (fun g => by rw [b3] at g; omega) (by rw [b3, er, e1, e2]; exact hw)
    rcases h2 with ⟨k0, k⟩ | ⟨k0, k⟩
    · obtain ⟨e3, e4⟩ : f3 = zPt f2 y2.toNat (-r) ∧ y3 = y2 + 1 := by
        rcases h3 with h3 | h3
        · exact absurd k0 h3
        · exact h3
      subst e3 e4
      refine Or.inl ⟨k0, fun nm s v hc => ?_⟩
      obtain ⟨x, g3, gc, gf⟩ := key nm s v hc
      obtain ⟨s2, v2, x2, j1, j2, j3, j4, j5⟩ := k nm (r :: s) (x :: v) gc
      have e : L + 1 + 1 = L + 2 := by omega
      rw [e] at j2 j3
      refine ⟨s2, v2, opv r x x2, fun w hw => gf w (j1 w hw), Or.inr ⟨by omega, r, x, x2, by omega, by omega, j2, j3, rfl⟩, fun st => ?_, j5⟩
      have e1 : (y2 + 1 - z).toNat = (y2 - z).toNat + 1 := by omega
      have e2 : z.toNat + (y2 - z).toNat = y2.toNat := by omega
      rw [evl_s e1, e2, zPt_eq, evl_cg (g := f2) (fun i h1 h2 => zPt_ne (by omega)), evl_add (j := (y - z).toNat) (b := y.toNat) (k := (y2 - y).toNat) (by omega) (by omega), zEv_fr g3 ⟨n1, n2⟩ hf st, j4 (x :: st), evs_o (by omega)]
    · refine Or.inr ⟨k0, fun nm s v hc => ?_⟩
      obtain ⟨x, g3, gc, gf⟩ := key nm s v hc
      exact gf _ (k nm (r :: s) (x :: v) gc)
  · rcases hx with ⟨g1, _⟩ | ⟨_, _, g1⟩
    · exact absurd g1 h0
    · subst g1
      have : rkv (-1) = 0 := by decide
      omega
/-! units -/
def zCr (ch : Nat → Int) (o p z : Int) (f : Nat → Int) (q y fl : Int) : Prop := (fl = -1 ∧ ∀ nm s v, ∃ x, (∀ t, RV ch nm q.toNat 0 o (sds s) (sdx s x :: v) t → RV ch nm p.toNat 1 o s v t) ∧ zEv f nm z y x) ∨ (fl ≠ -1 ∧ ∀ nm s v, RV ch nm p.toNat 1 o s v (fl, 0))
theorem zCr_c {ch : Nat → Int} {o p z z' q y fl : Int} {f : Nat → Int} (h : zCr ch o p z f q y fl) (hz : z' = z) : zCr ch o p z' f q y fl := by
  rw [hz]
  exact h
def zAh (ch : Nat → Int) (b a r : Int) : Prop := b ≤ a ∧ ch a.toNat = r ∧ r ≠ 32 ∧ ∀ nm o s v t, RV ch nm a.toNat 1 o (usg ch b.toNat (a - b).toNat ++ s) v t → RV ch nm b.toNat 1 o s v t
theorem zAh_0 {ch : Nat → Int} {fl b a r : Int} (hx : zNx ch fl b a r) (hf : fl = -1) (hb : 0 ≤ b) : zAh ch b a r := by
  obtain ⟨b1, b2, b3, b4⟩ := zNx_bl hx hf hb
  have hle : b ≤ a := by
    rcases hx with ⟨_, g1, _⟩ | ⟨g1, _⟩
    · exact g1
    · exact absurd hf g1
  refine ⟨hle, b3, b4, fun nm o s v t ht => ?_⟩
  rw [usg_bl (k := 0) (Nat.zero_le _) (fun i h1 h2 => b2 i (by omega) (by omega))] at ht
  exact RV_bls b2 b1 ht
theorem zAh_s {ch : Nat → Int} {fl b a a1 r a2 r2 : Int} (h : zAh ch b a r) (hr : r = 33 ∨ r = 45) (hx : zNx ch fl a1 a2 r2) (hf : fl = -1) (hb : 0 ≤ b ∧ a1 = a + 1) : zAh ch b a2 r2 := by
  obtain ⟨hb, rfl⟩ := hb
  obtain ⟨h1, h2, h3, h4⟩ := h
  obtain ⟨b1, b2, b3, b4⟩ := zNx_bl hx hf (by omega)
  have hle : a + 1 ≤ a2 := by
    rcases hx with ⟨_, g1, _⟩ | ⟨g1, _⟩
    · exact g1
    · exact absurd hf g1
  have ea : b.toNat + (a - b).toNat = a.toNat := by omega
  have e1 : (a + 1).toNat = a.toNat + 1 := by omega
  refine ⟨by omega, b3, b4, fun nm o s v t ht => h4 nm o s v t ?_⟩
  rw [usg_bl (k := (a - b).toNat + 1) (by omega) (fun i h5 h6 => b2 i (by omega) (by omega))] at ht
  have ht := RV_bls b2 b1 ht
  rw [e1] at ht
  refine RV_un (by rw [h2]; exact hr) ?_
  rcases hr with hr | hr
  · rw [usg_b rfl (by rw [ea, h2]; exact hr)] at ht
    rw [if_pos (by rw [h2]; exact hr)]
    exact ht
  · rw [usg_l rfl (by rw [ea, h2]; exact hr)] at ht
    rw [if_neg (by rw [h2]; omega)]
    exact ht
theorem zAh_c {ch : Nat → Int} {b a r : Int} (h : zAh ch b a r) (h1 : 48 ≤ r ∧ r ≤ 57) : 48 ≤ ch a.toNat ∧ ch a.toNat ≤ 57 := by
  rw [h.2.1]
  exact h1
theorem zAh_d {ch : Nat → Int} {b a r c : Int} (h : zAh ch b a r) (h1 : r = c) : ch a.toNat = c := h.2.1.trans h1
theorem zCr_f {ch : Nat → Int} {o p z q y fl r b : Int} {f : Nat → Int} (h : zAh ch b p r) (h1 : ¬ (48 ≤ r ∧ r ≤ 57)) (h2 : nmv r = -1) (h3 : r ≠ 33 ∧ r ≠ 45 ∧ r ≠ 40) (hf : fl = p * 10 + 1 ∧ 0 ≤ p) : zCr ch o p z f q y fl := by
  obtain ⟨_, h4, h5, _⟩ := h
  refine Or.inr ⟨by omega, fun nm s v => ?_⟩
  have z := RV_w1 (ch := ch) (nm := nm) (a := p.toNat) (o := o) (s := s) (v := v) (by rw [h4]; exact h5) (by rw [h4]; exact h1) (by rw [h4]; exact h2) (by rw [h4]; exact h3)
  rw [show (10 * (p.toNat : Int) + 1) = fl by omega] at z
  exact z
theorem zCr_l {ch : Nat → Int} {o p z q y fl r b : Int} {f g : Nat → Int} {z0 : Int} (h : zAh ch b p r) (h2 : nmv r ≠ -1) (hg : g = zPt f z0.toNat (-r)) (hf : fl = -1 ∧ 0 ≤ p ∧ 0 ≤ z ∧ q = p + 1 ∧ z0 = z ∧ y = z + 1) : zCr ch o p z g q y fl := by
  obtain ⟨_, h4, h5, _⟩ := h
  obtain ⟨f1, f2, f3, rfl, rfl, rfl⟩ := hf
  subst hg
  refine Or.inl ⟨f1, fun nm s v => ⟨nm (nmv r), fun t ht => ?_, fun st => ?_⟩⟩
  · refine RV_nm (by rw [h4]; exact h2) ?_
    rw [show (p + 1).toNat = p.toNat + 1 by omega] at ht
    rw [h4]
    exact ht
  · rw [evl_s (k := 0) (by omega), Nat.add_zero, zPt_eq, evl_z rfl, evs_n h2]
def zDg (ch : Nat → Int) (b a : Int) : Prop := b ≤ a ∧ a ≤ b + 6 ∧ ∀ i : Nat, b ≤ i → (i : Int) < a → 48 ≤ ch i ∧ ch i ≤ 57
theorem zDg_0 {ch : Nat → Int} {b : Int} : zDg ch b b := ⟨by omega, by omega, fun i h1 h2 => by omega⟩
theorem zDg_s {ch : Nat → Int} {b a a1 x : Int} (h : zDg ch b a) (hx : ch a.toNat = x) (h1 : 48 ≤ x ∧ x ≤ 57) (ha : a < b + 6 ∧ 0 ≤ a ∧ a1 = a + 1) : zDg ch b a1 := by
  obtain ⟨g1, g2, g3⟩ := h
  refine ⟨by omega, by omega, fun i h2 h3 => ?_⟩
  by_cases e : i = a.toNat
  · rw [e, hx]
    exact h1
  · exact g3 i h2 (by omega)
theorem zDg_v {ch : Nat → Int} {b a : Int} (h : zDg ch b a) (hb : 0 ≤ b) : 0 ≤ dvl ch b.toNat (a - b).toNat ∧ dvl ch b.toNat (a - b).toNat ≤ 999999 ∧ (a ≤ b + 5 → dvl ch b.toNat (a - b).toNat ≤ 99999) := by
  obtain ⟨g1, g2, g3⟩ := h
  have := dvl_b (ch := ch) (a := b.toNat) (j := (a - b).toNat) (fun i hi => g3 _ (by omega) (by omega)) (by omega)
  omega
theorem dvl_t {ch : Nat → Int} {b a a1 x : Int} (hx : ch a.toNat = x) (h : 0 ≤ b ∧ b ≤ a ∧ a1 = a + 1) : dvl ch b.toNat (a1 - b).toNat = 10 * dvl ch b.toNat (a - b).toNat + (x - 48) := by
  rw [dvl_s ch b.toNat (j := (a - b).toNat) (by omega), show b.toNat + (a - b).toNat = a.toNat by omega, hx]
theorem dvl_n {ch : Nat → Int} {b a a1 x v v1 : Int} (h : v = dvl ch b.toNat (a - b).toNat) (hx : ch a.toNat = x) (h1 : 0 ≤ b ∧ b ≤ a ∧ a1 = a + 1 ∧ v1 = v * 10 + x - 48) : v1 = dvl ch b.toNat (a1 - b).toNat := by
  rw [dvl_t hx ⟨h1.1, h1.2.1, h1.2.2.1⟩, ← h]
  omega
theorem zDg_lt {ch : Nat → Int} {b a : Int} (h : zDg ch b a) (hd : 48 ≤ ch b.toNat ∧ ch b.toNat ≤ 57) (hn : ¬ (48 ≤ ch a.toNat ∧ ch a.toNat ≤ 57)) : b < a := by
  have h1 := h.1
  by_cases e : b = a
  · subst e
    exact absurd hd hn
  · omega
theorem zDg_n {ch : Nat → Int} {b a : Int} (h : zDg ch b a) (hn : ¬ (48 ≤ ch a.toNat ∧ ch a.toNat ≤ 57)) (hb : 0 ≤ b) : dln ch 7 b.toNat = (a - b).toNat := by
  obtain ⟨g1, g2, g3⟩ := h
  exact dln_e 7 _ _ (fun i hi => g3 _ (by omega) (by omega)) (by omega) (Or.inr (by rw [show b.toNat + (a - b).toNat = a.toNat by omega]; exact hn))
theorem zDg_7 {ch : Nat → Int} {b a : Int} (h : zDg ch b a) (h1 : 48 ≤ ch a.toNat ∧ ch a.toNat ≤ 57) (hb : 0 ≤ b ∧ b + 6 ≤ a) : dln ch 7 b.toNat = 7 ∧ 48 ≤ ch b.toNat ∧ ch b.toNat ≤ 57 := by
  obtain ⟨g1, g2, g3⟩ := h
  refine ⟨dln_e 7 _ _ (fun i hi => ?_) (by omega) (Or.inl rfl), g3 _ (by omega) (by omega)⟩
  by_cases e : b.toNat + i = a.toNat
  · rw [e]
    exact h1
  · exact g3 _ (by omega) (by omega)
theorem zCr_d {ch : Nat → Int} {o b z a y fl : Int} {f g : Nat → Int} {v0 z0 : Int} (h : zDg ch b a) (hn : ¬ (48 ≤ ch a.toNat ∧ ch a.toNat ≤ 57)) (hv : v0 = dvl ch b.toNat (a - b).toNat) (hg : g = zPt f z0.toNat v0) (hf : fl = -1 ∧ 0 ≤ b ∧ b < a ∧ 0 ≤ z ∧ z0 = z ∧ y = z + 1) : zCr ch o b z g a y fl := by
  obtain ⟨f1, f2, f3, f4, rfl, rfl⟩ := hf
  subst hg
  have h7 := zDg_n h hn f2
  have hb := zDg_v h f2
  have hd := h.2.2 b.toNat (by omega) (by omega)
  have hl := h.2.1
  refine Or.inl ⟨f1, fun nm s v => ⟨v0, fun t ht => ?_, fun st => ?_⟩⟩
  · refine RV_dg hd h7 (by omega) ?_
    rw [show b.toNat + (a - b).toNat = a.toNat by omega, ← hv]
    exact ht
  · rw [evl_s (k := 0) (by omega), Nat.add_zero, zPt_eq, evl_z rfl, evs_v (by omega)]
theorem zCr_7 {ch : Nat → Int} {o b z a q y fl : Int} {f : Nat → Int} (h : zDg ch b a) (h1 : 48 ≤ ch a.toNat ∧ ch a.toNat ≤ 57) (hf : fl = b * 10 + 2 ∧ 0 ≤ b ∧ b + 6 ≤ a) : zCr ch o b z f q y fl := by
  obtain ⟨h2, h3⟩ := zDg_7 h h1 ⟨hf.2.1, hf.2.2⟩
  refine Or.inr ⟨by omega, fun nm s v => ?_⟩
  have z := RV_d7 (ch := ch) (nm := nm) (a := b.toNat) (o := o) (s := s) (v := v) h3 h2
  rw [show (10 * (b.toNat : Int) + 2) = fl by omega] at z
  exact z
theorem zBr_9 {ch : Nat → Int} {o p z q y fl : Int} {f : Nat → Int} (h : ch p.toNat = 40) (hf : fl = p * 10 + 3 ∧ 0 ≤ p ∧ 8 ≤ o) : zCr ch o p z f q y fl := by
  refine Or.inr ⟨by omega, fun nm s v => ?_⟩
  have z := RV_b9 (ch := ch) (nm := nm) (a := p.toNat) (o := o) (s := s) (v := v) h (by omega)
  rw [show (10 * (p.toNat : Int) + 3) = fl by omega] at z
  exact z
theorem zBr_y {ch : Nat → Int} {o p z q y fl fl1 t r o1 p1 t1 : Int} {f : Nat → Int} (h : ch p.toNat = 40) (h1 : zLv ch 0 o1 p1 z f q y fl1) (hx : zNx ch fl1 q t r) (hr : r = 41) (hf : fl = fl1 ∧ 0 ≤ p ∧ o < 8 ∧ o1 = o + 1 ∧ p1 = p + 1 ∧ 0 ≤ o ∧ 0 ≤ q ∧ t1 = t + 1) : zCr ch o p z f t1 y fl := by
  obtain ⟨rfl, f1, f2, rfl, rfl, f3, f4, rfl⟩ := hf
  rcases h1 with ⟨h0, h1⟩ | ⟨h0, _⟩
  · obtain ⟨b1, b2, b3, b4⟩ := zNx_bl hx h0 f4
    have hle : q ≤ t := by
      rcases hx with ⟨_, g1, _⟩ | ⟨g1, _⟩
      · exact g1
      · exact absurd h0 g1
    refine Or.inl ⟨h0, fun nm s v => ?_⟩
    obtain ⟨s', v', x, g1, g2, g3, g4, _⟩ := h1 nm (1000 :: s) v ⟨by omega, fun g => absurd g (by omega)⟩
    refine ⟨x, fun w hw => ?_, g4⟩
    refine RV_br h f2 ?_
    rw [show p.toNat + 1 = (p + 1).toNat by omega]
    refine g1 w (RV_bls b2 b1 ?_)
    refine RV_cl (by rw [b3]; exact hr) (by omega) ?_
    have e : (0 : Int) + 1 = 1 := rfl
    rw [e] at g2 g3
    rw [g2, g3, show o + 1 - 1 = o by omega, show t.toNat + 1 = (t + 1).toNat by omega]
    exact hw
  · rcases hx with ⟨g1, _⟩ | ⟨_, _, g1⟩
    · exact absurd g1 h0
    · omega
theorem zBr_n {ch : Nat → Int} {o p z q y fl fl1 t r o1 p1 q2 : Int} {f : Nat → Int} (h : ch p.toNat = 40) (h1 : zLv ch 0 o1 p1 z f q y fl1) (hx : zNx ch fl1 q t r) (hr : r ≠ 41) (hf : (fl1 = -1 ∧ fl = t * 10 + 1) ∨ (fl1 ≠ -1 ∧ fl = fl1)) (hn : 0 ≤ p ∧ o < 8 ∧ o1 = o + 1 ∧ p1 = p + 1 ∧ 0 ≤ o ∧ 0 ≤ q ∧ 0 ≤ t) : zCr ch o p z f q2 y fl := by
  obtain ⟨f1, f2, rfl, rfl, f3, f4, f5⟩ := hn
  have hc : ∀ nm s, cxt 0 (1000 :: s) := fun _ s => ⟨by omega, fun g => absurd g (by omega)⟩
  rcases h1 with ⟨h0, h1⟩ | ⟨h0, h1⟩
  · obtain ⟨b1, b2, b3, b4⟩ := zNx_bl hx h0 f4
    refine Or.inr ⟨by omega, fun nm s v => ?_⟩
    obtain ⟨s', v', x, g1, g2, g3, g4, g5⟩ := h1 nm (1000 :: s) v ⟨by omega, fun g => absurd g (by omega)⟩
    refine RV_br h f2 ?_
    rw [show p.toNat + 1 = (p + 1).toNat by omega]
    refine g1 _ (RV_bls b2 b1 ?_)
    rw [show fl = 10 * (t.toNat : Int) + 1 by omega]
    rcases g5 t.toNat b1 b2 (by omega) with g6 | g6
    · exact RV_w0 (by omega) (by omega) g6 (by omega)
    · exact g6
  · refine Or.inr ⟨by omega, fun nm s v => ?_⟩
    refine RV_br h f2 ?_
    rw [show p.toNat + 1 = (p + 1).toNat by omega, show fl = fl1 by omega]
    exact h1 nm (1000 :: s) v ⟨by omega, fun g => absurd g (by omega)⟩
/-! the signs ahead, added behind the unit -/
def zAd (f0 : Nat → Int) (b c z : Int) (f : Nat → Int) (y i : Int) : Prop := ∀ nm st x, ∃ w, evl f nm z.toNat (y - z).toNat (x :: st) = w :: st ∧ uap (usg f0 b.toNat (c - b).toNat) x = uap (usg f0 b.toNat (i - b).toNat) w
theorem zAd_0 {f0 f : Nat → Int} {b c z y i : Int} (h : y = z ∧ i = c) : zAd f0 b c z f y i := by
  obtain ⟨rfl, rfl⟩ := h
  exact fun nm st x => ⟨x, evl_z (by omega), rfl⟩
theorem zAd_n {f0 f : Nat → Int} {b c z y i i1 x : Int} (h : zAd f0 b c z f y i) (hx : x = f0 i1.toNat) (h1 : x ≠ 33 ∧ x ≠ 45) (hi : 0 ≤ b ∧ b ≤ i1 ∧ i = i1 + 1) : zAd f0 b c z f y i1 := by
  obtain ⟨g1, g2, rfl⟩ := hi
  intro nm st w
  obtain ⟨u, h2, h3⟩ := h nm st w
  refine ⟨u, h2, ?_⟩
  rw [h3, usg_n (k := (i1 - b).toNat) (by omega)]
  · rw [show b.toNat + (i1 - b).toNat = i1.toNat by omega, ← hx]; exact h1.1
  · rw [show b.toNat + (i1 - b).toNat = i1.toNat by omega, ← hx]; exact h1.2
theorem zAd_y {f0 f g : Nat → Int} {b c z y y1 i i1 x k : Int} (h : zAd f0 b c z f y i) (hx : x = f0 i1.toNat) (h1 : (x = 33 ∧ k = -33) ∨ (x = 45 ∧ k = -126)) (hg : g = zPt f y.toNat k) (hi : 0 ≤ b ∧ b ≤ i1 ∧ i = i1 + 1 ∧ 0 ≤ z ∧ z ≤ y ∧ y1 = y + 1) : zAd f0 b c z g y1 i1 := by
  obtain ⟨g1, g2, rfl, g3, g4, rfl⟩ := hi
  subst hg
  intro nm st w
  obtain ⟨u, h2, h3⟩ := h nm st w
  have e1 : (y + 1 - z).toNat = (y - z).toNat + 1 := by omega
  have e2 : z.toNat + (y - z).toNat = y.toNat := by omega
  have e3 : b.toNat + (i1 - b).toNat = i1.toNat := by omega
  have e4 : evl (zPt f y.toNat k) nm z.toNat (y - z).toNat (w :: st) = u :: st := by
    rw [← h2]
    exact evl_cg fun j j1 j2 => zPt_ne (by omega)
  rcases h1 with ⟨h1, rfl⟩ | ⟨h1, rfl⟩
  · refine ⟨unv 1001 u, ?_, ?_⟩
    · rw [evl_s e1, e2, zPt_eq, e4, evs_b]
    · rw [h3, usg_b (k := (i1 - b).toNat) (by omega) (by rw [e3, ← hx]; exact h1)]
      rfl
  · refine ⟨unv 1002 u, ?_, ?_⟩
    · rw [evl_s e1, e2, zPt_eq, e4, evs_l]
    · rw [h3, usg_l (k := (i1 - b).toNat) (by omega) (by rw [e3, ← hx]; exact h1)]
      rfl
def zAq (f0 : Nat → Int) (b c z : Int) (f : Nat → Int) (y i : Int) : Prop := zAd f0 b c z f y i ∨ 50 < z + (c - b)
theorem zAq_0 {f0 f : Nat → Int} {b c z y i : Int} (h : y = z ∧ i = c) : zAq f0 b c z f y i := Or.inl (zAd_0 h)
theorem zAq_n {f0 f : Nat → Int} {b c z y i k i1 x : Int} (h : zAq f0 b c z f y i) (hx : x = f0 k.toNat) (h1 : x ≠ 33 ∧ x ≠ 45) (hi : 0 ≤ b ∧ b ≤ k ∧ i = k + 1 ∧ i1 = k) : zAq f0 b c z f y i1 := by
  obtain ⟨g1, g2, g3, rfl⟩ := hi
  rcases h with h | h
  · exact Or.inl (zAd_n h hx h1 ⟨g1, g2, g3⟩)
  · exact Or.inr h
theorem zAq_y {f0 f g : Nat → Int} {b c z y y1 i k i1 x w : Int} (h : zAq f0 b c z f y i) (hx : x = f0 k.toNat) (h1 : (x = 33 ∧ w = -33) ∨ (x = 45 ∧ w = -126)) (hg : g = zPt f y.toNat w) (hi : 0 ≤ b ∧ b ≤ k ∧ i = k + 1 ∧ i1 = k ∧ 0 ≤ z ∧ z ≤ y ∧ y1 = y + 1) : zAq f0 b c z g y1 i1 := by
  obtain ⟨g1, g2, g3, rfl, g4, g5, g6⟩ := hi
  rcases h with h | h
  · exact Or.inl (zAd_y h hx h1 hg ⟨g1, g2, g3, g4, g5, g6⟩)
  · exact Or.inr h
theorem zAq_o {f0 f : Nat → Int} {b c z y i : Int} (h : 50 < z + (c - b)) : zAq f0 b c z f y i := Or.inr h
theorem zUn {f0 f1 f2 : Nat → Int} {n o b a r z q y y2 fl : Int} (h : zAh (chf f0 n) b a r) (hc : zCr (chf f0 n) o a z f1 q y fl) (hd : fl ≠ -1 ∨ zAd f0 b a y f2 y2 b) (hf : fl ≠ -1 ∨ zFrm f1 f2 y) (hn : 0 ≤ b ∧ a ≤ n ∧ 0 ≤ z ∧ (fl ≠ -1 ∨ (z ≤ y ∧ y ≤ y2))) : zLv (chf f0 n) 5 o b z f2 q y2 fl := by
  obtain ⟨n1, n2, n3, n4⟩ := hn
  obtain ⟨a1, a2, a3, a4⟩ := h
  have hu : usg (chf f0 n) b.toNat (a - b).toNat = usg f0 b.toNat (a - b).toNat := usg_cg fun i hi => chf_lt (by omega)
  rcases hc with ⟨h0, h1⟩ | ⟨h0, h1⟩
  · refine Or.inl ⟨h0, fun nm s v hcx => ?_⟩
    have hd : zAd f0 b a y f2 y2 b := by
      rcases hd with hd | hd
      · exact absurd h0 hd
      · exact hd
    have hf : zFrm f1 f2 y := by
      rcases hf with hf | hf
      · exact absurd h0 hf
      · exact hf
    obtain ⟨x, g1, g2⟩ := h1 nm (usg (chf f0 n) b.toNat (a - b).toNat ++ s) v
    obtain ⟨s1, s2⟩ := usg_sd (ch := chf f0 n) (b := b.toNat) (s := s) (a - b).toNat
    obtain ⟨c1, c2⟩ := cxt_s hcx
    obtain ⟨w1, w2⟩ := cxt_w hcx (show (5 : Int) < 5 + 1 by omega)
    rw [s1, s2, c1, c2] at g1
    refine ⟨s, uap (usg (chf f0 n) b.toNat (a - b).toNat) x :: v, uap (usg (chf f0 n) b.toNat (a - b).toNat) x, fun t ht => a4 nm o s v t (g1 t ht), w1, w2 _, fun st => ?_, fun k _ _ _ => ?_⟩
    · obtain ⟨w, e1, e2⟩ := hd nm st x
      rw [hu, e2, evl_add (f := f2) (nm := nm) (a := z.toNat) (j := (y - z).toNat) (b := y.toNat) (k := (y2 - y).toNat) (n := (y2 - z).toNat) (st := st) (by omega) (by omega), zEv_fr g2 ⟨n3, by omega⟩ hf st, e1, show (b - b).toNat = 0 by omega]
      rfl
    · have := rkv_c (chf f0 n k)
      left
      omega
  · refine Or.inr ⟨h0, fun nm s v _ => a4 nm o s v _ (h1 nm _ v)⟩
theorem zUn2 {f0 f1 f2 : Nat → Int} {n o b a r z q y y2 fl : Int} (h : zAh (chf f0 n) b a r) (hc : zCr (chf f0 n) o a z f1 q y fl) (hd : zAq f0 b a y f2 y2 b) (hf : zFrm f1 f2 y) (hn : 0 ≤ b ∧ a ≤ n ∧ 0 ≤ z ∧ (fl ≠ -1 ∨ (z ≤ y ∧ y ≤ y2 ∧ y + (a - b) ≤ 50))) : zLv (chf f0 n) 5 o b z f2 q y2 fl := by
  refine zUn h hc ?_ (Or.inr hf) (by omega)
  rcases hd with hd | hd
  · exact Or.inr hd
  · exact Or.inl (by omega)
/-! the whole text -/
def zPc (ch : Nat → Int) (f : Nat → Int) (y fl : Int) : Prop := (fl = -1 ∧ ∀ nm, ∃ x, RV ch nm 0 1 0 [] [] (-1, x) ∧ evl f nm 0 y.toNat [] = [x]) ∨ (fl ≠ -1 ∧ ∀ nm, RV ch nm 0 1 0 [] [] (fl, 0))
theorem zPc_b {ch : Nat → Int} {f : Nat → Int} {q y fl : Int} (h : zLv ch 0 0 0 0 f q y fl) (hf : fl ≠ -1) : zPc ch f y fl := by
  rcases h with ⟨h0, _⟩ | ⟨h0, h1⟩
  · exact absurd h0 hf
  · exact Or.inr ⟨h0, fun nm => h1 nm [] [] trivial⟩
theorem zPc_y {ch : Nat → Int} {f : Nat → Int} {q y fl t r : Int} (h : zLv ch 0 0 0 0 f q y fl) (hx : zNx ch fl q t r) (hr : r = -1) (hf : fl = -1 ∧ 0 ≤ q ∧ 0 ≤ y) : zPc ch f y fl := by
  obtain ⟨f1, f2, f3⟩ := hf
  rcases h with ⟨h0, h1⟩ | ⟨h0, _⟩
  · obtain ⟨b1, b2, b3, b4⟩ := zNx_bl hx h0 f2
    refine Or.inl ⟨h0, fun nm => ?_⟩
    obtain ⟨s', v', x, g1, g2, g3, g4, _⟩ := h1 nm [] [] trivial
    refine ⟨x, g1 _ (RV_bls b2 b1 ?_), ?_⟩
    · have z := RV_fi (ch := ch) (nm := nm) (a := t.toNat) (o := 0) (s := s') (v := v') (by rw [b3]; exact hr) rfl
      have e : (0 : Int) + 1 = 1 := rfl
      rw [e] at g3
      rw [g3] at z
      exact z
    · have z := g4 []
      rw [show (y - 0).toNat = y.toNat by omega] at z
      exact z
  · exact absurd f1 h0
theorem zPc_n {ch : Nat → Int} {f : Nat → Int} {q y fl fl1 t r : Int} (h : zLv ch 0 0 0 0 f q y fl1) (hx : zNx ch fl1 q t r) (hr : r ≠ -1) (hf : fl1 = -1 ∧ 0 ≤ q ∧ 0 ≤ t ∧ fl = t * 10 + 1) : zPc ch f y fl := by
  obtain ⟨f1, f2, f3, f4⟩ := hf
  rcases h with ⟨h0, h1⟩ | ⟨h0, _⟩
  · obtain ⟨b1, b2, b3, b4⟩ := zNx_bl hx h0 f2
    refine Or.inr ⟨by omega, fun nm => ?_⟩
    obtain ⟨s', v', x, g1, g2, g3, g4, g5⟩ := h1 nm [] [] trivial
    refine g1 _ (RV_bls b2 b1 ?_)
    rw [show fl = 10 * (t.toNat : Int) + 1 by omega]
    rcases g5 t.toNat b1 b2 (by omega) with g6 | g6
    · exact RV_w0 (by omega) (by omega) g6 (by omega)
    · exact g6
  · exact absurd f1 h0
/-! the reference's reading -/
def cht (F : Nat → Int) (t : Int) : Nat → Int := chf (fun k => F (452 + 52 * t.toNat + k)) (F (451 + 52 * t.toNat))
def nmf (F : Nat → Int) : Int → Int := fun k => F k.toNat
theorem cht_a {F : Nat → Int} {t p x n : Int} {i j : Nat} (hn : n = F i) (hx : x = F j) (h : 0 ≤ t ∧ 0 ≤ p ∧ p < n ∧ (i : Int) = 451 + 52 * t ∧ (j : Int) = 452 + 52 * t + p) : cht F t p.toNat = x := by
  obtain ⟨h1, h2, h3, h4, h5⟩ := h
  have e1 : i = 451 + 52 * t.toNat := by omega
  have e2 : j = 452 + 52 * t.toNat + p.toNat := by omega
  rw [hx, e2]
  rw [hn, e1] at h3
  exact chf_lt (by omega)
theorem cht_z {F : Nat → Int} {t p n : Int} {i : Nat} (hn : n = F i) (h : 0 ≤ t ∧ 0 ≤ p ∧ n ≤ p ∧ (i : Int) = 451 + 52 * t) : cht F t p.toNat = -1 := by
  obtain ⟨h1, h2, h3, h4⟩ := h
  have e1 : i = 451 + 52 * t.toNat := by omega
  rw [hn, e1] at h3
  exact chf_ge (by omega)
def zStd (F : Nat → Int) (n0 x0 n x : Int) : Prop := sds (slv F n.toNat) = sds (slv F n0.toNat) ∧ sdx (slv F n.toNat) x = sdx (slv F n0.toNat) x0
theorem zStd_0 {F : Nat → Int} {n x : Int} : zStd F n x n x := ⟨rfl, rfl⟩
theorem zStd_s {F : Nat → Int} {n0 x0 n n1 x y c : Int} (h : zStd F n0 x0 n x) (hc : c = F (n - 1).toNat) (hy : (c = 1001 ∧ ((x = 0 ∧ y = 1) ∨ (x ≠ 0 ∧ y = 0))) ∨ (c ≠ 1001 ∧ y = Lneg x)) (h1 : 1000 < c ∧ 0 < n ∧ n1 = n - 1) : zStd F n0 x0 n1 y := by
  obtain ⟨g1, g2, rfl⟩ := h1
  have e := slv_s F (n := n.toNat) (k := (n - 1).toNat) (by omega)
  have ey := unv_e hy
  unfold zStd at h ⊢
  rw [e, ← hc, sds_y g1, sdx_y g1, ← ey] at h
  exact h
theorem zStd_e {F : Nat → Int} {n0 x0 n x c : Int} (h : zStd F n0 x0 n x) (h1 : n ≤ 0 ∨ (0 < n ∧ c ≤ 1000)) (hc : n ≤ 0 ∨ c = F (n - 1).toNat) : slv F n.toNat = sds (slv F n0.toNat) ∧ x = sdx (slv F n0.toNat) x0 := by
  unfold zStd at h
  by_cases hn : n ≤ 0
  · rw [show n.toNat = 0 by omega] at h ⊢
    exact h
  · have e := slv_s F (n := n.toNat) (k := (n - 1).toNat) (by omega)
    have hc : c = F (n - 1).toNat := by
      rcases hc with hc | hc
      · exact absurd hc hn
      · exact hc
    have g : ¬ 1000 < c := by omega
    rw [e, ← hc, sds_n g, sdx_n g] at h
    rw [e, ← hc]
    exact h
theorem zWk {F G : Nat → Int} {c a b r k : Int} {i j l : Nat} (hc : c = F i) (ha : a = G j) (hb : b = G l) (h : (c = 124 ∧ (((a ≠ 0 ∨ b ≠ 0) ∧ r = 1) ∨ (a = 0 ∧ b = 0 ∧ r = 0))) ∨ (c = 38 ∧ ((a ≠ 0 ∧ b ≠ 0 ∧ r = 1) ∨ ((a = 0 ∨ b = 0) ∧ r = 0))) ∨ (c = 60 ∧ ((a < b ∧ r = 1) ∨ (b ≤ a ∧ r = 0))) ∨ (c = 62 ∧ ((b < a ∧ r = 1) ∨ (a ≤ b ∧ r = 0))) ∨ (c = 61 ∧ ((a = b ∧ r = 1) ∨ (a ≠ b ∧ r = 0))) ∨ (c = 43 ∧ r = Ladd a b) ∨ (c = 45 ∧ r = Lsub a b) ∨ (c = 42 ∧ r = Lmul a b) ∨ (c ≠ 124 ∧ c ≠ 38 ∧ c ≠ 60 ∧ c ≠ 62 ∧ c ≠ 61 ∧ c ≠ 43 ∧ c ≠ 45 ∧ c ≠ 42 ∧ ((b = 0 ∧ r = 0) ∨ (b ≠ 0 ∧ r = Ldiv a b)))) : r = opv (F i) (G j) (G l) := by
  rw [← hc, ← ha, ← hb]
  exact opv_e h
def zWd (F : Nat → Int) (r n0 : Int) (G0 : Nat → Int) (v0 n : Int) (G : Nat → Int) (v : Int) : Prop := wsg r (slv F n.toNat) = wsg r (slv F n0.toNat) ∧ wvl r (slv F n.toNat) (slv G v.toNat) = wvl r (slv F n0.toNat) (slv G0 v0.toNat)
theorem zWd_0 {F G : Nat → Int} {r n v : Int} : zWd F r n G v n G v := ⟨rfl, rfl⟩
theorem zWd_s {F G0 G G1 : Nat → Int} {r n0 v0 n v n1 v1 c k : Int} (h : zWd F r n0 G0 v0 n G v) (hc : c = F (n - 1).toNat) (hk : k = rkv c) (hG : G1 = zPt G (v - 1 - 1).toNat (opv (F (n - 1).toNat) (G (v - 1 - 1).toNat) (G (v - 1).toNat))) (h1 : c < 1000 ∧ r ≤ k ∧ 0 < n ∧ 2 ≤ v ∧ n1 = n - 1 ∧ v1 = v - 1) : zWd F r n0 G0 v0 n1 G1 v1 := by
  obtain ⟨g1, g2, g3, g4, rfl, rfl⟩ := h1
  have e := slv_s F (n := n.toNat) (k := (n - 1).toNat) (by omega)
  have hy : c < 1000 ∧ r ≤ rkv c := ⟨g1, by omega⟩
  have ev : slv G v.toNat = G (v - 1).toNat :: G (v - 1 - 1).toNat :: slv G (v - 1 - 1).toNat := by
    rw [slv_s G (n := v.toNat) (k := (v - 1).toNat) (by omega), slv_s G (n := (v - 1).toNat) (k := (v - 1 - 1).toNat) (by omega)]
  have e1 : slv G1 (v - 1).toNat = apv c (slv G v.toNat) := by
    rw [ev, hG, slv_p G (n := (v - 1).toNat) (k := (v - 1 - 1).toNat) (by omega), ← hc]
    rfl
  unfold zWd at h ⊢
  rw [e, ← hc, wsg_y hy, wvl_y hy, ← e1] at h
  exact h
theorem zWd_e {F G0 G : Nat → Int} {r n0 v0 n v c k : Int} (h : zWd F r n0 G0 v0 n G v) (hc : n ≤ 0 ∨ (c = F (n - 1).toNat ∧ (1000 ≤ c ∨ (k = rkv c ∧ k < r)))) : slv F n.toNat = wsg r (slv F n0.toNat) ∧ slv G v.toNat = wvl r (slv F n0.toNat) (slv G0 v0.toNat) := by
  unfold zWd at h
  by_cases hn : n ≤ 0
  · rw [show n.toNat = 0 by omega] at h ⊢
    exact h
  · have e := slv_s F (n := n.toNat) (k := (n - 1).toNat) (by omega)
    obtain ⟨hc, hk⟩ : c = F (n - 1).toNat ∧ (1000 ≤ c ∨ (k = rkv c ∧ k < r)) := by
      rcases hc with hc | hc
      · exact absurd hc hn
      · exact hc
    have g : ¬ (c < 1000 ∧ r ≤ rkv c) := by omega
    rw [e, ← hc, wsg_n g, wvl_n g] at h
    rw [e, ← hc]
    exact h
def zDq (ch : Nat → Int) (fl0 b a r fl : Int) : Prop := (fl = fl0 ∧ zDg ch b a ∧ ¬ (48 ≤ ch a.toNat ∧ ch a.toNat ≤ 57) ∧ r = dvl ch b.toNat (a - b).toNat) ∨ (fl = 10 * b + 2 ∧ zDg ch b a ∧ b + 6 ≤ a ∧ (48 ≤ ch a.toNat ∧ ch a.toNat ≤ 57) ∧ r = 0)
theorem zDq_e {ch : Nat → Int} {fl0 b a r fl c : Int} (h : zDg ch b a) (hc : ch a.toNat = c) (hr : r = dvl ch b.toNat (a - b).toNat) (h1 : ¬ (48 ≤ c ∧ c ≤ 57) ∧ fl = fl0) : zDq ch fl0 b a r fl := Or.inl ⟨h1.2, h, by rw [hc]; exact h1.1, hr⟩
theorem zDq_7 {ch : Nat → Int} {fl0 b a r fl c : Int} (h : zDg ch b a) (hc : ch a.toNat = c) (h1 : (48 ≤ c ∧ c ≤ 57) ∧ b + 6 ≤ a ∧ r = 0 ∧ fl = 10 * b + 2) : zDq ch fl0 b a r fl := Or.inr ⟨h1.2.2.2, h, h1.2.1, by rw [hc]; exact h1.1, h1.2.2.1⟩
def zRdg (ch : Nat → Int) (nm : Int → Int) (p w o : Int) (F : Nat → Int) (n : Int) (G : Nat → Int) (v fl go : Int) : Prop := (fl = -1 ∧ go = 1 ∧ ∀ t, RV ch nm p.toNat w o (slv F n.toNat) (slv G v.toNat) t → RV ch nm 0 1 0 [] [] t) ∨ (fl = -1 ∧ go = 0 ∧ RV ch nm 0 1 0 [] [] (-1, G 0)) ∨ (fl ≠ -1 ∧ RV ch nm 0 1 0 [] [] (fl, 0))
theorem zRdg_0 {ch : Nat → Int} {nm : Int → Int} {F G : Nat → Int} {p w o n v fl go : Int} (h : p = 0 ∧ w = 1 ∧ o = 0 ∧ n = 0 ∧ v = 0 ∧ fl = -1 ∧ go = 1) : zRdg ch nm p w o F n G v fl go := by
  obtain ⟨rfl, rfl, rfl, rfl, rfl, rfl, rfl⟩ := h
  exact Or.inl ⟨rfl, rfl, fun _ h => h⟩
section ZRG
variable {ch : Nat → Int} {nm : Int → Int} {F G F2 G2 : Nat → Int} {p w o n v fl go q c w2 o2 n2 v2 fl2 go2 q2 : Int}
theorem zRdg_k (h : zRdg ch nm p w o F n G v fl go) (hx : zNx ch (-1) p q c) (h1 : fl = -1 ∧ go = 1 ∧ 0 ≤ p) : (∀ t, RV ch nm q.toNat w o (slv F n.toNat) (slv G v.toNat) t → RV ch nm 0 1 0 [] [] t) ∧ ch q.toNat = c ∧ c ≠ 32 := by
  obtain ⟨f1, f2, f3⟩ := h1
  obtain ⟨b1, b2, b3, b4⟩ := zNx_bl hx rfl f3
  rcases h with ⟨_, _, h⟩ | ⟨_, h, _⟩ | ⟨h, _⟩
  · exact ⟨fun t ht => h t (RV_bls b2 b1 ht), b3, b4⟩
  · omega
  · omega
theorem zRdg_d {r : Int} (h : zRdg ch nm p w o F n G v fl go) (hx : zNx ch (-1) p q c) (hd : zDq ch fl q q2 r fl2) (hs : slv F n2.toNat = sds (slv F n.toNat)) (hg : G2 = zPt G v.toNat (sdx (slv F n.toNat) r)) (h1 : (fl = -1 ∧ go = 1 ∧ 0 ≤ p) ∧ w = 1 ∧ (48 ≤ c ∧ c ≤ 57) ∧ 0 ≤ q ∧ 0 ≤ v ∧ w2 = 0 ∧ v2 = v + 1 ∧ go2 = 1) : zRdg ch nm q2 w2 o F n2 G2 v2 fl2 go2 := by
  obtain ⟨f0, rfl, f2, f3, f4, rfl, rfl, rfl⟩ := h1
  obtain ⟨k1, k2, k3⟩ := zRdg_k h hx f0
  rcases hd with ⟨d1, d2, d3, d4⟩ | ⟨d1, d2, d3, d4, d5⟩
  · refine Or.inl ⟨by omega, rfl, fun t ht => k1 t ?_⟩
    have hne : q ≠ q2 := fun e => by
      rw [← e, k2] at d3
      exact d3 f2
    have hle := d2.1
    have hl6 := d2.2.1
    refine RV_dg (by rw [k2]; exact f2) (zDg_n d2 d3 f3) (by omega) ?_
    rw [hs, hg, slv_p G (n := (v + 1).toNat) (k := v.toNat) (by omega), d4] at ht
    rw [show q.toNat + (q2 - q).toNat = q2.toNat by omega]
    exact ht
  · refine Or.inr (Or.inr ⟨by omega, k1 _ ?_⟩)
    have z := RV_d7 (ch := ch) (nm := nm) (a := q.toNat) (o := o) (s := slv F n.toNat) (v := slv G v.toNat) (by rw [k2]; exact f2) (zDg_7 d2 d4 ⟨f3, d3⟩).1
    rw [show (10 * (q.toNat : Int) + 2) = fl2 by omega] at z
    exact z
theorem zRdg_n {r k : Int} (h : zRdg ch nm p w o F n G v fl go) (hx : zNx ch (-1) p q c) (hk : k = nmv c) (hr : r = nm k) (hs : slv F n2.toNat = sds (slv F n.toNat)) (hg : G2 = zPt G v.toNat (sdx (slv F n.toNat) r)) (h1 : (fl = -1 ∧ go = 1 ∧ 0 ≤ p) ∧ w = 1 ∧ k ≠ -1 ∧ 0 ≤ q ∧ 0 ≤ v ∧ w2 = 0 ∧ v2 = v + 1 ∧ go2 = 1 ∧ q2 = q + 1 ∧ fl2 = -1) : zRdg ch nm q2 w2 o F n2 G2 v2 fl2 go2 := by
  obtain ⟨f0, rfl, f2, f3, f4, rfl, rfl, rfl, rfl, rfl⟩ := h1
  obtain ⟨k1, k2, k3⟩ := zRdg_k h hx f0
  refine Or.inl ⟨rfl, rfl, fun t ht => k1 t ?_⟩
  refine RV_nm (by rw [k2]; omega) ?_
  rw [hs, hg, slv_p G (n := (v + 1).toNat) (k := v.toNat) (by omega), hr, hk] at ht
  rw [k2, show q.toNat + 1 = (q + 1).toNat by omega]
  exact ht
theorem zRdg_u {k : Int} (h : zRdg ch nm p w o F n G v fl go) (hx : zNx ch (-1) p q c) (hf : F2 = zPt F n.toNat k) (h1 : (fl = -1 ∧ go = 1 ∧ 0 ≤ p) ∧ w = 1 ∧ ((c = 33 ∧ k = 1001) ∨ (c = 45 ∧ k = 1002)) ∧ 0 ≤ q ∧ 0 ≤ n ∧ n2 = n + 1 ∧ go2 = 1 ∧ q2 = q + 1 ∧ fl2 = -1) : zRdg ch nm q2 w o F2 n2 G v fl2 go2 := by
  obtain ⟨f0, rfl, f2, f3, f4, rfl, rfl, rfl, rfl⟩ := h1
  obtain ⟨k1, k2, k3⟩ := zRdg_k h hx f0
  refine Or.inl ⟨rfl, rfl, fun t ht => k1 t ?_⟩
  refine RV_un (by rw [k2]; omega) ?_
  rw [hf, slv_p F (n := (n + 1).toNat) (k := n.toNat) (by omega)] at ht
  rw [k2, show q.toNat + 1 = (q + 1).toNat by omega]
  rcases f2 with ⟨g1, g2⟩ | ⟨g1, g2⟩
  · rw [if_pos g1, ← g2]
    exact ht
  · rw [if_neg (by omega), ← g2]
    exact ht
theorem zRdg_b (h : zRdg ch nm p w o F n G v fl go) (hx : zNx ch (-1) p q c) (hf : F2 = zPt F n.toNat 1000) (h1 : (fl = -1 ∧ go = 1 ∧ 0 ≤ p) ∧ w = 1 ∧ c = 40 ∧ o < 8 ∧ o2 = o + 1 ∧ 0 ≤ q ∧ 0 ≤ n ∧ n2 = n + 1 ∧ go2 = 1 ∧ q2 = q + 1 ∧ fl2 = -1) : zRdg ch nm q2 w o2 F2 n2 G v fl2 go2 := by
  obtain ⟨f0, rfl, f2, f3, rfl, f4, f5, rfl, rfl, rfl, rfl⟩ := h1
  obtain ⟨k1, k2, k3⟩ := zRdg_k h hx f0
  refine Or.inl ⟨rfl, rfl, fun t ht => k1 t ?_⟩
  refine RV_br (by rw [k2]; exact f2) f3 ?_
  rw [hf, slv_p F (n := (n + 1).toNat) (k := n.toNat) (by omega)] at ht
  rw [show q.toNat + 1 = (q + 1).toNat by omega]
  exact ht
theorem zRdg_f (h : zRdg ch nm p w o F n G v fl go) (hx : zNx ch (-1) p q c) (hk : nmv c = -1) (h1 : (fl = -1 ∧ go = 1 ∧ 0 ≤ p) ∧ w = 1 ∧ ¬ (48 ≤ c ∧ c ≤ 57) ∧ c ≠ 33 ∧ c ≠ 45 ∧ 0 ≤ q ∧ ((c = 40 ∧ 8 ≤ o ∧ fl2 = 10 * q + 3) ∨ (c ≠ 40 ∧ fl2 = 10 * q + 1))) : zRdg ch nm q2 w2 o2 F2 n2 G2 v2 fl2 go2 := by
  obtain ⟨f0, rfl, f2, f3, f4, f5, f6⟩ := h1
  obtain ⟨k1, k2, k3⟩ := zRdg_k h hx f0
  refine Or.inr (Or.inr ⟨by omega, k1 _ ?_⟩)
  rcases f6 with ⟨g1, g2, g3⟩ | ⟨g1, g3⟩
  · have z := RV_b9 (ch := ch) (nm := nm) (a := q.toNat) (o := o) (s := slv F n.toNat) (v := slv G v.toNat) (by rw [k2]; exact g1) (by omega)
    rw [show (10 * (q.toNat : Int) + 3) = fl2 by omega] at z
    exact z
  · have z := RV_w1 (ch := ch) (nm := nm) (a := q.toNat) (o := o) (s := slv F n.toNat) (v := slv G v.toNat) (by rw [k2]; exact k3) (by rw [k2]; exact f2) (by rw [k2]; exact hk) (by rw [k2]; exact ⟨f3, f4, g1⟩)
    rw [show (10 * (q.toNat : Int) + 1) = fl2 by omega] at z
    exact z
theorem zRdg_c {n1 v1 x n3 v3 : Int} {G1 : Nat → Int} (h : zRdg ch nm p w o F n G v fl go) (hx : zNx ch (-1) p q c) (hs : slv F n1.toNat = wsg 1 (slv F n.toNat)) (hv : slv G1 v1.toNat = wvl 1 (slv F n.toNat) (slv G v.toNat)) (hr : x = G1 v3.toNat) (hs2 : slv F n2.toNat = sds (slv F n3.toNat)) (hg : G2 = zPt G1 v3.toNat (sdx (slv F n3.toNat) x)) (h1 : (fl = -1 ∧ go = 1 ∧ 0 ≤ p) ∧ w = 0 ∧ c = 41 ∧ 0 < o ∧ o2 = o - 1 ∧ 0 ≤ q ∧ 1 ≤ n1 ∧ 1 ≤ v1 ∧ n3 = n1 - 1 ∧ v3 = v1 - 1 ∧ v2 = v3 + 1 ∧ w2 = 0 ∧ go2 = 1 ∧ q2 = q + 1 ∧ fl2 = -1) : zRdg ch nm q2 w2 o2 F n2 G2 v2 fl2 go2 := by
  obtain ⟨f0, rfl, f2, f3, rfl, f4, f5, f6, rfl, rfl, rfl, rfl, rfl, rfl, rfl⟩ := h1
  obtain ⟨k1, k2, k3⟩ := zRdg_k h hx f0
  refine Or.inl ⟨rfl, rfl, fun t ht => k1 t ?_⟩
  refine RV_cl (by rw [k2]; exact f2) f3 ?_
  rw [← hs, ← hv, slv_s F (n := n1.toNat) (k := (n1 - 1).toNat) (by omega), slv_s G1 (n := v1.toNat) (k := (v1 - 1).toNat) (by omega), show q.toNat + 1 = (q + 1).toNat by omega]
  rw [hs2, hg, slv_p G1 (n := (v1 - 1 + 1).toNat) (k := (v1 - 1).toNat) (by omega), hr] at ht
  exact ht
theorem zRdg_o {k k4 n1 : Int} (h : zRdg ch nm p w o F n G v fl go) (hx : zNx ch (-1) p q c) (hk : k = rkv c) (hs : slv F n1.toNat = wsg k4 (slv F n.toNat)) (hv : slv G2 v2.toNat = wvl k4 (slv F n.toNat) (slv G v.toNat)) (h4 : (k = 3 ∧ k4 = 4) ∨ (k ≠ 3 ∧ k4 = k)) (hf : F2 = zPt F n1.toNat c) (h3 : k ≠ 3 ∨ n1 ≤ 0 ∨ ∃ c1, c1 = F (n1 - 1).toNat ∧ (1000 ≤ c1 ∨ rkv c1 ≠ 3)) (h1 : (fl = -1 ∧ go = 1 ∧ 0 ≤ p) ∧ w = 0 ∧ 0 < k ∧ 0 ≤ q ∧ 0 ≤ n1 ∧ n2 = n1 + 1 ∧ w2 = 1 ∧ go2 = 1 ∧ q2 = q + 1 ∧ fl2 = -1) : zRdg ch nm q2 w2 o F2 n2 G2 v2 fl2 go2 := by
  obtain ⟨f0, rfl, f2, f3, f4, rfl, rfl, rfl, rfl, rfl⟩ := h1
  obtain ⟨k1, k2, k3⟩ := zRdg_k h hx f0
  have er : rqv c = k4 := by
    unfold rqv
    rcases h4 with ⟨g1, g2⟩ | ⟨g1, g2⟩
    · rw [if_pos (by omega), g2]
    · rw [if_neg (by omega), g2, hk]
  refine Or.inl ⟨rfl, rfl, fun t ht => k1 t ?_⟩
  refine RV_op (by rw [k2]; omega) (fun z => ?_) ?_
  · rw [k2] at z
    obtain ⟨z1, z2⟩ := z
    have h44 : k4 = 4 := by
      rcases h4 with ⟨g1, g2⟩ | ⟨g1, g2⟩
      · exact g2
      · exact absurd (hk.trans z1) g1
    rw [h44] at hs
    rw [← hs] at z2
    rcases h3 with g | g | ⟨c1, g1, g2⟩
    · omega
    · rw [show n1.toNat = 0 by omega] at z2
      exact absurd (show (0 : Int) = 1 from z2) (by decide)
    · by_cases hn : n1 ≤ 0
      · rw [show n1.toNat = 0 by omega] at z2
        exact absurd (show (0 : Int) = 1 from z2) (by decide)
      · rw [slv_s F (n := n1.toNat) (k := (n1 - 1).toNat) (by omega), ← g1] at z2
        have := tp3_c c1 (slv F (n1 - 1).toNat)
        omega
  · rw [k2, er, ← hs, ← hv, show q.toNat + 1 = (q + 1).toNat by omega]
    rw [hf, slv_p F (n := (n1 + 1).toNat) (k := n1.toNat) (by omega)] at ht
    exact ht
theorem zRdg_3 {k k1 n1 c1 : Int} (h : zRdg ch nm p w o F n G v fl go) (hx : zNx ch (-1) p q c) (hk : k = rkv c) (hs : slv F n1.toNat = wsg 4 (slv F n.toNat)) (hc : c1 = F (n1 - 1).toNat) (hk1 : k1 = rkv c1) (h1 : (fl = -1 ∧ go = 1 ∧ 0 ≤ p) ∧ w = 0 ∧ k = 3 ∧ 0 ≤ q ∧ 0 < n1 ∧ c1 < 1000 ∧ k1 = 3 ∧ fl2 = 10 * q + 1) : zRdg ch nm q2 w2 o2 F2 n2 G2 v2 fl2 go2 := by
  obtain ⟨f0, rfl, f2, f3, f4, f5, f6, f7⟩ := h1
  obtain ⟨k1', k2, k3⟩ := zRdg_k h hx f0
  refine Or.inr (Or.inr ⟨by omega, k1' _ ?_⟩)
  have z := RV_o3 (ch := ch) (nm := nm) (a := q.toNat) (o := o) (s := slv F n.toNat) (v := slv G v.toNat) (by rw [k2]; omega) (by
    rw [← hs, slv_s F (n := n1.toNat) (k := (n1 - 1).toNat) (by omega), ← hc]
    have := tp3_c c1 (slv F (n1 - 1).toNat)
    omega)
  rw [show (10 * (q.toNat : Int) + 1) = fl2 by omega] at z
  exact z
theorem zRdg_e {v1 : Int} {G1 : Nat → Int} (h : zRdg ch nm p w o F n G v fl go) (hx : zNx ch (-1) p q c) (hv : slv G1 v1.toNat = wvl 1 (slv F n.toNat) (slv G v.toNat)) (h1 : (fl = -1 ∧ go = 1 ∧ 0 ≤ p) ∧ w = 0 ∧ c = -1 ∧ o = 0 ∧ 1 ≤ v1 ∧ go2 = 0 ∧ fl2 = -1) : zRdg ch nm q2 w2 o2 F2 n2 G1 v2 fl2 go2 := by
  obtain ⟨f0, rfl, f2, rfl, f4, rfl, rfl⟩ := h1
  obtain ⟨k1, k2, k3⟩ := zRdg_k h hx f0
  refine Or.inr (Or.inl ⟨rfl, rfl, k1 _ ?_⟩)
  have z := RV_fi (ch := ch) (nm := nm) (a := q.toNat) (o := 0) (s := slv F n.toNat) (v := slv G v.toNat) (by rw [k2]; exact f2) rfl
  rw [← hv, slv_last G1 (by omega)] at z
  exact z
theorem zRdg_g (h : zRdg ch nm p w o F n G v fl go) (hx : zNx ch (-1) p q c) (h1 : (fl = -1 ∧ go = 1 ∧ 0 ≤ p) ∧ w = 0 ∧ (c ≠ 41 ∨ o ≤ 0) ∧ rkv c ≤ 0 ∧ (c ≠ -1 ∨ o ≠ 0) ∧ 0 ≤ q ∧ fl2 = 10 * q + 1) : zRdg ch nm q2 w2 o2 F2 n2 G2 v2 fl2 go2 := by
  obtain ⟨f0, rfl, f2, f3, f4, f5, f6⟩ := h1
  obtain ⟨k1, k2, k3⟩ := zRdg_k h hx f0
  refine Or.inr (Or.inr ⟨by omega, k1 _ ?_⟩)
  have z := RV_w0 (ch := ch) (nm := nm) (a := q.toNat) (o := o) (s := slv F n.toNat) (v := slv G v.toNat) (by rw [k2]; exact k3) (by rw [k2]; omega) (by rw [k2]; exact f3) (by rw [k2]; omega)
  rw [show (10 * (q.toNat : Int) + 1) = fl2 by omega] at z
  exact z
theorem zRdg_x {x : Int} (h : zRdg ch nm p w o F n G v fl go) (h1 : go = 0 ∨ fl ≠ -1) (hx : (fl = -1 ∧ x = G 0) ∨ (fl ≠ -1 ∧ x = 0)) : RV ch nm 0 1 0 [] [] (fl, x) := by
  rcases h with ⟨g1, g2, _⟩ | ⟨g1, g2, h⟩ | ⟨g1, h⟩
  · omega
  · rw [show x = G 0 by omega, g1]
    exact h
  · rw [show x = 0 by omega]
    exact h
end ZRG
/-! both -/
def chc (F11 F10 : Nat → Int) (a : Int) : Nat → Int := chf (fun k => F11 (50 * a.toNat + k)) (F10 a.toNat)
theorem zPc_r {ch : Nat → Int} {f : Nat → Int} {y fl : Int} (h : zPc ch f y fl) (nm : Int → Int) : ∃ x, RV ch nm 0 1 0 [] [] (fl, x) := by
  rcases h with ⟨rfl, h⟩ | ⟨_, h⟩
  · obtain ⟨x, h1, _⟩ := h nm
    exact ⟨x, h1⟩
  · exact ⟨0, h nm⟩
theorem zPc_q {ch : Nat → Int} {nm : Int → Int} {f : Nat → Int} {y fl r x : Int} (h : zPc ch f y fl) (h' : RV ch nm 0 1 0 [] [] (r, x)) : fl = r := by
  obtain ⟨z, h1⟩ := zPc_r h nm
  have := RV_det h1 h'
  exact congrArg Prod.fst this
theorem cht_c {F G H : Nat → Int} {t : Int} (hl : F (451 + 52 * t.toNat) = H t.toNat) (ht : ∀ j, j < 50 → F (452 + 52 * t.toNat + j) = G (50 * t.toNat + j)) (hn : H t.toNat ≤ 50) : cht F t = chc G H t := by
  funext k
  unfold cht chc
  rw [hl]
  by_cases h : (k : Int) < H t.toNat
  · rw [chf_lt h, chf_lt h]
    exact ht k (by omega)
  · rw [chf_ge (by omega), chf_ge (by omega)]
theorem chc_co {F0 F11 F10 : Nat → Int} {a x : Int} {s n : Nat} (hx : x = F10 a.toNat) (h : 0 ≤ a ∧ (s : Int) = 50 * a ∧ n = x.toNat) : chf (zCo F0 F11 s n) x = chc F11 F10 a := by
  obtain ⟨h1, h2, h3⟩ := h
  funext k
  unfold chc
  rw [← hx, show 50 * a.toNat = s by omega]
  by_cases h : (k : Int) < x
  · rw [chf_lt h, chf_lt h, zCo_lt (by omega)]
  · rw [chf_ge (by omega), chf_ge (by omega)]
