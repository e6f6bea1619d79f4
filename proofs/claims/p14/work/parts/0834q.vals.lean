/-! the worth of steps on the class's stack -/
def zPop (F : Nat → Int) (t x t1 : Int) : Prop := (t ≤ 0 ∧ x = 0 ∧ t1 = t) ∨ (0 < t ∧ x = F (t - 1).toNat ∧ t1 = t - 1)
theorem zPop_l {F : Nat → Int} {t x t1 : Int} (h : zPop F t x t1) : (slv F t.toNat).headD 0 = x ∧ (slv F t.toNat).tail = slv F t1.toNat := by
  rcases h with ⟨h1, h2, h3⟩ | ⟨h1, h2, h3⟩
  · rw [show t.toNat = 0 by omega, show t1.toNat = 0 by omega, h2]
    exact ⟨rfl, rfl⟩
  · rw [slv_s F (n := t.toNat) (k := (t - 1).toNat) (by omega), h2, h3]
    exact ⟨rfl, rfl⟩
section ZWO
variable {F F2 G : Nat → Int} {nm : Int → Int} {t t1 t2 u x w y c k i i1 : Int} {S : Nat → Int}
theorem zWo_v (hf : F2 = zPt F t.toNat x) (h : 0 ≤ x ∧ 0 ≤ t ∧ u = t + 1) : slv F2 u.toNat = evs nm x (slv F t.toNat) := by
  obtain ⟨h1, h2, rfl⟩ := h
  rw [hf, slv_p F (n := (t + 1).toNat) (k := t.toNat) (by omega), evs_v h1]
theorem zWo_n (hk : k = nmv c) (hx : x = G k.toNat) (hf : F2 = zPt F t.toNat x) (h : k ≠ -1 ∧ 0 ≤ t ∧ u = t + 1) : slv F2 u.toNat = evs (nmf G) (-c) (slv F t.toNat) := by
  obtain ⟨h1, h2, rfl⟩ := h
  rw [hf, slv_p F (n := (t + 1).toNat) (k := t.toNat) (by omega), evs_n (by omega), ← hk, hx]
  rfl
theorem zWo_b (hp : zPop F t x t1) (hf : F2 = zPt F t1.toNat y) (h : c = 33 ∧ ((x = 0 ∧ y = 1) ∨ (x ≠ 0 ∧ y = 0)) ∧ 0 ≤ t1 ∧ u = t1 + 1) : slv F2 u.toNat = evs nm (-c) (slv F t.toNat) := by
  obtain ⟨rfl, h1, h2, rfl⟩ := h
  obtain ⟨e1, e2⟩ := zPop_l hp
  rw [hf, slv_p F (n := (t1 + 1).toNat) (k := t1.toNat) (by omega)]
  unfold evs
  rw [if_neg (by omega), show - -(33 : Int) = 33 by omega, if_neg (by decide), if_pos rfl, e1, e2]
  rcases h1 with ⟨g1, g2⟩ | ⟨g1, g2⟩
  · rw [if_pos g1, g2]
  · rw [if_neg g1, g2]
theorem zWo_l (hp : zPop F t x t1) (hf : F2 = zPt F t1.toNat y) (h : c = 126 ∧ y = Lneg x ∧ 0 ≤ t1 ∧ u = t1 + 1) : slv F2 u.toNat = evs nm (-c) (slv F t.toNat) := by
  obtain ⟨rfl, h1, h2, rfl⟩ := h
  obtain ⟨e1, e2⟩ := zPop_l hp
  rw [hf, slv_p F (n := (t1 + 1).toNat) (k := t1.toNat) (by omega)]
  unfold evs
  rw [if_neg (by omega), show - -(126 : Int) = 126 by omega, if_neg (by decide), if_neg (by decide), if_pos rfl, e1, e2, h1]
theorem zWo_o (hp : zPop F t x t1) (hq : zPop F t1 w t2) (hy : y = opv c w x) (hf : F2 = zPt F t2.toNat y) (h : nmv c = -1 ∧ c ≠ 33 ∧ c ≠ 126 ∧ 0 < c ∧ 0 ≤ t2 ∧ u = t2 + 1) : slv F2 u.toNat = evs nm (-c) (slv F t.toNat) := by
  obtain ⟨g1, g2, g3, g4, g5, rfl⟩ := h
  obtain ⟨e1, e2⟩ := zPop_l hp
  obtain ⟨e3, e4⟩ := zPop_l hq
  rw [hf, slv_p F (n := (t2 + 1).toNat) (k := t2.toNat) (by omega)]
  unfold evs
  rw [if_neg (by omega), show - -c = c by omega, if_neg (by omega), if_neg g2, if_neg g3, e1, e2, e3, e4, hy]
theorem zWr_s (h : slv F t.toNat = evl S nm 0 i.toNat []) (hx : x = S i.toNat) (h2 : slv F2 u.toNat = evs nm y (slv F t.toNat)) (h3 : y = x ∧ 0 ≤ i ∧ i1 = i + 1) : slv F2 u.toNat = evl S nm 0 i1.toNat [] := by
  obtain ⟨rfl, h4, rfl⟩ := h3
  rw [evl_s (k := i.toNat) (by omega), Nat.zero_add, ← hx, ← h, h2]
theorem zWr_e (h : slv F t.toNat = evl S nm 0 i.toNat []) (hp : zPop F t x t1) : x = (evl S nm 0 i.toNat []).headD 0 := by
  rw [← h]
  exact (zPop_l hp).1.symm
end ZWO
/-! the change by a text -/
def cgc (x : Int) : Int := if x < -500 then -500 else if 500 < x then 500 else x
theorem cgc_c (x : Int) : (x < -500 ∧ cgc x = -500) ∨ (500 < x ∧ cgc x = 500) ∨ (-500 ≤ x ∧ x ≤ 500 ∧ cgc x = x) := by
  unfold cgc
  (repeat' split) <;> omega
def zCg (ch : Nat → Int) (nm : Int → Int) (c : Int) : Prop := ∃ fl x, RV ch nm 0 1 0 [] [] (fl, x) ∧ ((fl = -1 ∧ c = cgc x) ∨ (fl ≠ -1 ∧ c = 0))
theorem zCg_un {ch : Nat → Int} {nm : Int → Int} {c d : Int} (h : zCg ch nm c) (h' : zCg ch nm d) : c = d := by
  obtain ⟨fl, x, h1, h2⟩ := h
  obtain ⟨fl', x', h1', h2'⟩ := h'
  have e := RV_det h1 h1'
  have e1 : fl = fl' := congrArg Prod.fst e
  have e2 : x = x' := congrArg Prod.snd e
  subst e1 e2
  omega
noncomputable def cgv (ch : Nat → Int) (nm : Int → Int) : Int := Classical.epsilon (fun c => zCg ch nm c)
theorem cgv_e {ch : Nat → Int} {nm : Int → Int} {c : Int} (h : zCg ch nm c) : c = cgv ch nm := zCg_un h (Classical.epsilon_spec (p := fun c => zCg ch nm c) ⟨c, h⟩)
theorem rrn_nm {ch : Nat → Int} {nm nm' : Int → Int} (h : ∀ k, 0 ≤ k → k ≤ 5 → nm k = nm' k) (f : Nat) : rrn ch nm f = rrn ch nm' f := by
  induction f with
  | zero => rfl
  | succ f ih =>
    show rst ch nm (rrn ch nm f) = rst ch nm' (rrn ch nm' f)
    rw [ih]
    funext a w o s v
    unfold rst
    have hc := nmv_c (ch a)
    by_cases hn : nmv (ch a) ≠ -1
    · rw [h (nmv (ch a)) (by omega) (by omega)]
    · rw [if_neg (c := nmv (ch a) ≠ -1) hn, if_neg (c := nmv (ch a) ≠ -1) hn]
theorem RV_nmc {ch : Nat → Int} {nm nm' : Int → Int} {a : Nat} {w o : Int} {s v : List Int} {x : Int × Int} (h : ∀ k, 0 ≤ k → k ≤ 5 → nm k = nm' k) (hr : RV ch nm a w o s v x) : RV ch nm' a w o s v x := by
  obtain ⟨f, hr⟩ := hr
  exact ⟨f, by rw [← rrn_nm h f]; exact hr⟩
theorem zCg_nm {ch : Nat → Int} {nm nm' : Int → Int} {c : Int} (hr : zCg ch nm c) (h : ∀ k, 0 ≤ k → k ≤ 5 → nm k = nm' k) : zCg ch nm' c := by
  obtain ⟨fl, x, h1, h2⟩ := hr
  exact ⟨fl, x, RV_nmc h h1, h2⟩
def nm6 (a b e m y g : Int) : Int → Int := fun k => if k = 0 then a else if k = 1 then b else if k = 2 then e else if k = 3 then m else if k = 4 then y else g
theorem nmf_6 {F : Nat → Int} {a b e m y g : Int} (h : F 0 = a ∧ F 1 = b ∧ F 2 = e ∧ F 3 = m ∧ F 4 = y ∧ F 5 = g) : ∀ k, 0 ≤ k → k ≤ 5 → nmf F k = nm6 a b e m y g k := by
  obtain ⟨h0, h1, h2, h3, h4, h5⟩ := h
  intro k k0 k1
  have hk : k = 0 ∨ k = 1 ∨ k = 2 ∨ k = 3 ∨ k = 4 ∨ k = 5 := by omega
  rcases hk with rfl | rfl | rfl | rfl | rfl | rfl
  · exact h0
  · exact h1
  · exact h2
  · exact h3
  · exact h4
  · exact h5
theorem zCg_c {ch : Nat → Int} {f F : Nat → Int} {y fl c x a b e m u g : Int} (h : zPc ch f y fl) (hx : fl ≠ -1 ∨ x = (evl f (nmf F) 0 y.toNat []).headD 0) (hF : fl ≠ -1 ∨ (F 0 = a ∧ F 1 = b ∧ F 2 = e ∧ F 3 = m ∧ F 4 = u ∧ F 5 = g)) (h1 : (fl ≠ -1 ∧ c = 0) ∨ (fl = -1 ∧ ((x < -500 ∧ c = -500) ∨ (500 < x ∧ c = 500) ∨ (-500 ≤ x ∧ x ≤ 500 ∧ c = x)))) : c = cgv ch (nm6 a b e m u g) := by
  apply cgv_e
  rcases h with ⟨h0, h⟩ | ⟨h0, h⟩
  · obtain ⟨z, r1, r2⟩ := h (nmf F)
    have hx : x = z := by
      rcases hx with hx | hx
      · exact absurd h0 hx
      · rw [r2] at hx
        exact hx
    have hF : F 0 = a ∧ F 1 = b ∧ F 2 = e ∧ F 3 = m ∧ F 4 = u ∧ F 5 = g := by
      rcases hF with hF | hF
      · exact absurd h0 hF
      · exact hF
    subst hx
    have := cgc_c x
    exact zCg_nm ⟨-1, x, r1, Or.inl ⟨rfl, by omega⟩⟩ (nmf_6 hF)
  · exact ⟨fl, 0, h _, Or.inr ⟨h0, by omega⟩⟩
theorem zCg_r {ch : Nat → Int} {F : Nat → Int} {fl t r c a b e m u g : Int} (h : RV ch (nmf F) 0 1 0 [] [] (fl, t)) (hr : (r = 1 ∧ fl = -1) ∨ (r = 0 ∧ fl ≠ -1)) (hF : F 0 = a ∧ F 1 = b ∧ F 2 = e ∧ F 3 = m ∧ F 4 = u ∧ F 5 = g) (h1 : (r = 0 ∧ c = 0) ∨ (r ≠ 0 ∧ ((t < -500 ∧ c = -500) ∨ (500 < t ∧ c = 500) ∨ (-500 ≤ t ∧ t ≤ 500 ∧ c = t)))) : c = cgv ch (nm6 a b e m u g) := by
  apply cgv_e
  have := cgc_c t
  exact zCg_nm ⟨fl, t, h, by omega⟩ (nmf_6 hF)
/-! meetings played one after the other: numbers, how many he had, the year of the last one -/
abbrev zPS : Type := (Nat → Int) × (Nat → Int) × (Nat → Int)
noncomputable def chg (ch Y G : Nat → Int) (S : zPS) (i : Nat) (p q e : Int) : Int := cgv ch (nm6 (S.1 p.toNat) (S.1 q.toNat) e (S.2.1 p.toNat) (if 0 < S.2.1 p.toNat then Y i - S.2.2 p.toNat else 0) (G i))
noncomputable def cgr (ch Y G : Nat → Int) (S : zPS) (i : Nat) (p q e : Int) : Int := cgv ch (nm6 (S.1 p.toNat) (S.1 q.toNat) e (S.2.1 p.toNat) (if S.2.2 p.toNat = -1 then 0 else Y i - S.2.2 p.toNat) (G i))
def stl (S : zPS) (a b y cA cB : Int) : zPS := (zPt (zPt S.1 a.toNat (S.1 a.toNat + cA)) b.toNat ((zPt S.1 a.toNat (S.1 a.toNat + cA)) b.toNat + cB), zPt (zPt S.2.1 a.toNat (S.2.1 a.toNat + 1)) b.toNat ((zPt S.2.1 a.toNat (S.2.1 a.toNat + 1)) b.toNat + 1), zPt (zPt S.2.2 a.toNat y) b.toNat y)
noncomputable def pst (ch A B E Y G : Nat → Int) (i : Nat) (S : zPS) : zPS := stl S (A i) (B i) (Y i) (chg ch Y G S i (A i) (B i) (E i)) (chg ch Y G S i (B i) (A i) (2 - E i))
noncomputable def psr (ch A B E Y G : Nat → Int) (i : Nat) (S : zPS) : zPS := stl S (A i) (B i) (Y i) (cgr ch Y G S i (A i) (B i) (E i)) (cgr ch Y G S i (B i) (A i) (2 - E i))
theorem pst_a (ch A B E Y G : Nat → Int) (i : Nat) (S : zPS) : pst ch A B E Y G i S = stl S (A i) (B i) (Y i) (chg ch Y G S i (A i) (B i) (E i)) (chg ch Y G S i (B i) (A i) (2 - E i)) := rfl
theorem psr_a (ch A B E Y G : Nat → Int) (i : Nat) (S : zPS) : psr ch A B E Y G i S = stl S (A i) (B i) (Y i) (cgr ch Y G S i (A i) (B i) (E i)) (cgr ch Y G S i (B i) (A i) (2 - E i)) := rfl
def pln (T : Nat → zPS → zPS) (sel : Nat → Int) (S0 : zPS) : Nat → zPS
  | 0 => S0
  | n + 1 => if sel n = 1 then T n (pln T sel S0 n) else pln T sel S0 n
theorem pln_y {T : Nat → zPS → zPS} {sel : Nat → Int} {S0 : zPS} {n k : Nat} (hk : k = n + 1) (h : sel n = 1) : pln T sel S0 k = T n (pln T sel S0 n) := by
  subst hk
  exact if_pos h
theorem pln_n {T : Nat → zPS → zPS} {sel : Nat → Int} {S0 : zPS} {n k : Nat} (hk : k = n + 1) (h : sel n ≠ 1) : pln T sel S0 k = pln T sel S0 n := by
  subst hk
  exact if_neg h
/-- the class's state against the reference's -/
def zLk2 (S R : zPS) : Prop := ∀ p : Nat, p < 10 → S.1 p = R.1 p ∧ S.2.1 p = R.2.1 p ∧ ((S.2.1 p = 0 ∧ R.2.2 p = -1) ∨ (0 < S.2.1 p ∧ S.2.2 p = R.2.2 p ∧ 0 ≤ S.2.2 p))
theorem chg_r {ch Y G : Nat → Int} {S R : zPS} {i : Nat} {p q e : Int} (h : zLk2 S R) (hp : 0 ≤ p ∧ p < 10) (hq : 0 ≤ q ∧ q < 10) : chg ch Y G S i p q e = cgr ch Y G R i p q e := by
  obtain ⟨a1, a2, a3⟩ := h p.toNat (by omega)
  obtain ⟨b1, _⟩ := h q.toNat (by omega)
  unfold chg cgr
  have e1 : (if 0 < S.2.1 p.toNat then Y i - S.2.2 p.toNat else 0) = (if R.2.2 p.toNat = -1 then 0 else Y i - R.2.2 p.toNat) := by
    rcases a3 with ⟨c1, c2⟩ | ⟨c1, c2, c3⟩
    · rw [if_neg (by omega), if_pos c2]
    · rw [if_pos c1, if_neg (by omega), c2]
  rw [e1, a1, a2, b1]
theorem stl_k {S R : zPS} {a b y cA cB : Int} (h : zLk2 S R) (hy : 0 ≤ y) : zLk2 (stl S a b y cA cB) (stl R a b y cA cB) ∨ ¬ (0 ≤ a ∧ a < 10 ∧ 0 ≤ b ∧ b < 10) := by
  by_cases hab : 0 ≤ a ∧ a < 10 ∧ 0 ≤ b ∧ b < 10
  · left
    intro p hp
    obtain ⟨p1, p2, p3⟩ := h p hp
    obtain ⟨a1, a2, a3⟩ := h a.toNat (by omega)
    obtain ⟨b1, b2, b3⟩ := h b.toNat (by omega)
    unfold stl
    dsimp only
    by_cases hb : p = b.toNat
    · subst hb
      rw [zPt_eq, zPt_eq, zPt_eq, zPt_eq, zPt_eq, zPt_eq]
      by_cases e : b.toNat = a.toNat
      · rw [e, zPt_eq, zPt_eq, zPt_eq, zPt_eq]
        omega
      · rw [zPt_ne e, zPt_ne e, zPt_ne e, zPt_ne e]
        omega
    · rw [zPt_ne hb, zPt_ne hb, zPt_ne hb, zPt_ne hb, zPt_ne hb, zPt_ne hb]
      by_cases e : p = a.toNat
      · subst e
        rw [zPt_eq, zPt_eq, zPt_eq, zPt_eq, zPt_eq, zPt_eq]
        omega
      · rw [zPt_ne e, zPt_ne e, zPt_ne e, zPt_ne e, zPt_ne e, zPt_ne e]
        exact ⟨p1, p2, p3⟩
  · exact Or.inr hab
theorem pln_k {ch A B E Y G A' B' E' Y' G' : Nat → Int} {sel sel' : Nat → Int} {S R : zPS} {n : Nat} (h : zLk2 S R) (hA : ∀ i, i < n → A' i = A i) (hB : ∀ i, i < n → B' i = B i) (hE : ∀ i, i < n → E' i = E i) (hY : ∀ i, i < n → Y' i = Y i) (hG : ∀ i, i < n → G' i = G i) (hs : ∀ i, i < n → sel' i = sel i) (bA : ∀ i, i < n → 0 ≤ A i ∧ A i < 10) (bB : ∀ i, i < n → 0 ≤ B i ∧ B i < 10) (bY : ∀ i, i < n → 0 ≤ Y i) : ∀ k, k ≤ n → zLk2 (pln (pst ch A B E Y G) sel S k) (pln (psr ch A' B' E' Y' G') sel' R k) := by
  intro k
  induction k with
  | zero => exact fun _ => h
  | succ k ih =>
    intro hk
    have ih := ih (by omega)
    by_cases hc : sel k = 1
    · rw [pln_y rfl hc, pln_y rfl ((hs k (by omega)).trans hc)]
      rw [pst_a, psr_a]
      rw [hA k (by omega), hB k (by omega), hE k (by omega), hY k (by omega)]
      have e1 : ∀ p q e, cgr ch Y' G' (pln (psr ch A' B' E' Y' G') sel' R k) k p q e = cgr ch Y G (pln (psr ch A' B' E' Y' G') sel' R k) k p q e := fun p q e => by
        unfold cgr
        rw [hY k (by omega), hG k (by omega)]
      rw [e1, e1, ← chg_r ih (bA k (by omega)) (bB k (by omega)), ← chg_r ih (bB k (by omega)) (bA k (by omega))]
      rcases stl_k (a := A k) (b := B k) (cA := chg ch Y G (pln (pst ch A B E Y G) sel S k) k (A k) (B k) (E k)) (cB := chg ch Y G (pln (pst ch A B E Y G) sel S k) k (B k) (A k) (2 - E k)) ih (bY k (by omega)) with z | z
      · exact z
      · exact absurd ⟨(bA k (by omega)).1, (bA k (by omega)).2, (bB k (by omega)).1, (bB k (by omega)).2⟩ z
    · rw [pln_n rfl hc, pln_n rfl (fun z => hc ((hs k (by omega)).symm.trans z))]
      exact ih
theorem zw_37x {E : zE} {d k pc q a1 a2 : Nat} {L S : List zV} {m : zM} {Q : zV → zM → Prop} {i : Instr} {x : Int} (h : zRow xM k pc = some (37, i, q, a1, a2)) (hx : -1000000 ≤ x ∧ x ≤ 1000000) (n : zW E d k q L ((0, x) :: S) m Q) : zW E d k pc L ((1, x) :: S) m Q := by
  refine zw_p h (by decide) (by decide) ?_ n
  show some (q, L, (0, (Int64.ofInt x).toInt32.toInt) :: S, m) = _
  rw [Int64.toInt_toInt32, zL_of (by omega), Int.bmod_eq_of_le (by omega) (by omega)]
/-! the class's contracts -/
def zS0 (S : zPS) (v : Int) : Prop := ∀ p : Nat, p < 10 → S.1 p = v ∧ S.2.1 p = 0 ∧ S.2.2 p = 0
def zR0 (S : zPS) (v : Int) : Prop := ∀ p : Nat, p < 10 → S.1 p = v ∧ S.2.1 p = 0 ∧ S.2.2 p = -1
theorem zS0_k {S R : zPS} {v w : Int} (h : zS0 S v) (h' : zR0 R w) (e : v = w) : zLk2 S R := fun p hp => by
  obtain ⟨a1, a2, a3⟩ := h p hp
  obtain ⟨b1, b2, b3⟩ := h' p hp
  exact ⟨by omega, by omega, Or.inl ⟨a2, b3⟩⟩
theorem zS0_f {f g h : Nat → Int} {a b c n v : Int} (h1 : zFil f n a) (h2 : zFil g n b) (h3 : zFil h n c) (e : n = 10 ∧ a = v ∧ b = 0 ∧ c = 0) : zS0 (f, g, h) v := fun p hp => by
  obtain ⟨rfl, rfl, rfl, rfl⟩ := e
  exact ⟨h1 p (by omega), h2 p (by omega), h3 p (by omega)⟩
def zPb (S : zPS) (n : Int) : Prop := ∀ p : Nat, p < 10 → (-(10000 + 1000 * n) ≤ S.1 p ∧ S.1 p ≤ 10000 + 1000 * n) ∧ 0 ≤ S.2.1 p ∧ S.2.1 p ≤ 2 * n
theorem zPb_0 {S : zPS} {v n : Int} (h : zS0 S v) (hv : 0 ≤ v ∧ v ≤ 9999 ∧ n = 0) : zPb S n := fun p hp => by
  obtain ⟨a1, a2, a3⟩ := h p hp
  omega
theorem zPb_r0 {S : zPS} {v n : Int} (h : zR0 S v) (hv : 0 ≤ v ∧ v ≤ 9999 ∧ n = 0) : zPb S n := fun p hp => by
  obtain ⟨a1, a2, a3⟩ := h p hp
  omega
theorem zPb_m {S : zPS} {n k : Int} (h : zPb S n) (hk : n ≤ k) : zPb S k := fun p hp => by
  have := h p hp
  omega
theorem zPb_at {f g h : Nat → Int} {n p : Int} (hb : zPb (f, g, h) n) (hp : 0 ≤ p ∧ p < 10) : (-(10000 + 1000 * n) ≤ f p.toNat ∧ f p.toNat ≤ 10000 + 1000 * n) ∧ 0 ≤ g p.toNat ∧ g p.toNat ≤ 2 * n := hb p.toNat (by omega)
theorem zPb_s {S : zPS} {n k a b y cA cB : Int} (h : zPb S n) (hc : (-500 ≤ cA ∧ cA ≤ 500) ∧ (-500 ≤ cB ∧ cB ≤ 500)) (hk : k = n + 1) : zPb (stl S a b y cA cB) k := by
  subst hk
  have ha : ∀ p : Nat, p < 10 → (-(10000 + 1000 * n + 500) ≤ zPt S.1 a.toNat (S.1 a.toNat + cA) p ∧ zPt S.1 a.toNat (S.1 a.toNat + cA) p ≤ 10000 + 1000 * n + 500) ∧ 0 ≤ zPt S.2.1 a.toNat (S.2.1 a.toNat + 1) p ∧ zPt S.2.1 a.toNat (S.2.1 a.toNat + 1) p ≤ 2 * n + 1 := by
    intro p hp
    have h1 := h p hp
    by_cases e : p = a.toNat
    · rw [← e, zPt_eq, zPt_eq]
      omega
    · rw [zPt_ne e, zPt_ne e]
      omega
  intro p hp
  have h1 := ha p hp
  unfold stl
  dsimp only
  by_cases e : p = b.toNat
  · rw [← e, zPt_eq, zPt_eq]
    omega
  · rw [zPt_ne e, zPt_ne e]
    omega
def zPy (ch A B E Y G : Nat → Int) (i : Nat) (S S' : zPS) (c : Int) : Prop := S' = pst ch A B E Y G i S ∧ c = chg ch Y G S i (A i) (B i) (E i) + chg ch Y G S i (B i) (A i) (2 - E i)
def zPz (ch A B E Y G : Nat → Int) (i : Nat) (S S' : zPS) (c1 c2 : Int) : Prop := S' = psr ch A B E Y G i S ∧ c1 = cgr ch Y G S i (A i) (B i) (E i) ∧ c2 = cgr ch Y G S i (B i) (A i) (2 - E i)
theorem chg_e {ch Y G f g h : Nat → Int} {i : Nat} {p q e c a b m u v y l : Int} (hc : c = cgv ch (nm6 a b e m u v)) (ha : a = f p.toNat) (hb : b = f q.toNat) (hm : m = g p.toNat) (hu : (0 < m ∧ u = y - l ∧ y = Y i ∧ l = h p.toNat) ∨ (m ≤ 0 ∧ u = 0)) (hv : v = G i) : c = chg ch Y G (f, g, h) i p q e := by
  have e1 : (if 0 < g p.toNat then Y i - h p.toNat else 0) = u := by
    rcases hu with ⟨h1, h2, h3, h4⟩ | ⟨h1, h2⟩
    · rw [if_pos (by omega), h2, h3, h4]
    · rw [if_neg (by omega), h2]
  unfold chg
  dsimp only
  rw [e1, ← ha, ← hb, ← hm, ← hv]
  exact hc
theorem cgr_e {ch Y G f g h : Nat → Int} {i : Nat} {p q e c a b m u v y l : Int} (hc : c = cgv ch (nm6 a b e m u v)) (ha : a = f p.toNat) (hb : b = f q.toNat) (hm : m = g p.toNat) (hl : l = h p.toNat) (hu : (l ≠ -1 ∧ u = y - l ∧ y = Y i) ∨ (l = -1 ∧ u = 0)) (hv : v = G i) : c = cgr ch Y G (f, g, h) i p q e := by
  have e1 : (if h p.toNat = -1 then 0 else Y i - h p.toNat) = u := by
    rcases hu with ⟨h1, h2, h3⟩ | ⟨h1, h2⟩
    · rw [if_neg (by omega), h2, h3, hl]
    · rw [if_pos (by omega), h2]
  unfold cgr
  dsimp only
  rw [e1, ← ha, ← hb, ← hm, ← hv]
  exact hc
theorem zPy_m {ch A B E Y G f g h f1 g1 h1 f2 g2 h2 : Nat → Int} {i : Nat} {x y e u r1 r2 c : Int} (hA : x = A i) (hB : y = B i) (hE : e = E i) (hY : u = Y i) (c1 : r1 = chg ch Y G (f, g, h) i x y e) (c2 : r2 = chg ch Y G (f, g, h) i y x (2 - e)) (s1 : f1 = zPt f x.toNat (f x.toNat + r1)) (s2 : g1 = zPt g x.toNat (g x.toNat + 1)) (s3 : h1 = zPt h x.toNat u) (t1 : f2 = zPt f1 y.toNat (f1 y.toNat + r2)) (t2 : g2 = zPt g1 y.toNat (g1 y.toNat + 1)) (t3 : h2 = zPt h1 y.toNat u) (hc : c = r1 + r2) : zPy ch A B E Y G i (f, g, h) (f2, g2, h2) c := by
  subst s1 s2 s3 t1 t2 t3 hc
  rw [hA, hB, hE] at c1
  rw [hA, hB, hE] at c2
  refine ⟨?_, by rw [c1, c2]⟩
  unfold pst stl
  rw [← c1, ← c2, ← hA, ← hB, ← hY]
  try rfl
theorem zPz_m {ch A B E Y G f g h f1 g1 h1 f2 g2 h2 : Nat → Int} {i : Nat} {x y e u r1 r2 : Int} (hA : x = A i) (hB : y = B i) (hE : e = E i) (hY : u = Y i) (c1 : r1 = cgr ch Y G (f, g, h) i x y e) (c2 : r2 = cgr ch Y G (f, g, h) i y x (2 - e)) (s1 : f1 = zPt f x.toNat (f x.toNat + r1)) (s2 : g1 = zPt g x.toNat (g x.toNat + 1)) (s3 : h1 = zPt h x.toNat u) (t1 : f2 = zPt f1 y.toNat (f1 y.toNat + r2)) (t2 : g2 = zPt g1 y.toNat (g1 y.toNat + 1)) (t3 : h2 = zPt h1 y.toNat u) : zPz ch A B E Y G i (f, g, h) (f2, g2, h2) r1 r2 := by
  subst s1 s2 s3 t1 t2 t3
  rw [hA, hB, hE] at c1
  rw [hA, hB, hE] at c2
  refine ⟨?_, c1, c2⟩
  unfold psr stl
  rw [← c1, ← c2, ← hA, ← hB, ← hY]
  try rfl
theorem zPy_b {ch A B E Y G : Nat → Int} {i : Nat} {S S' : zPS} {c n k r1 r2 : Int} (h : zPy ch A B E Y G i S S' c) (hb : zPb S n) (c1 : r1 = chg ch Y G S i (A i) (B i) (E i)) (c2 : r2 = chg ch Y G S i (B i) (A i) (2 - E i)) (hr : (-500 ≤ r1 ∧ r1 ≤ 500) ∧ (-500 ≤ r2 ∧ r2 ≤ 500)) (hk : k = n + 1) : zPb S' k := by
  rw [h.1]
  unfold pst
  rw [← c1, ← c2]
  exact zPb_s hb hr hk
theorem zPt_w (f : Nat → Int) (k p : Nat) (v : Int) : (p = k ∧ zPt f k v p = v) ∨ (p ≠ k ∧ zPt f k v p = f p) := by
  by_cases h : p = k
  · subst h
    exact Or.inl ⟨rfl, zPt_eq⟩
  · exact Or.inr ⟨h, zPt_ne h⟩
def zSn (T : Nat → zPS → zPS) (sel : Nat → Int) (v : Int) (S : zPS) (n : Int) : Prop := ∃ S0, zS0 S0 v ∧ S = pln T sel S0 n.toNat
def zRn (T : Nat → zPS → zPS) (sel : Nat → Int) (v : Int) (S : zPS) (n : Int) : Prop := ∃ S0, zR0 S0 v ∧ S = pln T sel S0 n.toNat
theorem zSn_0 {T : Nat → zPS → zPS} {sel : Nat → Int} {v n : Int} {S : zPS} (h : zS0 S v) (hn : n = 0) : zSn T sel v S n := ⟨S, h, by rw [hn]; rfl⟩
theorem zRn_0 {T : Nat → zPS → zPS} {sel : Nat → Int} {v n : Int} {S : zPS} (h : zR0 S v) (hn : n = 0) : zRn T sel v S n := ⟨S, h, by rw [hn]; rfl⟩
section ZSN
variable {ch A B E Y G : Nat → Int} {sel : Nat → Int} {v : Int} {S S' : zPS} {i i1 c c1 c2 : Int}
theorem zSn_y (h : zSn (pst ch A B E Y G) sel v S i) (hp : zPy ch A B E Y G i.toNat S S' c) (hs : sel i.toNat = 1) (h1 : 0 ≤ i ∧ i1 = i + 1) : zSn (pst ch A B E Y G) sel v S' i1 := by
  obtain ⟨S0, h2, h3⟩ := h
  refine ⟨S0, h2, ?_⟩
  rw [pln_y (n := i.toNat) (by omega) hs, ← h3]
  exact hp.1
theorem zSn_n (h : zSn (pst ch A B E Y G) sel v S i) (hs : sel i.toNat ≠ 1) (h1 : 0 ≤ i ∧ i1 = i + 1) : zSn (pst ch A B E Y G) sel v S i1 := by
  obtain ⟨S0, h2, h3⟩ := h
  refine ⟨S0, h2, ?_⟩
  rw [pln_n (n := i.toNat) (by omega) hs]
  exact h3
theorem zRn_y (h : zRn (psr ch A B E Y G) sel v S i) (hp : zPz ch A B E Y G i.toNat S S' c1 c2) (hs : sel i.toNat = 1) (h1 : 0 ≤ i ∧ i1 = i + 1) : zRn (psr ch A B E Y G) sel v S' i1 := by
  obtain ⟨S0, h2, h3⟩ := h
  refine ⟨S0, h2, ?_⟩
  rw [pln_y (n := i.toNat) (by omega) hs, ← h3]
  exact hp.1
theorem zRn_n (h : zRn (psr ch A B E Y G) sel v S i) (hs : sel i.toNat ≠ 1) (h1 : 0 ≤ i ∧ i1 = i + 1) : zRn (psr ch A B E Y G) sel v S i1 := by
  obtain ⟨S0, h2, h3⟩ := h
  refine ⟨S0, h2, ?_⟩
  rw [pln_n (n := i.toNat) (by omega) hs]
  exact h3
theorem zPz_b {n k : Int} (h : zPz ch A B E Y G i.toNat S S' c1 c2) (hb : zPb S n) (hr : (-500 ≤ c1 ∧ c1 ≤ 500) ∧ (-500 ≤ c2 ∧ c2 ≤ 500)) (hk : k = n + 1) : zPb S' k := by
  obtain ⟨h1, h2, h3⟩ := h
  rw [h1]
  unfold psr
  rw [← h2, ← h3]
  exact zPb_s hb hr hk
theorem zSn_k {A' B' E' Y' G' sel' : Nat → Int} {w n n' : Int} {R : zPS} (h : zSn (pst ch A B E Y G) sel v S n) (h' : zRn (psr ch A' B' E' Y' G') sel' w R n') (e : v = w ∧ n' = n) (hA : ∀ i : Nat, (i : Int) < n → A' i = A i) (hB : ∀ i : Nat, (i : Int) < n → B' i = B i) (hE : ∀ i : Nat, (i : Int) < n → E' i = E i) (hY : ∀ i : Nat, (i : Int) < n → Y' i = Y i) (hG : ∀ i : Nat, (i : Int) < n → G' i = G i) (hs : ∀ i : Nat, (i : Int) < n → sel' i = sel i) (bA : ∀ i : Nat, (i : Int) < n → 0 ≤ A i ∧ A i < 10) (bB : ∀ i : Nat, (i : Int) < n → 0 ≤ B i ∧ B i < 10) (bY : ∀ i : Nat, (i : Int) < n → 0 ≤ Y i) : zLk2 S R := by
  obtain ⟨e1, rfl⟩ := e
  obtain ⟨S0, h1, h2⟩ := h
  obtain ⟨R0, h3, h4⟩ := h'
  rw [h2, h4]
  exact pln_k (n := n'.toNat) (zS0_k h1 h3 e1) (fun i hi => hA i (by omega)) (fun i hi => hB i (by omega)) (fun i hi => hE i (by omega)) (fun i hi => hY i (by omega)) (fun i hi => hG i (by omega)) (fun i hi => hs i (by omega)) (fun i hi => bA i (by omega)) (fun i hi => bB i (by omega)) (fun i hi => bY i (by omega)) _ (Nat.le_refl _)
end ZSN
/-! the reference's begin -/
def zRb (f g h : Nat → Int) (n v : Int) : Prop := ∀ j : Nat, (j : Int) < n → f j = v ∧ g j = 0 ∧ h j = -1
theorem zRb_0 {f g h : Nat → Int} {v : Int} : zRb f g h 0 v := fun j hj => by omega
theorem zRb_s {f g h f2 g2 h2 : Nat → Int} {n k v x : Int} (h0 : zRb f g h n v) (hx : x = v) (e1 : f2 = zPt f n.toNat x) (e2 : g2 = zPt g n.toNat 0) (e3 : h2 = zPt h n.toNat (-1)) (hn : 0 ≤ n ∧ k = n + 1) : zRb f2 g2 h2 k v := by
  intro j hj
  rw [e1, e2, e3]
  by_cases e : j = n.toNat
  · rw [e, zPt_eq, zPt_eq, zPt_eq]
    exact ⟨hx, rfl, rfl⟩
  · rw [zPt_ne e, zPt_ne e, zPt_ne e]
    exact h0 j (by omega)
theorem zRb_e {f g h : Nat → Int} {n v : Int} (h0 : zRb f g h n v) (hn : 10 ≤ n) : zR0 (f, g, h) v := fun p hp => h0 p (by omega)
/-! sums along the meetings -/
noncomputable def acc (C : Nat → zPS → Int) (T : Nat → zPS → zPS) (sel : Nat → Int) (S0 : zPS) : Nat → Int
  | 0 => 0
  | n + 1 => acc C T sel S0 n + C n (pln T sel S0 n)
theorem acc_s {C : Nat → zPS → Int} {T : Nat → zPS → zPS} {sel : Nat → Int} {S0 : zPS} {n k : Nat} (hk : k = n + 1) : acc C T sel S0 k = acc C T sel S0 n + C n (pln T sel S0 n) := by
  subst hk
  rfl
def zAn (T : Nat → zPS → zPS) (sel : Nat → Int) (C : Nat → zPS → Int) (v : Int) (S : zPS) (s n : Int) : Prop := ∃ S0, zS0 S0 v ∧ S = pln T sel S0 n.toNat ∧ s = acc C T sel S0 n.toNat
def zBn (T : Nat → zPS → zPS) (sel : Nat → Int) (C : Nat → zPS → Int) (v : Int) (S : zPS) (s n : Int) : Prop := ∃ S0, zR0 S0 v ∧ S = pln T sel S0 n.toNat ∧ s = acc C T sel S0 n.toNat
theorem zAn_0 {T : Nat → zPS → zPS} {sel : Nat → Int} {C : Nat → zPS → Int} {v s n : Int} {S : zPS} (h : zS0 S v) (hn : n = 0 ∧ s = 0) : zAn T sel C v S s n := by
  obtain ⟨rfl, rfl⟩ := hn
  exact ⟨S, h, rfl, rfl⟩
theorem zBn_0 {T : Nat → zPS → zPS} {sel : Nat → Int} {C : Nat → zPS → Int} {v s n : Int} {S : zPS} (h : zR0 S v) (hn : n = 0 ∧ s = 0) : zBn T sel C v S s n := by
  obtain ⟨rfl, rfl⟩ := hn
  exact ⟨S, h, rfl, rfl⟩
section ZAN
variable {ch A B E Y G : Nat → Int} {sel : Nat → Int} {C D : Nat → zPS → Int} {v : Int} {S S' : zPS} {i i1 c c1 c2 s s1 x : Int}
theorem zAn_y (h : zAn (pst ch A B E Y G) sel C v S s i) (hp : zPy ch A B E Y G i.toNat S S' c) (hs : sel i.toNat = 1) (hx : x = C i.toNat S) (h1 : 0 ≤ i ∧ i1 = i + 1 ∧ s1 = s + x) : zAn (pst ch A B E Y G) sel C v S' s1 i1 := by
  obtain ⟨S0, h2, h3, h4⟩ := h
  refine ⟨S0, h2, ?_, ?_⟩
  · rw [pln_y (n := i.toNat) (by omega) hs, ← h3]
    exact hp.1
  · rw [acc_s (n := i.toNat) (by omega), ← h3, ← h4, ← hx]
    exact h1.2.2
theorem zBn_y (h : zBn (psr ch A B E Y G) sel C v S s i) (hp : zPz ch A B E Y G i.toNat S S' c1 c2) (hs : sel i.toNat = 1) (hx : x = C i.toNat S) (h1 : 0 ≤ i ∧ i1 = i + 1 ∧ s1 = s + x) : zBn (psr ch A B E Y G) sel C v S' s1 i1 := by
  obtain ⟨S0, h2, h3, h4⟩ := h
  refine ⟨S0, h2, ?_, ?_⟩
  · rw [pln_y (n := i.toNat) (by omega) hs, ← h3]
    exact hp.1
  · rw [acc_s (n := i.toNat) (by omega), ← h3, ← h4, ← hx]
    exact h1.2.2
theorem zAn_k {A' B' E' Y' G' sel' : Nat → Int} {w n n' t : Int} {R : zPS} (h : zAn (pst ch A B E Y G) sel C v S s n) (h' : zBn (psr ch A' B' E' Y' G') sel' D w R t n') (e : v = w ∧ n' = n) (hA : ∀ i : Nat, (i : Int) < n → A' i = A i) (hB : ∀ i : Nat, (i : Int) < n → B' i = B i) (hE : ∀ i : Nat, (i : Int) < n → E' i = E i) (hY : ∀ i : Nat, (i : Int) < n → Y' i = Y i) (hG : ∀ i : Nat, (i : Int) < n → G' i = G i) (hs : ∀ i : Nat, (i : Int) < n → sel' i = sel i) (bA : ∀ i : Nat, (i : Int) < n → 0 ≤ A i ∧ A i < 10) (bB : ∀ i : Nat, (i : Int) < n → 0 ≤ B i ∧ B i < 10) (bY : ∀ i : Nat, (i : Int) < n → 0 ≤ Y i) (hC : ∀ (i : Nat) (P Q : zPS), (i : Int) < n → zLk2 P Q → D i Q = C i P) : t = s := by
  obtain ⟨e1, rfl⟩ := e
  obtain ⟨S0, h1, h2, h3⟩ := h
  obtain ⟨R0, h4, h5, h6⟩ := h'
  rw [h3, h6]
  have key := pln_k (ch := ch) (n := n'.toNat) (zS0_k h1 h4 e1) (fun i hi => hA i (by omega)) (fun i hi => hB i (by omega)) (fun i hi => hE i (by omega)) (fun i hi => hY i (by omega)) (fun i hi => hG i (by omega)) (fun i hi => hs i (by omega)) (fun i hi => bA i (by omega)) (fun i hi => bB i (by omega)) (fun i hi => bY i (by omega))
  have t : ∀ k, k ≤ n'.toNat → acc D (psr ch A' B' E' Y' G') sel' R0 k = acc C (pst ch A B E Y G) sel S0 k := by
    intro k
    induction k with
    | zero => exact fun _ => rfl
    | succ k ih =>
      intro hk
      rw [acc_s rfl, acc_s rfl, ih (by omega), hC k _ _ (by omega) (key k (by omega))]
  exact t _ (Nat.le_refl _)
end ZAN
/-! what is paid -/
noncomputable def cpy (ch A B E Y G : Nat → Int) (y : Int) (i : Nat) (S : zPS) : Int := if Y i = y then chg ch Y G S i (A i) (B i) (E i) + chg ch Y G S i (B i) (A i) (2 - E i) else 0
noncomputable def cpr (ch A B E Y G : Nat → Int) (y : Int) (i : Nat) (S : zPS) : Int := if Y i = y then cgr ch Y G S i (A i) (B i) (E i) + cgr ch Y G S i (B i) (A i) (2 - E i) else 0
theorem cpy_e {ch A B E Y G : Nat → Int} {y c x : Int} {i : Nat} {S S' : zPS} (hp : zPy ch A B E Y G i S S' c) (h : (Y i = y ∧ x = c) ∨ (Y i ≠ y ∧ x = 0)) : x = cpy ch A B E Y G y i S := by
  unfold cpy
  rcases h with ⟨h1, h2⟩ | ⟨h1, h2⟩
  · rw [if_pos h1, ← hp.2, h2]
  · rw [if_neg h1, h2]
theorem cpr_e {ch A B E Y G : Nat → Int} {y c1 c2 x : Int} {i : Nat} {S S' : zPS} (hp : zPz ch A B E Y G i S S' c1 c2) (h : (Y i = y ∧ x = c1 + c2) ∨ (Y i ≠ y ∧ x = 0)) : x = cpr ch A B E Y G y i S := by
  unfold cpr
  rcases h with ⟨h1, h2⟩ | ⟨h1, h2⟩
  · rw [if_pos h1, ← hp.2.1, ← hp.2.2, h2]
  · rw [if_neg h1, h2]
theorem cpr_k {ch A B E Y G A' B' E' Y' G' : Nat → Int} {y : Int} {i : Nat} {S R : zPS} (h : zLk2 S R) (hA : A' i = A i) (hB : B' i = B i) (hE : E' i = E i) (hY : Y' i = Y i) (hG : G' i = G i) (bA : 0 ≤ A i ∧ A i < 10) (bB : 0 ≤ B i ∧ B i < 10) : cpr ch A' B' E' Y' G' y i R = cpy ch A B E Y G y i S := by
  have e1 : ∀ p q e, cgr ch Y' G' R i p q e = cgr ch Y G R i p q e := fun p q e => by
    unfold cgr
    rw [hY, hG]
  unfold cpr cpy
  rw [hA, hB, hE, hY, e1, e1, chg_r h bA bB, chg_r h bB bA]
/-! what is foretold -/
def pts (a b e : Int) : Int := if e = 1 then (if -50 ≤ a - b ∧ a - b ≤ 50 then 1 else 0) else if e = 2 then (if 0 < a - b then 2 else 0) else (if a - b < 0 then 2 else 0)
def cft (A B E G : Nat → Int) (i : Nat) (S : zPS) : Int := if G i = 0 then pts (S.1 (A i).toNat) (S.1 (B i).toNat) (E i) else 0
theorem pts_c (a b e : Int) : (e = 1 ∧ -50 ≤ a - b ∧ a - b ≤ 50 ∧ pts a b e = 1) ∨ (e = 1 ∧ (a - b < -50 ∨ 50 < a - b) ∧ pts a b e = 0) ∨ (e = 2 ∧ 0 < a - b ∧ pts a b e = 2) ∨ (e = 2 ∧ a - b ≤ 0 ∧ pts a b e = 0) ∨ (e ≠ 1 ∧ e ≠ 2 ∧ a - b < 0 ∧ pts a b e = 2) ∨ (e ≠ 1 ∧ e ≠ 2 ∧ 0 ≤ a - b ∧ pts a b e = 0) := by
  unfold pts
  (repeat' split) <;> omega
theorem cft_k {A B E G A' B' E' G' : Nat → Int} {i : Nat} {S R : zPS} (h : zLk2 S R) (hA : A' i = A i) (hB : B' i = B i) (hE : E' i = E i) (hG : G' i = G i) (bA : 0 ≤ A i ∧ A i < 10) (bB : 0 ≤ B i ∧ B i < 10) : cft A' B' E' G' i R = cft A B E G i S := by
  unfold cft
  rw [hA, hB, hE, hG, (h (A i).toNat (by omega)).1, (h (B i).toNat (by omega)).1]
theorem cft_e {A B E G f g h : Nat → Int} {i : Nat} {x a b e c : Int} (hc : c = G i) (h1 : (c = 0 ∧ x = pts a b e) ∨ (c ≠ 0 ∧ x = 0)) (ha : c ≠ 0 ∨ (a = f (A i).toNat ∧ b = f (B i).toNat ∧ e = E i)) : x = cft A B E G i (f, g, h) := by
  unfold cft
  rcases h1 with ⟨h1, h2⟩ | ⟨h1, h2⟩
  · rw [if_pos (by omega), h2]
    rcases ha with ha | ⟨ha, hb, he⟩
    · exact absurd h1 ha
    · rw [ha, hb, he]
  · rw [if_neg (by omega), h2]
/-! without the meetings of one in a year -/
def hsl (Y A B : Nat → Int) (y p : Int) (i : Nat) : Int := if Y i = y ∧ (A i = p ∨ B i = p) then 0 else 1
theorem hsl_y {Y A B : Nat → Int} {y p : Int} {i : Nat} (h : Y i ≠ y ∨ (A i ≠ p ∧ B i ≠ p)) : hsl Y A B y p i = 1 := if_neg (by omega)
theorem hsl_n {Y A B : Nat → Int} {y p : Int} {i : Nat} (h : Y i = y ∧ (A i = p ∨ B i = p)) : hsl Y A B y p i ≠ 1 := by
  unfold hsl
  rw [if_pos h]
  decide
theorem hsl_k {Y A B Y' A' B' : Nat → Int} {y p : Int} {i : Nat} (hY : Y' i = Y i) (hA : A' i = A i) (hB : B' i = B i) : hsl Y' A' B' y p i = hsl Y A B y p i := by
  unfold hsl
  rw [hY, hA, hB]
/-! up to a year -/
def zYr (F : Nat → Int) (y n : Int) : Prop := ∀ i : Nat, (i : Int) < n → F i ≤ y
theorem zYr_0 {F : Nat → Int} {y : Int} : zYr F y 0 := fun i h => by omega
theorem zYr_s {F : Nat → Int} {y n k : Int} (h : zYr F y n) (hx : F n.toNat ≤ y) (hk : 0 ≤ n ∧ k = n + 1) : zYr F y k := fun i hi => by
  by_cases e : i = n.toNat
  · rw [e]
    exact hx
  · exact h i (by omega)
def zGt (T : Nat → zPS → zPS) (v : Int) (F : Nat → Int) (y g : Int) (S : zPS) : Prop := ∃ k, 0 ≤ k ∧ k ≤ g ∧ zRn T (fun _ => 1) v S k ∧ zYr F y k ∧ (g ≤ k ∨ y < F k.toNat) ∧ zPb S k
theorem zGt_m {T : Nat → zPS → zPS} {v y g k : Int} {F : Nat → Int} {S : zPS} (h : zRn T (fun _ => 1) v S k) (hy : zYr F y k) (hb : zPb S k) (h1 : 0 ≤ k ∧ k ≤ g) (h2 : g ≤ k ∨ y < F k.toNat) : zGt T v F y g S := ⟨k, h1.1, h1.2, h, hy, h2, hb⟩
theorem zGt_9 {T : Nat → zPS → zPS} {v g : Int} {F : Nat → Int} {S : zPS} (h : zGt T v F 99 g S) (hF : ∀ i : Nat, (i : Int) < g → F i ≤ 99) : zRn T (fun _ => 1) v S g ∧ zPb S g := by
  obtain ⟨k, h1, h2, h3, h4, h5, h6⟩ := h
  have e : k = g := by
    rcases h5 with h5 | h5
    · omega
    · by_cases e : k < g
      · have := hF k.toNat (by omega)
        omega
      · omega
  subst e
  exact ⟨h3, h6⟩
theorem pts_e {a b e r : Int} (h : (e = 1 ∧ ((-50 ≤ a - b ∧ a - b ≤ 50 ∧ r = 1) ∨ ((a - b < -50 ∨ 50 < a - b) ∧ r = 0))) ∨ (e = 2 ∧ ((0 < a - b ∧ r = 2) ∨ (a - b ≤ 0 ∧ r = 0))) ∨ (e ≠ 1 ∧ e ≠ 2 ∧ ((a - b < 0 ∧ r = 2) ∨ (0 ≤ a - b ∧ r = 0)))) : r = pts a b e := by
  have := pts_c a b e
  omega
theorem zw_122x {E : zE} {d k pc q a1 a2 : Nat} {L S : List zV} {m : zM} {Q : zV → zM → Prop} {i : Instr} {x : Int} (h : zRow xM k pc = some (122, i, q, a1, a2)) (hs : zCats S ≤ 8) (hd : 0 < d) (hx : -1000000 ≤ x ∧ x ≤ 1000000) (n : ∀ r : Int, ((0 ≤ x ∧ r = x) ∨ (x < 0 ∧ r = -x)) → zW E d k q L ((0, r) :: S) m Q) : zW E d k pc L ((0, x) :: S) m Q := by
  have hp : zPure E.1 E.2 d k 122 i pc q a1 a2 L ((0, x) :: S) m = some (q, L, (0, (if 0 ≤ Int32.ofInt x then Int32.ofInt x else 0 - Int32.ofInt x).toInt) :: S, m) := if_pos ⟨hs, hd⟩
  have h0 : (0 : Int32) ≤ Int32.ofInt x ↔ 0 ≤ x := zle32 (x := 0) (y := x) (by omega) (by omega)
  by_cases hc : 0 ≤ x
  · rw [if_pos (h0.mpr hc), zI_of (by omega)] at hp
    exact zw_p h (by decide) (by decide) hp (n x (Or.inl ⟨hc, rfl⟩))
  · have e : (0 - Int32.ofInt x).toInt = -x := by
      rw [show (0 : Int32) = Int32.ofInt 0 from rfl, ← Int32.ofInt_sub, zI_of (by omega)]
      omega
    rw [if_neg (fun z => hc (h0.mp z)), e] at hp
    exact zw_p h (by decide) (by decide) hp (n (-x) (Or.inr ⟨by omega, rfl⟩))
/-! the best system: the first of the greatest -/
def scn (w : Nat → Int) : Nat → Int × Int
  | 0 => (-1, -1)
  | n + 1 => if (scn w n).2 < w n then ((n : Int), w n) else scn w n
theorem scn_y {w : Nat → Int} {n k : Nat} (hk : k = n + 1) (h : (scn w n).2 < w n) : scn w k = ((n : Int), w n) := by
  subst hk
  exact if_pos h
theorem scn_n {w : Nat → Int} {n k : Nat} (hk : k = n + 1) (h : ¬ (scn w n).2 < w n) : scn w k = scn w n := by
  subst hk
  exact if_neg h
theorem scn_cg {w u : Nat → Int} {n : Nat} (h : ∀ i, i < n → u i = w i) : scn u n = scn w n := by
  induction n with
  | zero => rfl
  | succ n ih =>
    have ih := ih (fun i hi => h i (by omega))
    by_cases hc : (scn w n).2 < w n
    · rw [scn_y rfl hc, scn_y rfl (by rw [ih, h n (by omega)]; exact hc), h n (by omega)]
    · rw [scn_n rfl hc, scn_n rfl (by rw [ih, h n (by omega)]; exact hc), ih]
theorem scn_b (w : Nat → Int) (n : Nat) : ((scn w n).1 = -1 ∧ (scn w n).2 = -1) ∨ (0 ≤ (scn w n).1 ∧ -1 < (scn w n).2) := by
  induction n with
  | zero => exact Or.inl ⟨rfl, rfl⟩
  | succ n ih =>
    by_cases hc : (scn w n).2 < w n
    · rw [scn_y rfl hc]
      right
      refine ⟨Int.natCast_nonneg n, ?_⟩
      show -1 < w n
      omega
    · rw [scn_n rfl hc]
      exact ih
def zBc (K : Nat → Int → Prop) (n b m : Int) : Prop := ∃ w : Nat → Int, (∀ i : Nat, (i : Int) < n → K i (w i)) ∧ (b, m) = scn w n.toNat
def zBr2 (K : Nat → Int → Prop) (n b m : Int) : Prop := ∃ w : Nat → Int, (∀ i : Nat, (i : Int) < n → K i (w i)) ∧ b = (scn w n.toNat).1 ∧ (b = -1 ∨ m = (scn w n.toNat).2)
theorem zBc_0 {K : Nat → Int → Prop} : zBc K 0 (-1) (-1) := ⟨fun _ => 0, fun i hi => by omega, rfl⟩
theorem zBr2_0 {K : Nat → Int → Prop} {m : Int} : zBr2 K 0 (-1) m := ⟨fun _ => 0, fun i hi => by omega, rfl, Or.inl rfl⟩
def wpt (w : Nat → Int) (n : Nat) (x : Int) : Nat → Int := fun i => if i = n then x else w i
theorem wpt_e {w : Nat → Int} {n : Nat} {x : Int} : wpt w n x n = x := if_pos rfl
theorem wpt_n {w : Nat → Int} {n i : Nat} {x : Int} (h : i ≠ n) : wpt w n x i = w i := if_neg h
theorem zBc_s {K : Nat → Int → Prop} {n b m k b2 m2 x : Int} (h : zBc K n b m) (hK : K n.toNat x) (h1 : (m < x ∧ b2 = n ∧ m2 = x) ∨ (x ≤ m ∧ b2 = b ∧ m2 = m)) (hn : 0 ≤ n ∧ k = n + 1) : zBc K k b2 m2 := by
  obtain ⟨w, h2, h3⟩ := h
  have hm : m = (scn w n.toNat).2 := congrArg Prod.snd h3
  have hb : b = (scn w n.toNat).1 := congrArg Prod.fst h3
  have e : scn (wpt w n.toNat x) n.toNat = scn w n.toNat := scn_cg fun i hi => wpt_n (by omega)
  refine ⟨wpt w n.toNat x, fun i hi => ?_, ?_⟩
  · by_cases q : i = n.toNat
    · rw [q, wpt_e]
      exact hK
    · rw [wpt_n q]
      exact h2 i (by omega)
  · rcases h1 with ⟨g1, g2, g3⟩ | ⟨g1, g2, g3⟩
    · rw [scn_y (n := n.toNat) (by omega) (by rw [e, wpt_e]; omega), wpt_e, g2, g3, show ((n.toNat : Nat) : Int) = n by omega]
    · rw [scn_n (n := n.toNat) (by omega) (by rw [e, wpt_e]; omega), e, g2, g3]
      exact h3
theorem zBr2_s {K : Nat → Int → Prop} {n b m k b2 m2 x : Int} (h : zBr2 K n b m) (hK : K n.toNat x) (h1 : (0 ≤ x ∧ (b = -1 ∨ m < x) ∧ b2 = n ∧ m2 = x) ∨ ((x = -1 ∨ (b ≠ -1 ∧ x ≤ m)) ∧ b2 = b ∧ m2 = m)) (hn : 0 ≤ n ∧ k = n + 1) : zBr2 K k b2 m2 := by
  obtain ⟨w, h2, h3, h4⟩ := h
  have hb := scn_b w n.toNat
  have e : scn (wpt w n.toNat x) n.toNat = scn w n.toNat := scn_cg fun i hi => wpt_n (by omega)
  refine ⟨wpt w n.toNat x, fun i hi => ?_, ?_⟩
  · by_cases q : i = n.toNat
    · rw [q, wpt_e]
      exact hK
    · rw [wpt_n q]
      exact h2 i (by omega)
  · rcases h1 with ⟨g0, g1, g2, g3⟩ | ⟨g1, g2, g3⟩
    · rw [scn_y (n := n.toNat) (by omega) (by rw [e, wpt_e]; omega), wpt_e, g2, g3, show ((n.toNat : Nat) : Int) = n by omega]
      exact ⟨rfl, Or.inr rfl⟩
    · rw [scn_n (n := n.toNat) (by omega) (by rw [e, wpt_e]; omega), e, g2, g3]
      exact ⟨h3, h4⟩
theorem zBc_un {K J : Nat → Int → Prop} {b m b2 m2 : Int} (h : zBc K 4 b m) (h' : zBr2 J 4 b2 m2) (hu : ∀ i : Nat, i < 4 → ∀ x y, K i x → J i y → x = y) : b = b2 := by
  obtain ⟨w, h2, h3⟩ := h
  obtain ⟨u, h4, h5, _⟩ := h'
  have e : scn u (4 : Int).toNat = scn w (4 : Int).toNat := scn_cg fun i hi => (hu i (by omega) _ _ (h2 i (by omega)) (h4 i (by omega))).symm
  rw [h5, e]
  exact congrArg Prod.fst h3
def zKcs (ch : Nat → Int) (T : Nat → zPS → zPS) (C : Nat → zPS → Int) (v n x : Int) : Prop := ∃ fl f y S r, zPc ch f y fl ∧ zAn T (fun _ => 1) C v S r n ∧ ((fl ≠ -1 ∧ x = -1) ∨ (fl = -1 ∧ x = r))
def zKr (ch : Nat → Int) (T : Nat → zPS → zPS) (C : Nat → zPS → Int) (v n x : Int) : Prop := ∃ fl nm t, RV ch nm 0 1 0 [] [] (fl, t) ∧ ((fl ≠ -1 ∧ x = -1) ∨ (fl = -1 ∧ ∃ S, zBn T (fun _ => 1) C v S x n))
theorem zKcs_i {ch : Nat → Int} {T : Nat → zPS → zPS} {C : Nat → zPS → Int} {v n x fl r : Int} (h1 : ∃ f y, zPc ch f y fl) (h2 : ∃ S, zAn T (fun _ => 1) C v S r n) (h3 : (fl ≠ -1 ∧ x = -1) ∨ (fl = -1 ∧ x = r)) : zKcs ch T C v n x := by
  obtain ⟨f, y, h1⟩ := h1
  obtain ⟨S, h2⟩ := h2
  exact ⟨fl, f, y, S, r, h1, h2, h3⟩
