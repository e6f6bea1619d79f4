/-! strengths: bounds set by meetings, potentials -/
def edg (A B lo hi : Nat → Int) (n x : Int) (p b : Nat) (s : Int) (i : Nat) : Prop := (i : Int) < n ∧ zbt x i = 1 ∧ ((p = (A i).toNat ∧ b = (B i).toNat ∧ s = hi i) ∨ (p = (B i).toNat ∧ b = (A i).toNat ∧ s = -(lo i)))
def fea (E : Nat → Nat → Int → Nat → Prop) (X : Nat → Int) : Prop := ∀ p b s i, E p b s i → X p ≤ X b + s
def ovt (A B : Nat → Int) (w : Nat → Int) (v : Nat) : Nat := if A (w v).toNat = (v : Int) then (B (w v).toNat).toNat else (A (w v).toNat).toNat
theorem edg_ov {A B lo hi w : Nat → Int} {n x s : Int} {v b : Nat} (hA : ∀ i : Nat, 0 ≤ A i ∧ 0 ≤ B i) (h : edg A B lo hi n x v b s (w v).toNat) : b = ovt A B w v := by
  obtain ⟨_, _, h⟩ := h
  have := hA (w v).toNat
  unfold ovt
  rcases h with ⟨h1, h2, _⟩ | ⟨h1, h2, _⟩
  · rw [if_pos (by omega), h2]
  · by_cases c : A (w v).toNat = (v : Int)
    · rw [if_pos c]; omega
    · rw [if_neg c, h2]
/-! one bound lowered -/
def loD (d : Nat → Int) (p b : Nat) (s : Int) : Nat → Int := if d b = 1000000 ∨ d p ≤ d b + s then d else zPt d p (d b + s)
def loW (w d : Nat → Int) (p b : Nat) (s m : Int) : Nat → Int := if d b = 1000000 ∨ d p ≤ d b + s then w else zPt w p m
def loR (d : Nat → Int) (p b : Nat) (s : Int) : Int := if d b = 1000000 ∨ d p ≤ d b + s then 0 else 1
theorem loR_c (d : Nat → Int) (p b : Nat) (s : Int) : (loR d p b s = 0 ∧ (d b = 1000000 ∨ d p ≤ d b + s)) ∨ (loR d p b s = 1 ∧ d b ≠ 1000000 ∧ d b + s < d p) := by
  unfold loR
  by_cases c : d b = 1000000 ∨ d p ≤ d b + s
  · rw [if_pos c]; exact Or.inl ⟨rfl, c⟩
  · rw [if_neg c]; exact Or.inr ⟨rfl, by omega, by omega⟩
theorem loD_le (d : Nat → Int) (p b : Nat) (s : Int) (v : Nat) : loD d p b s v ≤ d v := by
  unfold loD
  by_cases c : d b = 1000000 ∨ d p ≤ d b + s
  · rw [if_pos c]; exact Int.le_refl _
  · rw [if_neg c]
    by_cases e : v = p
    · rw [e, zPt_eq]; omega
    · rw [zPt_ne e]; exact Int.le_refl _
def zLo (d : Nat → Int) (c : Int) : Prop := ∀ v, v < 10 → -c ≤ d v
theorem zLo_m {d : Nat → Int} {c e : Int} (h : zLo d c) (he : c ≤ e) : zLo d e := fun v hv => by have := h v hv; omega
theorem zLo_d {d d2 : Nat → Int} {c e s : Int} {p b : Nat} (h : zLo d c) (e2 : d2 = loD d p b s) (hs : -2000 ≤ s) (hb : b < 10) (he : c + 2000 ≤ e) : zLo d2 e := fun v hv => by
  rw [e2]
  unfold loD
  have := h v hv
  by_cases k : d b = 1000000 ∨ d p ≤ d b + s
  · rw [if_pos k]; omega
  · rw [if_neg k]
    have := h b hb
    by_cases q : v = p
    · rw [q, zPt_eq]; omega
    · rw [zPt_ne q]; omega
/-! who was lowered by whom -/
def zNi (A B : Nat → Int) (E : Nat → Nat → Int → Nat → Prop) (d w : Nat → Int) : Prop := ∃ T : Nat → Nat, ∀ v, v < 10 → w v ≠ -1 → 0 ≤ w v ∧ ∃ s, E v (ovt A B w v) s (w v).toNat ∧ ovt A B w v < 10 ∧ (d (ovt A B w v) + s < d v ∨ (d v = d (ovt A B w v) + s ∧ T (ovt A B w v) < T v))
def zKp (A B : Nat → Int) (w : Nat → Int) (k : Nat → Nat) : Prop := ∀ v, v < 10 → (1 ≤ k v → w v ≠ -1) ∧ (w v ≠ -1 → k v ≤ k (ovt A B w v) + 1)
def zEs (d : Nat → Int) (k : Nat → Nat) (j p b : Nat) (s : Int) : Prop := j ≤ k b ∨ d b = 1000000 ∨ d p ≤ d b + s
def zPs (A B : Nat → Int) (E Pr : Nat → Nat → Int → Nat → Prop) (j : Nat) (R : Int) (d w : Nat → Int) : Prop := zNi A B E d w ∧ ∃ k : Nat → Nat, zKp A B w k ∧ (∀ v, k v ≤ j + 1) ∧ (∀ p b s i, E p b s i → zEs d k j p b s) ∧ (∀ p b s i, E p b s i → Pr p b s i → zEs d k (j + 1) p b s) ∧ (R ≠ 0 → ∃ v, v < 10 ∧ k v = j + 1)
theorem ovt_pt {A B w : Nat → Int} {p v : Nat} {m : Int} (h : v ≠ p) : ovt A B (zPt w p m) v = ovt A B w v := by
  unfold ovt; rw [zPt_ne h]
theorem zPs_low {A B : Nat → Int} {E Pr : Nat → Nat → Int → Nat → Prop} {j : Nat} {R s m : Int} {d w : Nat → Int} {p b : Nat} (h : zPs A B E Pr j R d w) (he : E p b s m.toNat) (hm : 0 ≤ m) (hp : p < 10) (hb : b < 10) (ho : ∀ w : Nat → Int, w p = m → b = ovt A B w p) : zPs A B E (fun p' b' s' i' => Pr p' b' s' i' ∨ (p' = p ∧ b' = b ∧ s' = s)) j (if R ≠ 0 ∨ loR d p b s ≠ 0 then 1 else 0) (loD d p b s) (loW w d p b s m) := by
  obtain ⟨⟨T, hT⟩, k, k1, k2, k3, k4, k5⟩ := h
  by_cases c : d b = 1000000 ∨ d p ≤ d b + s
  · have e1 : loD d p b s = d := if_pos c
    have e2 : loW w d p b s m = w := if_pos c
    have e3 : loR d p b s = 0 := if_pos c
    rw [e1, e2, e3]
    refine ⟨⟨T, hT⟩, k, k1, k2, k3, ?_, ?_⟩
    · rintro p' b' s' i' he' (hq | ⟨q1, q2, q3⟩)
      · exact k4 p' b' s' i' he' hq
      · rw [q1, q2, q3]; exact Or.inr c
    · intro z
      by_cases r : R ≠ 0
      · exact k5 r
      · rw [if_neg (by omega)] at z; exact absurd rfl z
  · have e1 : loD d p b s = zPt d p (d b + s) := if_neg c
    have e2 : loW w d p b s m = zPt w p m := if_neg c
    rw [e1, e2]
    have c1 : d b ≠ 1000000 := fun z => c (Or.inl z)
    have c2 : d b + s < d p := by omega
    have jb : j ≤ k b := by
      rcases k3 p b s _ he with z | z | z
      · exact z
      · exact absurd z c1
      · omega
    have ow : ovt A B (zPt w p m) p = b := (ho _ zPt_eq).symm
    refine ⟨⟨fun v => if v = p then T b + 1 else T v, fun v hv hw => ?_⟩, fun v => if v = p then j + 1 else k v, fun v hv => ?_, fun v => ?_, fun p' b' s' i' he' => ?_, fun p' b' s' i' he' hq => ?_, fun _ => ⟨p, hp, if_pos rfl⟩⟩
    · by_cases q : v = p
      · subst q
        rw [ow, zPt_eq]
        refine ⟨hm, s, he, hb, ?_⟩
        by_cases q2 : b = v
        · subst q2
          rw [zPt_eq]; exact Or.inl (by omega)
        · rw [zPt_eq, zPt_ne q2]
          refine Or.inr ⟨rfl, ?_⟩
          show (if b = v then _ else _) < (if v = v then _ else _)
          rw [if_neg q2, if_pos rfl]; omega
      · rw [zPt_ne q] at hw
        obtain ⟨x1, s2, x2, x3, x4⟩ := hT v hv hw
        rw [ovt_pt q, zPt_ne q, zPt_ne q]
        refine ⟨x1, s2, x2, x3, ?_⟩
        by_cases q2 : ovt A B w v = p
        · rw [q2] at x4 ⊢
          rw [zPt_eq]; exact Or.inl (by omega)
        · rw [zPt_ne q2]
          show _ ∨ (_ ∧ (if _ = p then _ else _) < (if v = p then _ else _))
          rw [if_neg q2, if_neg q]; exact x4
    · have kv := k1 v hv
      show (1 ≤ (if v = p then j + 1 else k v) → _) ∧ (_ → (if v = p then j + 1 else k v) ≤ (if ovt A B (zPt w p m) v = p then j + 1 else k (ovt A B (zPt w p m) v)) + 1)
      by_cases q : v = p
      · subst q
        rw [ow, zPt_eq, if_pos rfl]
        refine ⟨fun _ => by omega, fun _ => ?_⟩
        split <;> omega
      · rw [zPt_ne q, ovt_pt q, if_neg q]
        refine ⟨kv.1, fun z => ?_⟩
        have z2 := kv.2 z
        have z3 := k2 v
        by_cases q2 : ovt A B w v = p
        · rw [if_pos q2]; omega
        · rw [if_neg q2]; exact z2
    · show (if v = p then j + 1 else k v) ≤ j + 1
      have := k2 v
      split <;> omega
    · unfold zEs
      dsimp only
      by_cases q : b' = p
      · rw [if_pos q]; exact Or.inl (by omega)
      · rw [if_neg q, zPt_ne q]
        have z := k3 p' b' s' i' he'
        by_cases q2 : p' = p
        · rw [q2, zPt_eq]
          rw [q2] at z
          rcases z with z | z | z
          · exact Or.inl z
          · exact Or.inr (Or.inl z)
          · exact Or.inr (Or.inr (by omega))
        · rw [zPt_ne q2]; exact z
    · unfold zEs
      dsimp only
      by_cases q : b' = p
      · rw [if_pos q]; exact Or.inl (Nat.le_refl _)
      · rw [if_neg q, zPt_ne q]
        rcases hq with hq | ⟨q1, q2, q3⟩
        · have z := k4 p' b' s' i' he' hq
          by_cases q2 : p' = p
          · rw [q2, zPt_eq]
            rw [q2] at z
            rcases z with z | z | z
            · exact Or.inl z
            · exact Or.inr (Or.inl z)
            · exact Or.inr (Or.inr (by omega))
          · rw [zPt_ne q2]; exact z
        · rw [q1, q2, q3, zPt_eq]; exact Or.inr (Or.inr (Int.le_refl _))
/-! one round over all meetings -/
def tgD (A B lo hi : Nat → Int) (x : Int) (d : Nat → Int) : Nat → Nat → Int
  | 0 => d
  | k + 1 => if zbt x k = 1 then loD (loD (tgD A B lo hi x d k) (A k).toNat (B k).toNat (hi k)) (B k).toNat (A k).toNat (-(lo k)) else tgD A B lo hi x d k
def tgW (A B lo hi : Nat → Int) (x : Int) (w d : Nat → Int) : Nat → Nat → Int
  | 0 => w
  | k + 1 => if zbt x k = 1 then loW (loW (tgW A B lo hi x w d k) (tgD A B lo hi x d k) (A k).toNat (B k).toNat (hi k) (k : Int)) (loD (tgD A B lo hi x d k) (A k).toNat (B k).toNat (hi k)) (B k).toNat (A k).toNat (-(lo k)) (k : Int) else tgW A B lo hi x w d k
def tgR (A B lo hi : Nat → Int) (x : Int) (d : Nat → Int) : Nat → Int
  | 0 => 0
  | k + 1 => if zbt x k = 1 then (if (if tgR A B lo hi x d k ≠ 0 ∨ loR (tgD A B lo hi x d k) (A k).toNat (B k).toNat (hi k) ≠ 0 then (1 : Int) else 0) ≠ 0 ∨ loR (loD (tgD A B lo hi x d k) (A k).toNat (B k).toNat (hi k)) (B k).toNat (A k).toNat (-(lo k)) ≠ 0 then 1 else 0) else tgR A B lo hi x d k
theorem tgD_1 {A B lo hi d : Nat → Int} {x : Int} {k : Nat} (h : zbt x k = 1) : tgD A B lo hi x d (k + 1) = loD (loD (tgD A B lo hi x d k) (A k).toNat (B k).toNat (hi k)) (B k).toNat (A k).toNat (-(lo k)) := if_pos h
theorem tgD_0 {A B lo hi d : Nat → Int} {x : Int} {k : Nat} (h : zbt x k ≠ 1) : tgD A B lo hi x d (k + 1) = tgD A B lo hi x d k := if_neg h
theorem tgW_1 {A B lo hi w d : Nat → Int} {x : Int} {k : Nat} (h : zbt x k = 1) : tgW A B lo hi x w d (k + 1) = loW (loW (tgW A B lo hi x w d k) (tgD A B lo hi x d k) (A k).toNat (B k).toNat (hi k) (k : Int)) (loD (tgD A B lo hi x d k) (A k).toNat (B k).toNat (hi k)) (B k).toNat (A k).toNat (-(lo k)) (k : Int) := if_pos h
theorem tgW_0 {A B lo hi w d : Nat → Int} {x : Int} {k : Nat} (h : zbt x k ≠ 1) : tgW A B lo hi x w d (k + 1) = tgW A B lo hi x w d k := if_neg h
theorem tgR_1 {A B lo hi d : Nat → Int} {x : Int} {k : Nat} (h : zbt x k = 1) : tgR A B lo hi x d (k + 1) = (if (if tgR A B lo hi x d k ≠ 0 ∨ loR (tgD A B lo hi x d k) (A k).toNat (B k).toNat (hi k) ≠ 0 then (1 : Int) else 0) ≠ 0 ∨ loR (loD (tgD A B lo hi x d k) (A k).toNat (B k).toNat (hi k)) (B k).toNat (A k).toNat (-(lo k)) ≠ 0 then 1 else 0) := if_pos h
theorem tgR_0 {A B lo hi d : Nat → Int} {x : Int} {k : Nat} (h : zbt x k ≠ 1) : tgR A B lo hi x d (k + 1) = tgR A B lo hi x d k := if_neg h
def zAB (A B : Nat → Int) : Prop := ∀ i : Nat, 0 ≤ A i ∧ A i ≤ 9 ∧ 0 ≤ B i ∧ B i ≤ 9
theorem ovt_e1 {A B w : Nat → Int} (hA : zAB A B) {k : Nat} (h : w (A k).toNat = (k : Int)) : (B k).toNat = ovt A B w (A k).toNat := by
  have := hA k
  unfold ovt
  rw [h, Int.toNat_natCast, if_pos (by omega)]
theorem ovt_e2 {A B w : Nat → Int} (hA : zAB A B) {k : Nat} (h : w (B k).toNat = (k : Int)) : (A k).toNat = ovt A B w (B k).toNat := by
  have := hA k
  unfold ovt
  rw [h, Int.toNat_natCast]
  by_cases c : A k = (((B k).toNat : Nat) : Int)
  · rw [if_pos c]; omega
  · rw [if_neg c]
theorem zPs_cg {A B : Nat → Int} {E Pr Pr2 : Nat → Nat → Int → Nat → Prop} {j : Nat} {R : Int} {d w : Nat → Int} (h : zPs A B E Pr j R d w) (e : ∀ p b s i, E p b s i → Pr2 p b s i → Pr p b s i) : zPs A B E Pr2 j R d w := by
  obtain ⟨h1, k, k1, k2, k3, k4, k5⟩ := h
  exact ⟨h1, k, k1, k2, k3, fun p b s i he hq => k4 p b s i he (e p b s i he hq), k5⟩
theorem tg_ps {A B lo hi w d : Nat → Int} {n x : Int} {j k : Nat} (hA : zAB A B) (h : zPs A B (edg A B lo hi n x) (fun _ _ _ _ => False) j 0 d w) (hk : (k : Int) ≤ n) : zPs A B (edg A B lo hi n x) (fun _ _ _ i => i < k) j (tgR A B lo hi x d k) (tgD A B lo hi x d k) (tgW A B lo hi x w d k) := by
  induction k with
  | zero => exact zPs_cg h (fun p b s i _ z => absurd z (Nat.not_lt_zero _))
  | succ k ih =>
    have ih := ih (by omega)
    have hk2 := hA k
    by_cases c : zbt x k = 1
    · rw [tgD_1 c, tgW_1 c, tgR_1 c]
      have h1 := zPs_low ih (p := (A k).toNat) (b := (B k).toNat) (s := hi k) (m := (k : Int)) ⟨by omega, c, Or.inl ⟨by rw [Int.toNat_natCast], by rw [Int.toNat_natCast], by rw [Int.toNat_natCast]⟩⟩ (by omega) (by omega) (by omega) (fun w hw => ovt_e1 hA hw)
      have h2 := zPs_low h1 (p := (B k).toNat) (b := (A k).toNat) (s := -(lo k)) (m := (k : Int)) ⟨by omega, c, Or.inr ⟨by rw [Int.toNat_natCast], by rw [Int.toNat_natCast], by rw [Int.toNat_natCast]⟩⟩ (by omega) (by omega) (by omega) (fun w hw => ovt_e2 hA hw)
      refine zPs_cg h2 (fun p b s i he hi' => ?_)
      by_cases q : i < k
      · exact Or.inl (Or.inl q)
      · have e : i = k := by omega
        subst e
        rcases he.2.2 with z | z
        · exact Or.inl (Or.inr z)
        · exact Or.inr z
    · rw [tgD_0 c, tgW_0 c, tgR_0 c]
      refine zPs_cg ih (fun p b s i he hi' => ?_)
      by_cases q : i < k
      · exact q
      · have e : i = k := by omega
        rw [e] at he
        exact absurd he.2.1 c
theorem tgD_le {A B lo hi d : Nat → Int} {x : Int} {k : Nat} (v : Nat) : tgD A B lo hi x d k v ≤ d v := by
  induction k with
  | zero => exact Int.le_refl _
  | succ k ih =>
    by_cases c : zbt x k = 1
    · rw [tgD_1 c]
      have a := loD_le (loD (tgD A B lo hi x d k) (A k).toNat (B k).toNat (hi k)) (B k).toNat (A k).toNat (-(lo k)) v
      have b := loD_le (tgD A B lo hi x d k) (A k).toNat (B k).toNat (hi k) v
      omega
    · rw [tgD_0 c]; exact ih
/-- nothing lowered: all bounds hold -/
theorem tg_0 {A B lo hi w d : Nat → Int} {n x : Int} {k : Nat} (h : tgR A B lo hi x d k = 0) : tgD A B lo hi x d k = d ∧ tgW A B lo hi x w d k = w ∧ ∀ p b s i, edg A B lo hi n x p b s i → i < k → (d b = 1000000 ∨ d p ≤ d b + s) := by
  induction k with
  | zero => exact ⟨rfl, rfl, fun p b s i _ z => absurd z (Nat.not_lt_zero _)⟩
  | succ k ih =>
    by_cases c : zbt x k = 1
    · rw [tgR_1 c] at h
      have r1 := loR_c (tgD A B lo hi x d k) (A k).toNat (B k).toNat (hi k)
      have r2 := loR_c (loD (tgD A B lo hi x d k) (A k).toNat (B k).toNat (hi k)) (B k).toNat (A k).toNat (-(lo k))
      by_cases q : (if tgR A B lo hi x d k ≠ 0 ∨ loR (tgD A B lo hi x d k) (A k).toNat (B k).toNat (hi k) ≠ 0 then (1 : Int) else 0) ≠ 0 ∨ loR (loD (tgD A B lo hi x d k) (A k).toNat (B k).toNat (hi k)) (B k).toNat (A k).toNat (-(lo k)) ≠ 0
      · rw [if_pos q] at h; exact absurd h (by decide)
      · have q2 : loR (loD (tgD A B lo hi x d k) (A k).toNat (B k).toNat (hi k)) (B k).toNat (A k).toNat (-(lo k)) = 0 := by
          by_cases z : loR (loD (tgD A B lo hi x d k) (A k).toNat (B k).toNat (hi k)) (B k).toNat (A k).toNat (-(lo k)) = 0
          · exact z
          · exact absurd (Or.inr z) q
        have q1 : ¬ (tgR A B lo hi x d k ≠ 0 ∨ loR (tgD A B lo hi x d k) (A k).toNat (B k).toNat (hi k) ≠ 0) := fun z => q (Or.inl (by rw [if_pos z]; decide))
        have q3 : tgR A B lo hi x d k = 0 := by
          by_cases z : tgR A B lo hi x d k = 0
          · exact z
          · exact absurd (Or.inl z) q1
        have q4 : loR (tgD A B lo hi x d k) (A k).toNat (B k).toNat (hi k) = 0 := by
          by_cases z : loR (tgD A B lo hi x d k) (A k).toNat (B k).toNat (hi k) = 0
          · exact z
          · exact absurd (Or.inr z) q1
        obtain ⟨e1, e2, e3⟩ := ih q3
        rw [e1] at r1 r2 q4 q2
        have k1 : d (B k).toNat = 1000000 ∨ d (A k).toNat ≤ d (B k).toNat + hi k := by
          rcases r1 with ⟨_, z⟩ | ⟨z, _⟩
          · exact z
          · omega
        have f1 : loD d (A k).toNat (B k).toNat (hi k) = d := if_pos k1
        rw [f1] at r2 q2
        have k2 : d (A k).toNat = 1000000 ∨ d (B k).toNat ≤ d (A k).toNat + -(lo k) := by
          rcases r2 with ⟨_, z⟩ | ⟨z, _⟩
          · exact z
          · omega
        have f2 : loD d (B k).toNat (A k).toNat (-(lo k)) = d := if_pos k2
        rw [tgD_1 c, tgW_1 c, e1, e2, f1, f2]
        refine ⟨rfl, ?_, fun p b s i he hi' => ?_⟩
        · have g1 : loW w d (A k).toNat (B k).toNat (hi k) (k : Int) = w := if_pos k1
          rw [g1]
          exact if_pos k2
        · by_cases z : i < k
          · exact e3 p b s i he z
          · have e : i = k := by omega
            subst e
            rcases he.2.2 with ⟨z1, z2, z3⟩ | ⟨z1, z2, z3⟩
            · rw [z1, z2, z3]; exact k1
            · rw [z1, z2, z3]; exact k2
    · rw [tgR_0 c] at h
      obtain ⟨e1, e2, e3⟩ := ih h
      rw [tgD_0 c, tgW_0 c]
      refine ⟨e1, e2, fun p b s i he hi' => ?_⟩
      by_cases z : i < k
      · exact e3 p b s i he z
      · have e : i = k := by omega
        rw [e] at he
        exact absurd he.2.1 c
/-! walks along who lowered whom -/
def wkt (A B w : Nat → Int) (v : Nat) : Nat → Nat
  | 0 => v
  | i + 1 => ovt A B w (wkt A B w v i)
theorem wkt_s (A B w : Nat → Int) (v i : Nat) : wkt A B w v (i + 1) = ovt A B w (wkt A B w v i) := rfl
theorem wkt_add (A B w : Nat → Int) (v i j : Nat) : wkt A B w v (i + j) = wkt A B w (wkt A B w v i) j := by
  induction j with
  | zero => rfl
  | succ j ih => rw [← Nat.add_assoc, wkt_s, ih]; rfl
theorem ovt_lt {A B w : Nat → Int} (hA : zAB A B) (v : Nat) : ovt A B w v < 10 := by
  have := hA (w v).toNat
  unfold ovt
  split <;> omega
theorem wkt_lt {A B w : Nat → Int} (hA : zAB A B) {v : Nat} (hv : v < 10) (i : Nat) : wkt A B w v i < 10 := by
  cases i with
  | zero => exact hv
  | succ i => exact ovt_lt hA _
/-- ten steps lead into a ring -/
theorem wkt_cyc {A B w : Nat → Int} (hA : zAB A B) {v : Nat} (hv : v < 10) : ∃ L, 1 ≤ L ∧ L ≤ 10 ∧ wkt A B w (wkt A B w v 10) L = wkt A B w v 10 ∧ ∃ c, c + L = 10 ∧ wkt A B w v c = wkt A B w v 10 := by
  obtain ⟨i, j, hij, hj, e⟩ := pig 10 (fun i => wkt A B w v i) (fun i _ => wkt_lt hA hv i)
  have e : wkt A B w v i = wkt A B w v j := e
  have key : wkt A B w v (10 - (j - i)) = wkt A B w v 10 := by
    have h1 := wkt_add A B w v i (10 - j)
    have h2 := wkt_add A B w v j (10 - j)
    rw [e] at h1
    rw [show i + (10 - j) = 10 - (j - i) by omega] at h1
    rw [show j + (10 - j) = 10 by omega] at h2
    rw [h1, h2]
  refine ⟨j - i, by omega, by omega, ?_, 10 - (j - i), by omega, key⟩
  have h3 := wkt_add A B w v (10 - (j - i)) (j - i)
  rw [show 10 - (j - i) + (j - i) = 10 by omega, key] at h3
  exact h3.symm
/-- a ring of those that lowered one another: no potential agrees -/
theorem cyc_no {A B : Nat → Int} {E F : Nat → Nat → Int → Nat → Prop} {d w X : Nat → Int} {q L : Nat} (hA : zAB A B) (h : zNi A B E d w) (hq : q < 10) (hL : 1 ≤ L) (hc : wkt A B w q L = q) (hw : ∀ i, i < L → w (wkt A B w q i) ≠ -1) (hF : ∀ i s, i < L → E (wkt A B w q i) (wkt A B w q (i + 1)) s (w (wkt A B w q i)).toNat → F (wkt A B w q i) (wkt A B w q (i + 1)) s (w (wkt A B w q i)).toNat) (hX : fea F X) : False := by
  obtain ⟨T, hT⟩ := h
  have step : ∀ i, i < L → ∃ s, X (wkt A B w q i) ≤ X (wkt A B w q (i + 1)) + s ∧ (d (wkt A B w q (i + 1)) + s < d (wkt A B w q i) ∨ (d (wkt A B w q i) = d (wkt A B w q (i + 1)) + s ∧ T (wkt A B w q (i + 1)) < T (wkt A B w q i))) := by
    intro i hi
    obtain ⟨_, s, x1, _, x3⟩ := hT (wkt A B w q i) (wkt_lt hA hq i) (hw i hi)
    exact ⟨s, hX _ _ _ _ (hF i s hi x1), x3⟩
  have mono : ∀ i, i ≤ L → d (wkt A B w q i) - X (wkt A B w q i) ≤ d q - X q ∧ (i = 0 ∨ d (wkt A B w q i) - X (wkt A B w q i) < d q - X q ∨ T (wkt A B w q i) < T q) := by
    intro i
    induction i with
    | zero => intro _; exact ⟨Int.le_refl _, Or.inl rfl⟩
    | succ i ih =>
      intro hi
      obtain ⟨a, b⟩ := ih (by omega)
      obtain ⟨s, x1, x2⟩ := step i (by omega)
      rcases x2 with x2 | ⟨x2, x3⟩
      · exact ⟨by omega, Or.inr (Or.inl (by omega))⟩
      · refine ⟨by omega, Or.inr ?_⟩
        rcases b with b | b | b
        · subst b
          have : wkt A B w q 0 = q := rfl
          rw [this] at x3
          exact Or.inr x3
        · exact Or.inl (by omega)
        · by_cases z : d (wkt A B w q (i + 1)) - X (wkt A B w q (i + 1)) < d q - X q
          · exact Or.inl z
          · exact Or.inr (by omega)
  have m := mono L (Nat.le_refl _)
  rw [hc] at m
  omega
/-! rounds -/
def zQs (A B lo hi : Nat → Int) (n x : Int) (i : Nat) (d w : Nat → Int) : Prop := zNi A B (edg A B lo hi n x) d w ∧ ∃ k : Nat → Nat, zKp A B w k ∧ (∀ v, k v ≤ i) ∧ (∀ p b s m, edg A B lo hi n x p b s m → zEs d k i p b s) ∧ (i = 0 ∨ ∃ v, v < 10 ∧ k v = i)
theorem zQs_0 {A B lo hi d w : Nat → Int} {n x : Int} (h : ∀ v, v < 10 → w v = -1) : zQs A B lo hi n x 0 d w :=
  ⟨⟨fun _ => 0, fun v hv z => absurd (h v hv) z⟩, fun _ => 0, fun v hv => ⟨fun z => absurd z (Nat.not_succ_le_zero 0), fun z => absurd (h v hv) z⟩, fun _ => Nat.le_refl _, fun _ _ _ _ _ => Or.inl (Nat.zero_le _), Or.inl rfl⟩
theorem zQs_s {A B lo hi d w : Nat → Int} {n x : Int} {i : Nat} (hA : zAB A B) (h : zQs A B lo hi n x i d w) (hn : 0 ≤ n) (hr : tgR A B lo hi x d n.toNat ≠ 0) : zQs A B lo hi n x (i + 1) (tgD A B lo hi x d n.toNat) (tgW A B lo hi x w d n.toNat) := by
  obtain ⟨h1, k, k1, k2, k3, k4⟩ := h
  obtain ⟨p1, k', p2, p3, p4, p5, p6⟩ := tg_ps (j := i) (k := n.toNat) hA ⟨h1, k, k1, fun v => by have := k2 v; omega, k3, fun _ _ _ _ _ z => absurd z id, fun z => absurd rfl z⟩ (by omega)
  exact ⟨p1, k', p2, p3, fun p b s m he => p5 p b s m he (by have := he.1; omega), Or.inr (p6 hr)⟩
theorem zQs_10 {A B lo hi d w : Nat → Int} {n x : Int} (hA : zAB A B) (h : zQs A B lo hi n x 10 d w) : ∃ v, v < 10 ∧ w v ≠ -1 ∧ ∀ i, i ≤ 10 → w (wkt A B w v i) ≠ -1 := by
  obtain ⟨h1, k, k1, k2, k3, k4⟩ := h
  rcases k4 with k4 | ⟨v, hv, kv⟩
  · exact absurd k4 (by decide)
  · have a : ∀ i, i ≤ 10 → 10 ≤ k (wkt A B w v i) + i := by
      intro i
      induction i with
      | zero => intro _; show 10 ≤ k v + 0; omega
      | succ i ih =>
        intro hi
        have b := ih (by omega)
        have c := k1 (wkt A B w v i) (wkt_lt hA hv i)
        have e := c.2 (c.1 (by omega))
        rw [wkt_s]; omega
    have b : ∀ i, i ≤ 9 → w (wkt A B w v i) ≠ -1 := fun i hi => (k1 (wkt A B w v i) (wkt_lt hA hv i)).1 (by have := a i (by omega); omega)
    refine ⟨v, hv, b 0 (by decide), fun i hi => ?_⟩
    by_cases q : i = 10
    · subst q
      obtain ⟨L, l1, l2, l3, c, l4, l5⟩ := wkt_cyc (w := w) hA hv
      rw [← l5]; exact b c (by omega)
    · exact b i (by omega)
/-- ten rounds that lower, and a potential: they can't be -/
theorem cyc_10 {A B lo hi d w X : Nat → Int} {n x : Int} {v : Nat} (hA : zAB A B) (h : zNi A B (edg A B lo hi n x) d w) (hv : v < 10) (hw : ∀ i, i ≤ 10 → w (wkt A B w v i) ≠ -1) (hX : fea (edg A B lo hi n x) X) : False := by
  obtain ⟨L, l1, l2, l3, c, l4, l5⟩ := wkt_cyc (w := w) hA hv
  refine cyc_no hA h (wkt_lt hA hv 10) l1 l3 (fun i hi => ?_) (fun i s _ z => z) hX
  have e := wkt_add A B w v c i
  rw [l5] at e
  rw [← e]
  exact hw (c + i) (by omega)
/-! rings of those that lowered one another, as bits -/
def zTb (A B w : Nat → Int) (p : Nat) (r : Int) (i : Nat) : Prop := (∀ j, j < i → w (wkt A B w p j) ≠ -1) ∧ ∀ m : Nat, zbt r m = 1 ↔ ∃ j, j < i ∧ w (wkt A B w p j) = (m : Int)
def zT1 (A B w : Nat → Int) (p r q i : Int) : Prop := q = ((wkt A B w p.toNat i.toNat : Nat) : Int) ∧ zTb A B w p.toNat r i.toNat ∧ ∀ j, 1 ≤ j → j ≤ i.toNat → wkt A B w p.toNat j ≠ p.toNat
def zTh (A B w : Nat → Int) (p : Nat) (r : Int) : Prop := ∃ i, i ≤ 10 ∧ zTb A B w p r i ∧ ((1 ≤ i ∧ wkt A B w p i = p) ∨ ((∀ j, 1 ≤ j → j ≤ i → wkt A B w p j ≠ p) ∧ (i = 10 ∨ w (wkt A B w p i) = -1)))
theorem zT1_0 {A B w : Nat → Int} {p : Int} (h : 0 ≤ p) : zT1 A B w p 0 p 0 := by
  refine ⟨?_, ⟨fun j hj => absurd hj (Nat.not_lt_zero _), fun m => ?_⟩, fun j h1 h2 => ?_⟩
  · show p = ((p.toNat : Nat) : Int); omega
  · rw [zbt_z]
    exact ⟨fun z => absurd z (by decide), fun ⟨j, hj, _⟩ => absurd hj (Nat.not_lt_zero _)⟩
  · have : (0 : Int).toNat = 0 := rfl
    omega
def zOv (A B : Nat → Int) (y q q2 : Int) : Prop := (A y.toNat = q ∧ q2 = B y.toNat) ∨ (A y.toNat ≠ q ∧ q2 = A y.toNat)
theorem zOv_t {A B w : Nat → Int} {y q q2 : Int} (hA : zAB A B) (h : zOv A B y q q2) (hy : y = w q.toNat) (hq : 0 ≤ q) : q2 = ((ovt A B w q.toNat : Nat) : Int) := by
  have a := hA y.toNat
  unfold ovt
  rw [← hy]
  rcases h with ⟨h1, h2⟩ | ⟨h1, h2⟩
  · rw [if_pos (by omega)]; omega
  · rw [if_neg (by omega)]; omega
theorem zTb_s {A B w : Nat → Int} {p i : Nat} {r r2 y : Int} (h : zTb A B w p r i) (hy : y = w (wkt A B w p i)) (h0 : 0 ≤ y) (hr : r2 = zso r y.toNat) : zTb A B w p r2 (i + 1) := by
  refine ⟨fun j hj => ?_, fun m => ?_⟩
  · by_cases c : j < i
    · exact h.1 j c
    · rw [show j = i by omega, ← hy]; omega
  · rw [hr, zbt_so]
    by_cases c : m = y.toNat
    · rw [if_pos c]
      exact ⟨fun _ => ⟨i, by omega, by rw [← hy]; omega⟩, fun _ => rfl⟩
    · rw [if_neg c, h.2 m]
      constructor
      · rintro ⟨j, hj, e⟩; exact ⟨j, by omega, e⟩
      · rintro ⟨j, hj, e⟩
        refine ⟨j, ?_, e⟩
        by_cases c2 : j < i
        · exact c2
        · rw [show j = i by omega, ← hy] at e; omega
theorem zT1_s {A B w : Nat → Int} {p r q i y r2 q2 : Int} (hA : zAB A B) (h : zT1 A B w p r q i) (hy : y = w q.toNat) (h0 : 0 ≤ y ∧ 0 ≤ i) (hr : r2 = zso r y.toNat) (ho : zOv A B y q q2) (hn : q2 ≠ p) (hp : 0 ≤ p) : zT1 A B w p r2 q2 (i + 1) := by
  obtain ⟨h1, h2, h3⟩ := h
  have e : (i + 1).toNat = i.toNat + 1 := by omega
  have eq : q.toNat = wkt A B w p.toNat i.toNat := by omega
  have e2 := zOv_t hA ho hy (by omega)
  rw [eq] at e2 hy
  have e3 : wkt A B w p.toNat (i.toNat + 1) = ovt A B w (wkt A B w p.toNat i.toNat) := rfl
  unfold zT1
  rw [e]
  refine ⟨by rw [e3]; exact e2, zTb_s h2 hy h0.1 hr, fun j j1 j2 => ?_⟩
  by_cases c : j ≤ i.toNat
  · exact h3 j j1 c
  · rw [show j = i.toNat + 1 by omega, e3]; omega
theorem zTh_c {A B w : Nat → Int} {p r q i y r2 q2 : Int} (hA : zAB A B) (h : zT1 A B w p r q i) (hy : y = w q.toNat) (h0 : 0 ≤ y ∧ 0 ≤ i ∧ i < 10) (hr : r2 = zso r y.toNat) (ho : zOv A B y q q2) (hn : q2 = p) : zTh A B w p.toNat r2 := by
  obtain ⟨h1, h2, h3⟩ := h
  have eq : q.toNat = wkt A B w p.toNat i.toNat := by omega
  have e2 := zOv_t hA ho hy (by omega)
  rw [eq] at e2 hy
  have e3 : wkt A B w p.toNat (i.toNat + 1) = ovt A B w (wkt A B w p.toNat i.toNat) := rfl
  exact ⟨i.toNat + 1, by omega, zTb_s h2 hy h0.1 hr, Or.inl ⟨by omega, by rw [e3]; omega⟩⟩
theorem zTh_e {A B w : Nat → Int} {p r q i : Int} (h : zT1 A B w p r q i) (h0 : 0 ≤ i ∧ i ≤ 10) (he : i = 10 ∨ w q.toNat = -1) : zTh A B w p.toNat r := by
  obtain ⟨h1, h2, h3⟩ := h
  refine ⟨i.toNat, by omega, h2, Or.inr ⟨h3, ?_⟩⟩
  rcases he with he | he
  · exact Or.inl (by omega)
  · rw [show q.toNat = wkt A B w p.toNat i.toNat by omega] at he
    exact Or.inr he
def zV1 (A B w : Nat → Int) (p q i : Int) : Prop := q = ((wkt A B w p.toNat i.toNat : Nat) : Int) ∧ ∀ j, j < i.toNat → w (wkt A B w p.toNat j) ≠ -1
theorem zV1_0 {A B w : Nat → Int} {p : Int} (h : 0 ≤ p) : zV1 A B w p p 0 := ⟨by show p = ((p.toNat : Nat) : Int); omega, fun j hj => absurd hj (Nat.not_lt_zero _)⟩
theorem zV1_s {A B w : Nat → Int} {p q i y q2 : Int} (hA : zAB A B) (h : zV1 A B w p q i) (hy : y = w q.toNat) (hn : y ≠ -1) (h0 : 0 ≤ i) (ho : zOv A B y q q2) : zV1 A B w p q2 (i + 1) := by
  obtain ⟨h1, h2⟩ := h
  have e : (i + 1).toNat = i.toNat + 1 := by omega
  have eq : q.toNat = wkt A B w p.toNat i.toNat := by omega
  have e2 := zOv_t hA ho hy (by omega)
  rw [eq] at e2 hy
  unfold zV1
  rw [e]
  refine ⟨by rw [wkt_s]; exact e2, fun j hj => ?_⟩
  by_cases c : j < i.toNat
  · exact h2 j c
  · rw [show j = i.toNat by omega, ← hy]; exact hn
def zV2 (A B w : Nat → Int) (l : Int) : Prop := ∀ p : Nat, (p : Int) < l → ∃ i, i ≤ 10 ∧ w (wkt A B w p i) = -1
theorem zV2_0 {A B w : Nat → Int} : zV2 A B w 0 := fun p hp => by omega
theorem zV2_s {A B w : Nat → Int} {l q i y : Int} (h : zV2 A B w l) (g : zV1 A B w l q i) (h0 : 0 ≤ l ∧ 0 ≤ i ∧ i ≤ 10) (hy : y = w q.toNat) (hn : y = -1) : zV2 A B w (l + 1) := fun p hp => by
  by_cases c : (p : Int) < l
  · exact h p c
  · refine ⟨i.toNat, by omega, ?_⟩
    rw [show p = l.toNat by omega, show wkt A B w l.toNat i.toNat = q.toNat by have := g.1; omega, ← hy, hn]
def zCy (A B w : Nat → Int) (r : Int) : Prop := ∃ q L, q < 10 ∧ 1 ≤ L ∧ wkt A B w q L = q ∧ zTb A B w q r L
def zVi (A B w : Nat → Int) (P r : Int) : Prop := (r = 0 ∧ zV2 A B w P) ∨ zCy A B w r
theorem zVi_c {A B w : Nat → Int} {p q i y r : Int} (hA : zAB A B) (g : zV1 A B w p q i) (hy : y = w q.toNat) (hn : y ≠ -1) (h0 : 0 ≤ p ∧ p ≤ 9 ∧ i = 10) (h : zTh A B w q.toNat r) : zCy A B w r := by
  obtain ⟨g1, g2⟩ := g
  rw [h0.2.2, show (10 : Int).toNat = 10 from rfl] at g1 g2
  have eq : q.toNat = wkt A B w p.toNat 10 := by omega
  rw [eq] at h hy
  obtain ⟨L, l1, l2, l3, c, l4, l5⟩ := wkt_cyc (w := w) hA (v := p.toNat) (by omega)
  have all : ∀ i, i ≤ 10 → w (wkt A B w p.toNat i) ≠ -1 := fun i hi => by
    by_cases z : i < 10
    · exact g2 i z
    · rw [show i = 10 by omega, ← hy]; exact hn
  obtain ⟨k, k1, k2, k3⟩ := h
  rcases k3 with ⟨k3, k4⟩ | ⟨k3, k4⟩
  · exact ⟨_, k, wkt_lt hA (by omega) 10, k3, k4, k2⟩
  · exfalso
    have lk : ¬ L ≤ k := fun z => k3 L l1 z l3
    rcases k4 with k4 | k4
    · omega
    · have e := wkt_add A B w p.toNat c k
      rw [l5] at e
      rw [← e] at k4
      exact all (c + k) (by omega) k4
/-! a ring that quarrels, or potentials -/
def zRq (A B lo hi : Nat → Int) (n x r : Int) : Prop := (r = 0 ∧ ∃ X, fea (edg A B lo hi n x) X) ∨ (r ≠ 0 ∧ (∀ i, zbt r i = 1 → (i : Int) < n ∧ zbt x i = 1) ∧ ¬ ∃ X, fea (edg A B lo hi n r) X)
def zD0 (d : Nat → Int) : Prop := ∀ v, v < 10 → d v ≤ 0
theorem zD0_t {A B lo hi d : Nat → Int} {x : Int} {k : Nat} (h : zD0 d) : zD0 (tgD A B lo hi x d k) := fun v hv => Int.le_trans (tgD_le v) (h v hv)
theorem zRq_f {A B lo hi d : Nat → Int} {n x : Int} (hA : zAB A B) (h : zD0 d) (hn : 0 ≤ n) (hr : tgR A B lo hi x d n.toNat = 0) : zRq A B lo hi n x 0 := by
  obtain ⟨_, _, e⟩ := tg_0 (w := d) (n := n) hr
  refine Or.inl ⟨rfl, d, fun p b s i he => ?_⟩
  have a := hA i
  have hb : b < 10 := by
    rcases he.2.2 with z | z <;> omega
  have := h b hb
  rcases e p b s i he (by have := he.1; omega) with z | z
  · omega
  · exact z
theorem zRq_c {A B lo hi d w : Nat → Int} {n x r : Int} {i : Nat} (hA : zAB A B) (h : zQs A B lo hi n x i d w) (g : zCy A B w r) : zRq A B lo hi n x r := by
  obtain ⟨q, L, hq, hL, hc, h1, h2⟩ := g
  obtain ⟨hN, _⟩ := h
  have hN' := hN
  obtain ⟨T, hT⟩ := hN'
  have bit : ∀ i, i < L → zbt r (w (wkt A B w q i)).toNat = 1 := fun i hi => by
    have z := (hT _ (wkt_lt hA hq i) (h1 i hi)).1
    exact (h2 _).mpr ⟨i, hi, by omega⟩
  refine Or.inr ⟨fun z => ?_, fun m hm => ?_, fun ⟨X, hX⟩ => ?_⟩
  · have := bit 0 (by omega)
    rw [z, zbt_z] at this
    exact absurd this (by decide)
  · obtain ⟨j, hj, e⟩ := (h2 m).mp hm
    obtain ⟨_, s, x1, _, _⟩ := hT _ (wkt_lt hA hq j) (h1 j hj)
    rw [e, Int.toNat_natCast] at x1
    exact ⟨x1.1, x1.2.1⟩
  · exact cyc_no hA hN hq hL hc h1 (fun i s hi he => ⟨he.1, bit i hi, he.2.2⟩) hX
theorem zRq_10 {A B lo hi d w : Nat → Int} {n x P : Int} {i : Nat} (hA : zAB A B) (h : zQs A B lo hi n x i d w) (h10 : i = 10) (g : zV2 A B w P) (hp : ∀ j : Nat, (j : Int) < n → A j < P ∧ B j < P) : zRq A B lo hi n x 0 := by
  subst h10
  exfalso
  obtain ⟨v, hv, hw, ha⟩ := zQs_10 hA h
  obtain ⟨⟨T, hT⟩, _⟩ := h
  obtain ⟨_, s, x1, _, _⟩ := hT v hv hw
  have hA2 := hA (w v).toNat
  have hp2 := hp (w v).toNat x1.1
  obtain ⟨i, hi, e⟩ := g v (by rcases x1.2.2 with ⟨z, _⟩ | ⟨z, _⟩ <;> omega)
  exact ha i hi e
/-! places of meetings, all of them -/
def zc6 (f : Nat → Int) (i : Nat) : Int := if i < 60 then f i else 0
theorem zc6_lt {f : Nat → Int} {i : Nat} (h : i < 60) : zc6 f i = f i := if_pos h
theorem zAB_c {f g : Nat → Int} (h : ∀ i, i < 60 → 0 ≤ f i ∧ f i ≤ 9) (k : ∀ i, i < 60 → 0 ≤ g i ∧ g i ≤ 9) : zAB (zc6 f) (zc6 g) := fun i => by
  unfold zc6
  by_cases c : i < 60
  · have a := h i c
    have b := k i c
    rw [if_pos c, if_pos c]; omega
  · rw [if_neg c, if_neg c]; decide
theorem zOv_c {f g : Nat → Int} {y q q2 a : Int} (hy : 0 ≤ y ∧ y < 60) (ha : a = f y.toNat) (h : (a = q ∧ q2 = g y.toNat) ∨ (a ≠ q ∧ q2 = a)) : zOv (zc6 f) (zc6 g) y q q2 := by
  unfold zOv
  rw [zc6_lt (by omega), zc6_lt (by omega), ← ha]
  exact h
/-! the machine's round -/
theorem tgD_y {f6 f7 lo hi d f f2 f3 : Nat → Int} {x k a b h l : Int} (e : f = tgD (zc6 f6) (zc6 f7) lo hi x d k.toNat) (h0 : 0 ≤ k ∧ k < 60) (hb : zbt x k.toNat = 1) (ea : a = f6 k.toNat) (eb : b = f7 k.toNat) (eh : h = hi k.toNat) (el : l = lo k.toNat) (e1 : f2 = loD f a.toNat b.toNat h) (e2 : f3 = loD f2 b.toNat a.toNat (-l)) : f3 = tgD (zc6 f6) (zc6 f7) lo hi x d (k + 1).toNat := by
  rw [show (k + 1).toNat = k.toNat + 1 by omega, tgD_1 hb, zc6_lt (by omega), zc6_lt (by omega), ← e, ← ea, ← eb, ← eh, ← el, e2, e1]
theorem tgD_n {f6 f7 lo hi d f : Nat → Int} {x k : Int} (e : f = tgD (zc6 f6) (zc6 f7) lo hi x d k.toNat) (h0 : 0 ≤ k) (hb : zbt x k.toNat = 0) : f = tgD (zc6 f6) (zc6 f7) lo hi x d (k + 1).toNat := by
  rw [show (k + 1).toNat = k.toNat + 1 by omega, tgD_0 (by omega), e]
theorem tgW_y {f6 f7 lo hi w d f f2 g g2 g3 : Nat → Int} {x k a b h l : Int} (eg : g = tgW (zc6 f6) (zc6 f7) lo hi x w d k.toNat) (e : f = tgD (zc6 f6) (zc6 f7) lo hi x d k.toNat) (h0 : 0 ≤ k ∧ k < 60) (hb : zbt x k.toNat = 1) (ea : a = f6 k.toNat) (eb : b = f7 k.toNat) (eh : h = hi k.toNat) (el : l = lo k.toNat) (e1 : f2 = loD f a.toNat b.toNat h) (e2 : g2 = loW g f a.toNat b.toNat h k) (e3 : g3 = loW g2 f2 b.toNat a.toNat (-l) k) : g3 = tgW (zc6 f6) (zc6 f7) lo hi x w d (k + 1).toNat := by
  rw [show (k + 1).toNat = k.toNat + 1 by omega, tgW_1 hb, zc6_lt (by omega), zc6_lt (by omega), ← e, ← eg, ← ea, ← eb, ← eh, ← el, show ((k.toNat : Nat) : Int) = k by omega, e3, e2, e1]
theorem tgW_n {f6 f7 lo hi w d g : Nat → Int} {x k : Int} (e : g = tgW (zc6 f6) (zc6 f7) lo hi x w d k.toNat) (h0 : 0 ≤ k) (hb : zbt x k.toNat = 0) : g = tgW (zc6 f6) (zc6 f7) lo hi x w d (k + 1).toNat := by
  rw [show (k + 1).toNat = k.toNat + 1 by omega, tgW_0 (by omega), e]
theorem tgR_y {f6 f7 lo hi d f f2 : Nat → Int} {x k a b h l t t2 r1 r2 : Int} (et : t = tgR (zc6 f6) (zc6 f7) lo hi x d k.toNat) (e : f = tgD (zc6 f6) (zc6 f7) lo hi x d k.toNat) (h0 : 0 ≤ k ∧ k < 60) (hb : zbt x k.toNat = 1) (ea : a = f6 k.toNat) (eb : b = f7 k.toNat) (eh : h = hi k.toNat) (el : l = lo k.toNat) (e1 : f2 = loD f a.toNat b.toNat h) (x1 : r1 = loR f a.toNat b.toNat h) (x2 : r2 = loR f2 b.toNat a.toNat (-l)) (ht : (t2 = 1 ∧ (t ≠ 0 ∨ r1 ≠ 0 ∨ r2 ≠ 0)) ∨ (t2 = 0 ∧ t = 0 ∧ r1 = 0 ∧ r2 = 0)) : t2 = tgR (zc6 f6) (zc6 f7) lo hi x d (k + 1).toNat := by
  rw [show (k + 1).toNat = k.toNat + 1 by omega, tgR_1 hb, zc6_lt (by omega), zc6_lt (by omega), ← e, ← et, ← ea, ← eb, ← eh, ← el, ← e1, ← x1, ← x2]
  by_cases c : t ≠ 0 ∨ r1 ≠ 0
  · rw [if_pos c, if_pos (Or.inl (by decide))]; omega
  · rw [if_neg c]
    by_cases c2 : r2 ≠ 0
    · rw [if_pos (Or.inr c2)]; omega
    · rw [if_neg (by omega)]; omega
theorem tgR_n {f6 f7 lo hi d : Nat → Int} {x k t : Int} (e : t = tgR (zc6 f6) (zc6 f7) lo hi x d k.toNat) (h0 : 0 ≤ k) (hb : zbt x k.toNat = 0) : t = tgR (zc6 f6) (zc6 f7) lo hi x d (k + 1).toNat := by
  rw [show (k + 1).toNat = k.toNat + 1 by omega, tgR_0 (by omega), e]
theorem zLo_d2 {d d2 d3 : Nat → Int} {c e s s2 : Int} {p b p2 b2 : Nat} (h : zLo d c) (e1 : d2 = loD d p b s) (e2 : d3 = loD d2 p2 b2 s2) (hs : -2000 ≤ s) (hb : b < 10) (hs2 : -2000 ≤ s2) (hb2 : b2 < 10) (he : c + 4000 ≤ e) : zLo d3 e := zLo_d (zLo_d (e := c + 2000) h e1 hs hb (by omega)) e2 hs2 hb2 (by omega)
theorem zLo_z {d : Nat → Int} {k : Nat} (h : zFil d 10 1000000) : zLo (zPt d k 0) 0 := fun v hv => by
  by_cases q : v = k
  · rw [q, zPt_eq]; decide
  · rw [zPt_ne q, h v (by omega)]; decide
theorem zQs_t {A B lo hi d w d2 w2 : Nat → Int} {n x i r : Int} (hA : zAB A B) (h : zQs A B lo hi n x i.toNat d w) (e1 : d2 = tgD A B lo hi x d n.toNat) (e2 : w2 = tgW A B lo hi x w d n.toNat) (e3 : r = tgR A B lo hi x d n.toNat) (hr : r ≠ 0) (h0 : 0 ≤ n ∧ 0 ≤ i) : zQs A B lo hi n x (i + 1).toNat d2 w2 := by
  rw [e1, e2, show (i + 1).toNat = i.toNat + 1 by omega]
  exact zQs_s hA h h0.1 (by rw [← e3]; exact hr)
theorem zCy_n {A B lo hi d w : Nat → Int} {n x r : Int} {i : Nat} (hA : zAB A B) (h : zQs A B lo hi n x i d w) (g : zCy A B w r) : r ≠ 0 := by
  obtain ⟨q, L, hq, hL, hc, h1, h2⟩ := g
  obtain ⟨⟨T, hT⟩, _⟩ := h
  intro z
  have a := (hT _ (wkt_lt hA hq 0) (h1 0 (by omega))).1
  have b := (h2 (w (wkt A B w q 0)).toNat).mpr ⟨0, by omega, by omega⟩
  rw [z, zbt_z] at b
  exact absurd b (by decide)
theorem zVi_z {A B lo hi d w : Nat → Int} {n x r P : Int} {i : Nat} (hA : zAB A B) (h : zQs A B lo hi n x i d w) (g : zVi A B w P r) (hr : r = 0) : zV2 A B w P := by
  rcases g with ⟨_, g⟩ | g
  · exact g
  · exact absurd hr (zCy_n hA h g)
theorem zRq_v {A B lo hi d w : Nat → Int} {n x r P : Int} {i : Nat} (hA : zAB A B) (h : zQs A B lo hi n x i d w) (g : zVi A B w P r) (hr : r ≠ 0) : zRq A B lo hi n x r := by
  rcases g with ⟨g, _⟩ | g
  · exact absurd g hr
  · exact zRq_c hA h g
/-! the greatest difference of one less another, by lowering from one place -/
def cnv (d : Nat → Int) (n : Nat) : Int := sm (fun v => if d v = 1000000 then 0 else 1) n
theorem sm_pt {h : Int → Int} {d : Nat → Int} {p : Nat} {y : Int} (n : Nat) : sm (fun v => h (zPt d p y v)) n = sm (fun v => h (d v)) n + (if p < n then h y - h (d p) else 0) := by
  induction n with
  | zero => rfl
  | succ n ih =>
    rw [sm_s, sm_s, ih]
    by_cases c : n = p
    · subst c
      rw [zPt_eq, if_neg (Nat.lt_irrefl _), if_pos (Nat.lt_succ_self _)]; omega
    · rw [zPt_ne c]
      by_cases q : p < n
      · rw [if_pos q, if_pos (by omega)]; omega
      · rw [if_neg q, if_neg (by omega)]; omega
theorem cnv_b (d : Nat → Int) : 0 ≤ cnv d 10 ∧ cnv d 10 ≤ 10 := by
  have := sm_b (f := fun v => if d v = 1000000 then 0 else 1) (c := 1) (n := 10) (fun i _ => by
    show 0 ≤ (if d i = 1000000 then (0 : Int) else 1) ∧ (if d i = 1000000 then (0 : Int) else 1) ≤ 1
    split <;> omega)
  unfold cnv; omega
def zUb (d : Nat → Int) : Prop := ∀ v, v < 10 → d v = 1000000 ∨ d v ≤ 2000 * cnv d 10
theorem zUb_low {d : Nat → Int} {p b : Nat} {s : Int} (h : zUb d) (hs : s ≤ 2000) (hp : p < 10) (hb : b < 10) : zUb (loD d p b s) := by
  unfold loD
  by_cases c : d b = 1000000 ∨ d p ≤ d b + s
  · rw [if_pos c]; exact h
  · rw [if_neg c]
    have hb2 := h b hb
    have cb := cnv_b d
    have e : cnv (zPt d p (d b + s)) 10 = cnv d 10 + ((if d b + s = 1000000 then 0 else 1) - (if d p = 1000000 then 0 else 1)) := by
      have := sm_pt (h := fun z => if z = 1000000 then 0 else 1) (d := d) (p := p) (y := d b + s) 10
      rw [if_pos hp] at this
      exact this
    rw [if_neg (show ¬ d b + s = 1000000 by omega)] at e
    intro v hv
    by_cases q : v = p
    · rw [q, zPt_eq, e]
      by_cases z : d p = 1000000
      · rw [if_pos z]; exact Or.inr (by omega)
      · rw [if_neg z]
        have := h p hp
        exact Or.inr (by omega)
    · rw [zPt_ne q, e]
      have := h v hv
      split <;> omega
def zGx2 (E : Nat → Nat → Int → Nat → Prop) (o : Nat) (d : Nat → Int) : Prop := zUb d ∧ d o ≤ 0 ∧ ∀ X, fea E X → ∀ v, v < 10 → d v ≠ 1000000 → X v ≤ X o + d v
theorem zGx2_low {E : Nat → Nat → Int → Nat → Prop} {o p b i : Nat} {s : Int} {d : Nat → Int} (h : zGx2 E o d) (he : E p b s i) (hs : s ≤ 2000) (hp : p < 10) (hb : b < 10) : zGx2 E o (loD d p b s) := by
  obtain ⟨h1, h2, h3⟩ := h
  refine ⟨zUb_low h1 hs hp hb, Int.le_trans (loD_le d p b s o) h2, fun X hX v hv => ?_⟩
  unfold loD
  by_cases c : d b = 1000000 ∨ d p ≤ d b + s
  · rw [if_pos c]; exact h3 X hX v hv
  · rw [if_neg c]
    intro z
    by_cases q : v = p
    · rw [q, zPt_eq]
      have a := hX p b s i he
      have b2 := h3 X hX b hb (fun z => c (Or.inl z))
      omega
    · rw [zPt_ne q] at z ⊢
      exact h3 X hX v hv z
theorem zGx2_t {A B lo hi d : Nat → Int} {n x : Int} {o k : Nat} (hA : zAB A B) (hs : ∀ i : Nat, (i : Int) < n → hi i ≤ 2000 ∧ -(lo i) ≤ 2000) (h : zGx2 (edg A B lo hi n x) o d) (hk : (k : Int) ≤ n) : zGx2 (edg A B lo hi n x) o (tgD A B lo hi x d k) := by
  induction k with
  | zero => exact h
  | succ k ih =>
    have ih := ih (by omega)
    have a := hA k
    have b := hs k (by omega)
    by_cases c : zbt x k = 1
    · rw [tgD_1 c]
      have h1 := zGx2_low ih (p := (A k).toNat) (b := (B k).toNat) (s := hi k) (i := k) ⟨by omega, c, Or.inl ⟨rfl, rfl, rfl⟩⟩ b.1 (by omega) (by omega)
      exact zGx2_low h1 (p := (B k).toNat) (b := (A k).toNat) (s := -(lo k)) (i := k) ⟨by omega, c, Or.inr ⟨rfl, rfl, rfl⟩⟩ b.2 (by omega) (by omega)
    · rw [tgD_0 c]; exact ih
def zCl (E : Nat → Nat → Int → Nat → Prop) (d : Nat → Int) : Prop := ∀ p b s i, E p b s i → (d b = 1000000 ∨ d p ≤ d b + s)
def zGr (A B lo hi : Nat → Int) (n x : Int) (o : Nat) (i fl : Int) (d : Nat → Int) : Prop := zGx2 (edg A B lo hi n x) o d ∧ ((fl = 1 ∧ ∃ w, zQs A B lo hi n x i.toNat d w) ∨ (fl = 0 ∧ zCl (edg A B lo hi n x) d))
theorem zGr_0 {A B lo hi d : Nat → Int} {n x o : Int} (h : zFil d 10 1000000) (ho : 0 ≤ o ∧ o ≤ 9) : zGr A B lo hi n x o.toNat 0 1 (zPt d o.toNat 0) := by
  refine ⟨⟨fun v hv => ?_, by rw [zPt_eq]; exact Int.le_refl _, fun X hX v hv => ?_⟩, Or.inl ⟨rfl, fun _ => -1, zQs_0 (fun _ _ => rfl)⟩⟩
  · by_cases q : v = o.toNat
    · rw [q, zPt_eq]
      have := cnv_b (zPt d o.toNat 0)
      exact Or.inr (by omega)
    · rw [zPt_ne q]; exact Or.inl (h v (by omega))
  · by_cases q : v = o.toNat
    · rw [q, zPt_eq]; intro _; omega
    · rw [zPt_ne q, h v (by omega)]; intro z; exact absurd rfl z
theorem zGr_s {A B lo hi d d2 : Nat → Int} {n x i r : Int} {o : Nat} (hA : zAB A B) (hs : ∀ i : Nat, (i : Int) < n → hi i ≤ 2000 ∧ -(lo i) ≤ 2000) (h : zGr A B lo hi n x o i 1 d) (hn : 0 ≤ n ∧ 0 ≤ i) (e : d2 = tgD A B lo hi x d n.toNat) (er : r = tgR A B lo hi x d n.toNat) (hr : 0 ≤ r ∧ r ≤ 1) : zGr A B lo hi n x o (i + 1) r d2 := by
  obtain ⟨h1, h2⟩ := h
  rw [e]
  refine ⟨zGx2_t hA hs h1 (by omega), ?_⟩
  rcases h2 with ⟨_, w, h2⟩ | ⟨h2, _⟩
  · by_cases c : r = 0
    · rw [c] at er ⊢
      obtain ⟨e1, _, e3⟩ := tg_0 (w := w) (n := n) er.symm
      refine Or.inr ⟨rfl, ?_⟩
      rw [e1]
      exact fun p b s i he => e3 p b s i he (by have := he.1; omega)
    · refine Or.inl ⟨by omega, tgW A B lo hi x w d n.toNat, ?_⟩
      rw [show (i + 1).toNat = i.toNat + 1 by omega]
      exact zQs_s hA h2 hn.1 (by rw [← er]; exact c)
  · exact absurd h2 (by decide)
def zGd2 (E : Nat → Nat → Int → Nat → Prop) (o j : Nat) (v : Int) : Prop := (∀ X, fea E X → X j ≤ X o + v) ∧ ∃ X, fea E X ∧ X j = X o + v
theorem zGd2_un {E : Nat → Nat → Int → Nat → Prop} {o j : Nat} {u v : Int} (h : zGd2 E o j u) (g : zGd2 E o j v) : u = v := by
  obtain ⟨h1, X, h2, h3⟩ := h
  obtain ⟨g1, Y, g2, g3⟩ := g
  have a := g1 X h2
  have b := h1 Y g2
  omega
/-- potentials of two kinds joined: those reached, and the rest -/
theorem fea_mix {E : Nat → Nat → Int → Nat → Prop} {d X : Nat → Int} {U : Int} (sy : ∀ p b s i, E p b s i → ∃ s2, E b p s2 i) (hc : ∀ p b s i, E p b s i → (d b < U → d p < U ∧ d p ≤ d b + s)) (hX : fea E X) : fea E (fun v => if d v < U then d v else X v) := fun p b s i he => by
  show (if d p < U then d p else X p) ≤ (if d b < U then d b else X b) + s
  by_cases c : d b < U
  · have := hc p b s i he c
    rw [if_pos c, if_pos this.1]; exact this.2
  · rw [if_neg c]
    by_cases q : d p < U
    · obtain ⟨s2, he2⟩ := sy p b s i he
      exact absurd (hc b p s2 i he2 q).1 c
    · rw [if_neg q]; exact hX p b s i he
theorem zGr_e {A B lo hi d X : Nat → Int} {n x i fl : Int} {o j : Nat} (hA : zAB A B) (hs : ∀ i : Nat, (i : Int) < n → hi i ≤ 2000 ∧ -(lo i) ≤ 2000) (h : zGr A B lo hi n x o i fl d) (hi10 : fl = 0 ∨ i = 10) (hX : fea (edg A B lo hi n x) X) (ho : o < 10) (hj : j < 10) (hr : ∀ R : Nat → Prop, R o → (∀ p b s i, edg A B lo hi n x p b s i → R b → R p) → R j) : zGd2 (edg A B lo hi n x) o j (d j) := by
  obtain ⟨⟨h1, h2, h3⟩, h4⟩ := h
  have cl : zCl (edg A B lo hi n x) d := by
    rcases h4 with ⟨h4, w, h5⟩ | ⟨_, h4⟩
    · exfalso
      have e : i.toNat = 10 := by omega
      rw [e] at h5
      obtain ⟨v, hv, _, ha⟩ := zQs_10 hA h5
      exact cyc_10 hA h5.1 hv ha hX
    · exact h4
  have cb := cnv_b d
  have vb : ∀ p b s i, edg A B lo hi n x p b s i → p < 10 ∧ b < 10 ∧ s ≤ 2000 := by
    intro p b s i he
    have a := hA i
    have c := hs i he.1
    rcases he.2.2 with ⟨z1, z2, z3⟩ | ⟨z1, z2, z3⟩ <;> omega
  have hc : ∀ p b s i, edg A B lo hi n x p b s i → (d b < 1000000 → d p < 1000000 ∧ d p ≤ d b + s) := by
    intro p b s i he z
    have v := vb p b s i he
    have u := h1 b v.2.1
    rcases cl p b s i he with q | q
    · omega
    · exact ⟨by omega, q⟩
  have dj : d j < 1000000 := hr (fun v => d v < 1000000) (by show d o < 1000000; omega) (fun p b s i he z => (hc p b s i he z).1)
  refine ⟨fun Y hY => h3 Y hY j hj (by omega), fun v => if d v < 1000000 then d v else X v, fea_mix (fun p b s i he => ?_) hc hX, ?_⟩
  · rcases he.2.2 with ⟨z1, z2, z3⟩ | ⟨z1, z2, z3⟩
    · exact ⟨_, he.1, he.2.1, Or.inr ⟨z2, z1, rfl⟩⟩
    · exact ⟨_, he.1, he.2.1, Or.inl ⟨z2, z1, rfl⟩⟩
  · have a := h3 X hX o ho (by omega)
    show (if d j < 1000000 then d j else X j) = (if d o < 1000000 then d o else X o) + d j
    rw [if_pos dj, if_pos (show d o < 1000000 by omega)]; omega
/-! the reference: all pairs at once -/
def p2 (n : Nat) : Int := 2 ^ n
theorem p2_b : ∀ n : Fin 11, 1 ≤ p2 n.val ∧ p2 n.val ≤ 1024 := by decide
theorem p2_s (n : Nat) : p2 (n + 1) = 2 * p2 n := by unfold p2; rw [Int.pow_succ]; omega
def edS (A B lo hi : Nat → Int) (S : Nat → Prop) (p b : Nat) (s : Int) (i : Nat) : Prop := S i ∧ ((p = (A i).toNat ∧ b = (B i).toNat ∧ s = hi i) ∨ (p = (B i).toNat ∧ b = (A i).toNat ∧ s = -(lo i)))
def rcl (E : Nat → Nat → Int → Nat → Prop) (i j : Nat) : Prop := ∀ R : Nat → Nat → Prop, (∀ a, R a a) → (∀ a b c, R a b → R b c → R a c) → (∀ p b s m, E p b s m → R b p) → R i j
theorem rcl_t {E : Nat → Nat → Int → Nat → Prop} {i j k : Nat} (h : rcl E i j) (g : rcl E j k) : rcl E i k := fun R r t e => t _ _ _ (h R r t e) (g R r t e)
theorem rcl_r {E : Nat → Nat → Int → Nat → Prop} {i : Nat} : rcl E i i := fun R r _ _ => r i
theorem rcl_e {E : Nat → Nat → Int → Nat → Prop} {p b m : Nat} {s : Int} (h : E p b s m) : rcl E b p := fun R _ _ e => e p b s m h
def zF0 (E Pr : Nat → Nat → Int → Nat → Prop) (D : Nat → Int) (c : Int) : Prop := (∀ e, e < 100 → -c ≤ D e ∧ D e ≤ 100000000 ∧ (D e < 100000000 → D e ≤ c)) ∧ (∀ i, i < 10 → D (11 * i) = 0) ∧ (∀ p b s i, E p b s i → Pr p b s i → D (10 * b + p) ≤ s) ∧ (∀ X, fea E X → ∀ i j, i < 10 → j < 10 → D (10 * i + j) < 100000000 → X j ≤ X i + D (10 * i + j)) ∧ ∀ i j, i < 10 → j < 10 → D (10 * i + j) < 100000000 → rcl E i j
def zFz (D : Nat → Int) (l : Int) : Prop := ∀ k : Nat, (k : Int) < l → D k = if k / 10 = k % 10 then 0 else 100000000
theorem zFz_0 {D : Nat → Int} : zFz D 0 := fun k hk => by omega
theorem zFz_s {D : Nat → Int} {l v : Int} (h : zFz D l) (h0 : 0 ≤ l) (hv : (l / 10 = l % 10 ∧ v = 0) ∨ (l / 10 ≠ l % 10 ∧ v = 100000000)) : zFz (zPt D l.toNat v) (l + 1) := fun k hk => by
  by_cases c : (k : Int) < l
  · rw [zPt_ne (by omega)]; exact h k c
  · rw [show k = l.toNat by omega, zPt_eq]
    by_cases q : l.toNat / 10 = l.toNat % 10
    · rw [if_pos q]; omega
    · rw [if_neg q]; omega
theorem zF0_z {E : Nat → Nat → Int → Nat → Prop} {D : Nat → Int} {l : Int} (h : zFz D l) (hl : 100 ≤ l) : zF0 E (fun _ _ _ _ => False) D 2000 := by
  refine ⟨fun e he => ?_, fun i hi => ?_, fun _ _ _ _ _ z => absurd z id, fun X hX i j hi hj hd => ?_, fun i j hi hj hd => ?_⟩
  · rw [h e (by omega)]
    split <;> omega
  · rw [h (11 * i) (by omega), if_pos (by omega)]
  · rw [h (10 * i + j) (by omega)] at hd ⊢
    by_cases c : (10 * i + j) / 10 = (10 * i + j) % 10
    · rw [if_pos c, show j = i by omega]; omega
    · rw [if_neg c] at hd; omega
  · rw [h (10 * i + j) (by omega)] at hd
    by_cases c : (10 * i + j) / 10 = (10 * i + j) % 10
    · rw [show j = i by omega]; exact rcl_r
    · rw [if_neg c] at hd; omega
def bnD (D : Nat → Int) (k : Nat) (v : Int) : Nat → Int := zPt D k (if v < D k then v else D k)
theorem zF0_low {E Pr : Nat → Nat → Int → Nat → Prop} {D : Nat → Int} {p b i : Nat} {s : Int} (h : zF0 E Pr D 2000) (he : E p b s i) (hs : -2000 ≤ s ∧ s ≤ 2000) (hp : p < 10) (hb : b < 10) (hn : p ≠ b) : zF0 E (fun p' b' s' i' => Pr p' b' s' i' ∨ (p' = p ∧ b' = b ∧ s' = s)) (bnD D (10 * b + p) s) 2000 := by
  obtain ⟨h1, h2, h3, h4, h5⟩ := h
  have le : ∀ e, bnD D (10 * b + p) s e ≤ D e := fun e => by
    unfold bnD
    by_cases q : e = 10 * b + p
    · rw [q, zPt_eq]; split <;> omega
    · rw [zPt_ne q]; exact Int.le_refl _
  have at' : bnD D (10 * b + p) s (10 * b + p) ≤ s ∧ (bnD D (10 * b + p) s (10 * b + p) = s ∨ bnD D (10 * b + p) s (10 * b + p) = D (10 * b + p)) := by
    unfold bnD
    rw [zPt_eq]
    split <;> omega
  have ne : ∀ e, e ≠ 10 * b + p → bnD D (10 * b + p) s e = D e := fun e q => zPt_ne q
  refine ⟨fun e hee => ?_, fun i hi => ?_, fun p' b' s' i' he' hq => ?_, fun X hX i' j hi hj hd => ?_, fun i' j hi hj hd => ?_⟩
  · have a := h1 e hee
    by_cases q : e = 10 * b + p
    · rw [q] at a ⊢; omega
    · rw [ne e q]; exact a
  · rw [ne _ (by omega)]; exact h2 i hi
  · rcases hq with hq | ⟨q1, q2, q3⟩
    · exact Int.le_trans (le _) (h3 p' b' s' i' he' hq)
    · rw [q1, q2, q3]; exact at'.1
  · by_cases q : 10 * i' + j = 10 * b + p
    · have e1 : i' = b := by omega
      have e2 : j = p := by omega
      subst e1 e2
      have a := hX j i' s i he
      rcases at'.2 with z | z
      · rw [z]; exact a
      · rw [z] at hd ⊢; exact h4 X hX i' j hi hj hd
    · rw [ne _ q] at hd ⊢; exact h4 X hX i' j hi hj hd
  · by_cases q : 10 * i' + j = 10 * b + p
    · have e1 : i' = b := by omega
      have e2 : j = p := by omega
      subst e1 e2
      exact rcl_e he
    · rw [ne _ q] at hd; exact h5 i' j hi hj hd
theorem zF0_cg {E Pr Pr2 : Nat → Nat → Int → Nat → Prop} {D : Nat → Int} {c : Int} (h : zF0 E Pr D c) (e : ∀ p b s i, E p b s i → Pr2 p b s i → Pr p b s i) : zF0 E Pr2 D c := ⟨h.1, h.2.1, fun p b s i he hq => h.2.2.1 p b s i he (e p b s i he hq), h.2.2.2⟩
def zFo (E : Nat → Nat → Int → Nat → Prop) (D : Nat → Int) (k : Nat) : Prop := zF0 E (fun _ _ _ _ => True) D (2000 * p2 k) ∧ ∀ m i j, m < k → i < 10 → j < 10 → D (10 * i + m) < 100000000 → D (10 * m + j) < 100000000 → D (10 * i + j) ≤ D (10 * i + m) + D (10 * m + j)
def fwv (D : Nat → Int) (k i j : Nat) : Int := if D (10 * i + k) < 100000000 ∧ D (10 * k + j) < 100000000 ∧ D (10 * i + k) + D (10 * k + j) < D (10 * i + j) then D (10 * i + k) + D (10 * k + j) else D (10 * i + j)
theorem fwv_c (D : Nat → Int) (k i j : Nat) : fwv D k i j ≤ D (10 * i + j) ∧ (D (10 * i + k) < 100000000 → D (10 * k + j) < 100000000 → fwv D k i j ≤ D (10 * i + k) + D (10 * k + j)) ∧ (fwv D k i j = D (10 * i + j) ∨ (D (10 * i + k) < 100000000 ∧ D (10 * k + j) < 100000000 ∧ fwv D k i j = D (10 * i + k) + D (10 * k + j))) := by
  unfold fwv
  by_cases c : D (10 * i + k) < 100000000 ∧ D (10 * k + j) < 100000000 ∧ D (10 * i + k) + D (10 * k + j) < D (10 * i + j)
  · rw [if_pos c]; exact ⟨by omega, fun _ _ => Int.le_refl _, Or.inr ⟨c.1, c.2.1, rfl⟩⟩
  · rw [if_neg c]; exact ⟨Int.le_refl _, fun _ _ => by omega, Or.inl rfl⟩
def zFk (D0 D : Nat → Int) (k i j : Nat) : Prop := ∀ a b, a < 10 → b < 10 → D (10 * a + b) = if a < i ∨ (a = i ∧ b < j) then fwv D0 k a b else D0 (10 * a + b)
theorem zFk_0 {D : Nat → Int} {k : Nat} : zFk D D k 0 0 := fun a b _ _ => (if_neg (by omega)).symm
theorem zFk_n {D0 D : Nat → Int} {k i : Nat} (h : zFk D0 D k i 10) : zFk D0 D k (i + 1) 0 := fun a b ha hb => by
  rw [h a b ha hb]
  by_cases c : a < i ∨ (a = i ∧ b < 10)
  · rw [if_pos c, if_pos (by omega)]
  · rw [if_neg c, if_neg (by omega)]
theorem fwv_k {D : Nat → Int} {k a : Nat} (h : D (11 * k) = 0) : fwv D k a k = D (10 * a + k) ∧ fwv D k k a = D (10 * k + a) := by
  have a1 := fwv_c D k a k
  have a2 := fwv_c D k k a
  rw [show 10 * k + k = 11 * k by omega] at a1 a2
  omega
theorem zFk_at {D0 D : Nat → Int} {k i j : Nat} (h : zFk D0 D k i j) (hd : D0 (11 * k) = 0) (hk : k < 10) : (∀ a, a < 10 → D (10 * a + k) = D0 (10 * a + k)) ∧ ∀ b, b < 10 → D (10 * k + b) = D0 (10 * k + b) := by
  refine ⟨fun a ha => ?_, fun b hb => ?_⟩
  · rw [h a k ha hk]
    split
    · exact (fwv_k hd).1
    · rfl
  · rw [h k b hk hb]
    split
    · exact (fwv_k hd).2
    · rfl
theorem zFk_s {D0 D : Nat → Int} {k i j : Nat} {v : Int} (h : zFk D0 D k i j) (hd : D0 (11 * k) = 0) (hk : k < 10) (hi : i < 10) (hj : j < 10) (hv : ((D (10 * i + k) < 100000000 ∧ D (10 * k + j) < 100000000 ∧ D (10 * i + k) + D (10 * k + j) < D (10 * i + j)) ∧ v = D (10 * i + k) + D (10 * k + j)) ∨ (¬ (D (10 * i + k) < 100000000 ∧ D (10 * k + j) < 100000000 ∧ D (10 * i + k) + D (10 * k + j) < D (10 * i + j)) ∧ v = D (10 * i + j))) : zFk D0 (zPt D (10 * i + j) v) k i (j + 1) := fun a b ha hb => by
  obtain ⟨g1, g2⟩ := zFk_at h hd hk
  have g3 := h i j hi hj
  rw [if_neg (by omega)] at g3
  rw [g1 i hi, g2 j hj, g3] at hv
  by_cases q : 10 * a + b = 10 * i + j
  · have e1 : a = i := by omega
    have e2 : b = j := by omega
    subst e1 e2
    rw [zPt_eq, if_pos (by omega)]
    unfold fwv
    rcases hv with ⟨x, y⟩ | ⟨x, y⟩
    · rw [if_pos x, y]
    · rw [if_neg x, y]
  · rw [zPt_ne q, h a b ha hb]
    by_cases c : a < i ∨ (a = i ∧ b < j)
    · rw [if_pos c, if_pos (by omega)]
    · rw [if_neg c, if_neg (by omega)]
/-- a stage is over: all but the diagonal -/
def zFe (E : Nat → Nat → Int → Nat → Prop) (D : Nat → Int) (k : Nat) (l : Int) : Prop := (∀ i : Nat, i < 10 → D (11 * i) ≤ 0) ∧ (∀ i : Nat, (i : Int) < l → D (11 * i) = 0) ∧ (∀ X, fea E X → ∀ i, i < 10 → 0 ≤ D (11 * i)) ∧ ((∀ i, i < 10 → D (11 * i) = 0) → zFo E D k)
theorem zFe_mk {E : Nat → Nat → Int → Nat → Prop} {D0 D : Nat → Int} {k : Nat} (hk : k < 10) (hE : ∀ p b s i, E p b s i → p < 10 ∧ b < 10) (h : zFo E D0 k) (g : zFk D0 D k 10 0) : zFe E D (k + 1) 0 := by
  obtain ⟨⟨h1, h2, h3, h4, h5⟩, h6⟩ := h
  have pb := p2_b ⟨k, by omega⟩
  have pb : 1 ≤ p2 k ∧ p2 k ≤ 1024 := pb
  have ps := p2_s k
  have V : ∀ a b, a < 10 → b < 10 → D (10 * a + b) = fwv D0 k a b := fun a b ha hb => by rw [g a b ha hb, if_pos (Or.inl ha)]
  have C : ∀ a b, a < 10 → b < 10 → D (10 * a + b) ≤ D0 (10 * a + b) ∧ (D0 (10 * a + k) < 100000000 → D0 (10 * k + b) < 100000000 → D (10 * a + b) ≤ D0 (10 * a + k) + D0 (10 * k + b)) ∧ (D (10 * a + b) = D0 (10 * a + b) ∨ (D0 (10 * a + k) < 100000000 ∧ D0 (10 * k + b) < 100000000 ∧ D (10 * a + b) = D0 (10 * a + k) + D0 (10 * k + b))) := fun a b ha hb => by
    rw [V a b ha hb]; exact fwv_c D0 k a b
  have F : ∀ X, fea E X → ∀ i j, i < 10 → j < 10 → D (10 * i + j) < 100000000 → X j ≤ X i + D (10 * i + j) := fun X hX i j hi hj hd => by
    rcases (C i j hi hj).2.2 with z | ⟨z1, z2, z3⟩
    · rw [z] at hd ⊢; exact h4 X hX i j hi hj hd
    · have a := h4 X hX i k hi hk z1
      have b := h4 X hX k j hk hj z2
      omega
  refine ⟨fun i hi => ?_, fun i hi => by omega, fun X hX i hi => ?_, fun hd => ⟨⟨fun e he => ?_, hd, fun p b s i he _ => ?_, F, fun i j hi hj hf => ?_⟩, fun m i j hm hi hj f1 f2 => ?_⟩⟩
  · have := (C i i hi hi).1
    rw [show 10 * i + i = 11 * i by omega, h2 i hi] at this
    exact this
  · have a := (C i i hi hi).1
    rw [show 10 * i + i = 11 * i by omega, h2 i hi] at a
    have := F X hX i i hi hi (by rw [show 10 * i + i = 11 * i by omega]; omega)
    rw [show 10 * i + i = 11 * i by omega] at this
    omega
  · have c := C (e / 10) (e % 10) (by omega) (by omega)
    rw [show 10 * (e / 10) + e % 10 = e by omega] at c
    have r0 := h1 e he
    have r1 := h1 (10 * (e / 10) + k) (by omega)
    have r2 := h1 (10 * k + e % 10) (by omega)
    rw [ps]
    omega
  · have v := hE p b s i he
    exact Int.le_trans (C b p v.2 v.1).1 (h3 p b s i he trivial)
  · rcases (C i j hi hj).2.2 with z | ⟨z1, z2, z3⟩
    · rw [z] at hf; exact h5 i j hi hj hf
    · exact rcl_t (h5 i k hi hk z1) (h5 k j hk hj z2)
  · have dk := fwv_k (D := D0) (k := k) (a := i) (h2 k hk)
    have dk2 := fwv_k (D := D0) (k := k) (a := j) (h2 k hk)
    have cij := C i j hi hj
    have cik := h1 (10 * i + k) (by omega)
    have ckj := h1 (10 * k + j) (by omega)
    by_cases q : m = k
    · subst q
      rw [V i m hi (by omega), dk.1] at f1 ⊢
      rw [V m j (by omega) hj, dk2.2] at f2 ⊢
      exact cij.2.1 f1 f2
    · have hm2 : m < k := by omega
      have cim := C i m hi (by omega)
      have cmj := C m j (by omega) hj
      have rkm := h1 (10 * k + m) (by omega)
      have rmk := h1 (10 * m + k) (by omega)
      have rim := h1 (10 * i + m) (by omega)
      have rmj := h1 (10 * m + j) (by omega)
      rcases cim.2.2 with z | ⟨z1, z2, z3⟩
      · rw [z] at f1
        rcases cmj.2.2 with y | ⟨y1, y2, y3⟩
        · rw [y] at f2
          have t := h6 m i j hm2 hi hj f1 f2
          omega
        · have t := h6 m i k hm2 hi hk f1 y1
          have := cij.2.1 (by omega) y2
          omega
      · rcases cmj.2.2 with y | ⟨y1, y2, y3⟩
        · rw [y] at f2
          have t := h6 m k j hm2 hk hj z2 f2
          have := cij.2.1 z1 (by omega)
          omega
        · have t := h6 m k k hm2 hk hk z2 y1
          rw [show 10 * k + k = 11 * k by omega, h2 k hk] at t
          have := cij.2.1 z1 y2
          omega
theorem zFe_s {E : Nat → Nat → Int → Nat → Prop} {D : Nat → Int} {k : Nat} {l y : Int} (h : zFe E D k l) (h0 : 0 ≤ l ∧ l < 10) (hy : y = D (11 * l).toNat) (hv : 0 ≤ y) : zFe E D k (l + 1) := by
  refine ⟨h.1, fun i hi => ?_, h.2.2⟩
  by_cases c : (i : Int) < l
  · exact h.2.1 i c
  · rw [show (11 * l).toNat = 11 * i by omega] at hy
    have := h.1 i (by omega)
    omega
theorem zFe_n {E : Nat → Nat → Int → Nat → Prop} {D : Nat → Int} {k : Nat} {l y : Int} (h : zFe E D k l) (h0 : 0 ≤ l ∧ l < 10) (hy : y = D (11 * l).toNat) (hv : y < 0) : ¬ ∃ X, fea E X := fun ⟨X, hX⟩ => by
  have := h.2.2.1 X hX l.toNat (by omega)
  rw [show 11 * l.toNat = (11 * l).toNat by omega, ← hy] at this
  omega
theorem zFe_o {E : Nat → Nat → Int → Nat → Prop} {D : Nat → Int} {k : Nat} {l : Int} (h : zFe E D k l) (hl : 10 ≤ l) : zFo E D k := h.2.2.2 (fun i hi => h.2.1 i (by omega))
/-- potentials out of the columns -/
def cmn (D : Nat → Int) (v : Nat) : Nat → Int
  | 0 => 100000000
  | n + 1 => if D (10 * n + v) < cmn D v n then D (10 * n + v) else cmn D v n
theorem cmn_le (D : Nat → Int) (v : Nat) {n i : Nat} (h : i < n) : cmn D v n ≤ D (10 * i + v) := by
  induction n with
  | zero => exact absurd h (Nat.not_lt_zero _)
  | succ n ih =>
    have e : cmn D v (n + 1) = if D (10 * n + v) < cmn D v n then D (10 * n + v) else cmn D v n := rfl
    rw [e]
    by_cases c : i = n
    · subst c; split <;> omega
    · have := ih (by omega)
      split <;> omega
theorem cmn_at (D : Nat → Int) (v n : Nat) : cmn D v n = 100000000 ∨ ∃ i, i < n ∧ cmn D v n = D (10 * i + v) := by
  induction n with
  | zero => exact Or.inl rfl
  | succ n ih =>
    have e : cmn D v (n + 1) = if D (10 * n + v) < cmn D v n then D (10 * n + v) else cmn D v n := rfl
    rw [e]
    by_cases c : D (10 * n + v) < cmn D v n
    · rw [if_pos c]; exact Or.inr ⟨n, by omega, rfl⟩
    · rw [if_neg c]
      rcases ih with z | ⟨i, hi, z⟩
      · exact Or.inl z
      · exact Or.inr ⟨i, by omega, z⟩
theorem zFo_x {E : Nat → Nat → Int → Nat → Prop} {D : Nat → Int} (h : zFo E D 10) (hE : ∀ p b s i, E p b s i → p < 10 ∧ b < 10 ∧ s ≤ 2000) : ∃ X, fea E X := by
  refine ⟨fun v => cmn D v 10, fun p b s i he => ?_⟩
  have v := hE p b s i he
  obtain ⟨⟨h1, h2, h3, h4, h5⟩, h6⟩ := h
  show cmn D p 10 ≤ cmn D b 10 + s
  have z := cmn_le D b v.2.1
  rw [show 10 * b + b = 11 * b by omega, h2 b v.2.1] at z
  have e := h3 p b s i he trivial
  rcases cmn_at D b 10 with q | ⟨k, hk, q⟩
  · omega
  · have t := h6 b k p v.2.1 hk v.1 (by omega) (by omega)
    have := cmn_le D p hk
    omega
theorem zFo_g {E : Nat → Nat → Int → Nat → Prop} {D : Nat → Int} {o j : Nat} (h : zFo E D 10) (hE : ∀ p b s i, E p b s i → p < 10 ∧ b < 10 ∧ s ≤ 2000) (sy : ∀ p b s i, E p b s i → ∃ s2, E b p s2 i) (ho : o < 10) (hj : j < 10) (hf : D (10 * o + j) < 100000000) : zGd2 E o j (D (10 * o + j)) := by
  obtain ⟨X, hX⟩ := zFo_x h hE
  obtain ⟨⟨h1, h2, h3, h4, h5⟩, h6⟩ := h
  have pb : p2 10 = 1024 := by decide
  refine ⟨fun Y hY => h4 Y hY o j ho hj hf, fun v => if D (10 * o + v) < 100000000 then D (10 * o + v) else X v, fea_mix sy (fun p b s i he z => ?_) hX, ?_⟩
  · have v := hE p b s i he
    have e := h3 p b s i he trivial
    have t := h6 b o p v.2.1 ho v.1 z (by omega)
    have r1 := (h1 (10 * o + b) (by omega)).2.2 z
    rw [pb] at r1
    exact ⟨by omega, by omega⟩
  · show (if D (10 * o + j) < 100000000 then D (10 * o + j) else X j) = (if D (10 * o + o) < 100000000 then D (10 * o + o) else X o) + D (10 * o + j)
    rw [if_pos hf, show 10 * o + o = 11 * o by omega, h2 o ho, if_pos (by decide)]; omega
/-! shapes, and what each meeting says -/
def zcl (t : Int) : Int := if t < 0 then 0 else if 159 < t then 159 else t
theorem zcl_e {t v : Int} (h : (t < 0 ∧ v = 0) ∨ (159 < t ∧ v = 159) ∨ (0 ≤ t ∧ t ≤ 159 ∧ v = t)) : v = zcl t := by
  unfold zcl
  split
  · omega
  · split <;> omega
theorem zcl_b (t : Int) : 0 ≤ zcl t ∧ zcl t ≤ 159 := by
  unfold zcl
  split
  · omega
  · split <;> omega
def shv (bo sh : Nat → Int) (p y : Int) : Int := sh (zcl (y - bo p.toNat)).toNat
theorem shv_e {bo sh : Nat → Int} {p y b v r : Int} (hb : b = bo p.toNat) (hv : (y - b < 0 ∧ v = 0) ∨ (159 < y - b ∧ v = 159) ∨ (0 ≤ y - b ∧ y - b ≤ 159 ∧ v = y - b)) (hr : r = sh v.toNat) : r = shv bo sh p y := by
  unfold shv
  rw [← hb, ← zcl_e hv]; exact hr
def shg (g : Nat → Int) (p y : Int) : Int := shv (fun i => g i) (fun i => g (658 + i)) p y
theorem shg_e {g : Nat → Int} {p y b v r : Int} {k k2 : Nat} (hb : b = g k) (hk : k = p.toNat) (hv : (y - b < 0 ∧ v = 0) ∨ (159 < y - b ∧ v = 159) ∨ (0 ≤ y - b ∧ y - b ≤ 159 ∧ v = y - b)) (hr : r = g k2) (hk2 : k2 = 658 + v.toNat) : r = shg g p y := by
  subst hk hk2
  exact shv_e (bo := fun i => g i) (sh := fun i => g (658 + i)) hb hv hr
def lwv (e wi ev : Int) : Int := if e = 2 then 1 else if e = 1 then -ev else -wi
def hgv (e wi ev : Int) : Int := if e = 2 then wi else if e = 1 then ev else -1
def loC (Y A B C bo sh : Nat → Int) (wi ev : Int) (i : Nat) : Int := lwv (C i) wi ev - (shv bo sh (A i) (Y i) - shv bo sh (B i) (Y i))
def hiC (Y A B C bo sh : Nat → Int) (wi ev : Int) (i : Nat) : Int := hgv (C i) wi ev - (shv bo sh (A i) (Y i) - shv bo sh (B i) (Y i))
def zBn (lo hi Y A B C bo sh : Nat → Int) (wi ev n : Int) : Prop := ∀ i : Nat, (i : Int) < n → lo i = loC Y A B C bo sh wi ev i ∧ hi i = hiC Y A B C bo sh wi ev i
theorem zBn_0 {lo hi Y A B C bo sh : Nat → Int} {wi ev : Int} : zBn lo hi Y A B C bo sh wi ev 0 := fun i hi => by omega
theorem zBn_s {lo hi Y A B C bo sh : Nat → Int} {wi ev n y a b r1 r2 x z : Int} (h : zBn lo hi Y A B C bo sh wi ev n) (h0 : 0 ≤ n) (ey : y = Y n.toNat) (ea : a = A n.toNat) (eb : b = B n.toNat) (h1 : r1 = shv bo sh a y) (h2 : r2 = shv bo sh b y) (hx : (C n.toNat = 1 ∧ x = -ev - (r1 - r2) ∧ z = ev - (r1 - r2)) ∨ (C n.toNat = 2 ∧ x = 1 - (r1 - r2) ∧ z = wi - (r1 - r2)) ∨ (C n.toNat ≠ 1 ∧ C n.toNat ≠ 2 ∧ x = -wi - (r1 - r2) ∧ z = -1 - (r1 - r2))) : zBn (zPt lo n.toNat x) (zPt hi n.toNat z) Y A B C bo sh wi ev (n + 1) := fun i hi' => by
  by_cases c : i = n.toNat
  · subst c
    rw [zPt_eq, zPt_eq]
    unfold loC hiC lwv hgv
    rw [← ey, ← ea, ← eb, ← h1, ← h2]
    rcases hx with ⟨q, q1, q2⟩ | ⟨q, q1, q2⟩ | ⟨q, q0, q1, q2⟩
    · rw [if_neg (by omega), if_pos q, if_neg (by omega), if_pos q]; exact ⟨q1, q2⟩
    · rw [if_pos q, if_pos q]; exact ⟨q1, q2⟩
    · rw [if_neg q0, if_neg q, if_neg q0, if_neg q]; exact ⟨q1, q2⟩
  · rw [zPt_ne c, zPt_ne c]; exact h i (by omega)
/-! the class's edges, the reference's edges -/
def zEk (Y A B C bo sh : Nat → Int) (wi ev : Int) (S : Nat → Prop) : Nat → Nat → Int → Nat → Prop := edS (zc6 A) (zc6 B) (loC Y A B C bo sh wi ev) (hiC Y A B C bo sh wi ev) S
def zSa (v w n : Int) (i : Nat) : Prop := (i : Int) < n ∧ zbt v i = 0 ∧ zbt w i = 0
def zEr (g : Nat → Int) (n o1 o2 o3 : Int) : Nat → Nat → Int → Nat → Prop := edS (fun i => g (91 + 6 * i)) (fun i => g (92 + 6 * i)) (loC (fun i => g (90 + 6 * i)) (fun i => g (91 + 6 * i)) (fun i => g (92 + 6 * i)) (fun i => g (93 + 6 * i)) (fun i => g i) (fun i => g (658 + i)) (g 824) (g 825)) (hiC (fun i => g (90 + 6 * i)) (fun i => g (91 + 6 * i)) (fun i => g (92 + 6 * i)) (fun i => g (93 + 6 * i)) (fun i => g i) (fun i => g (658 + i)) (g 824) (g 825)) (fun i => (i : Int) < n ∧ (g (94 + 6 * i) = 0 ∧ g (95 + 6 * i) = 0) ∧ (i : Int) ≠ o1 ∧ (i : Int) ≠ o2 ∧ (i : Int) ≠ o3)
theorem edS_cg {A B lo hi A2 B2 lo2 hi2 : Nat → Int} {S S2 : Nat → Prop} (hS : ∀ i, S i ↔ S2 i) (h : ∀ i, S i → A i = A2 i ∧ B i = B2 i ∧ lo i = lo2 i ∧ hi i = hi2 i) : edS A B lo hi S = edS A2 B2 lo2 hi2 S2 := by
  funext p b s i
  unfold edS
  refine propext ⟨fun ⟨x, y⟩ => ?_, fun ⟨x, y⟩ => ?_⟩
  · obtain ⟨h1, h2, h3, h4⟩ := h i x
    rw [h1, h2, h3, h4] at y
    exact ⟨(hS i).mp x, y⟩
  · have x := (hS i).mpr x
    obtain ⟨h1, h2, h3, h4⟩ := h i x
    rw [← h1, ← h2, ← h3, ← h4] at y
    exact ⟨x, y⟩
theorem edg_S (A B lo hi : Nat → Int) (n x : Int) : edg A B lo hi n x = edS A B lo hi (fun i => (i : Int) < n ∧ zbt x i = 1) := by
  funext p b s i
  exact propext ⟨fun ⟨a, b, c⟩ => ⟨⟨a, b⟩, c⟩, fun ⟨⟨a, b⟩, c⟩ => ⟨a, b, c⟩⟩
theorem edg_k {lo hi Y A B C bo sh : Nat → Int} {wi ev n x : Int} {S : Nat → Prop} (h : zBn lo hi Y A B C bo sh wi ev n) (hS : ∀ i : Nat, ((i : Int) < n ∧ zbt x i = 1) ↔ S i) : edg (zc6 A) (zc6 B) lo hi n x = zEk Y A B C bo sh wi ev S := by
  rw [edg_S]
  exact edS_cg hS (fun i hi => ⟨rfl, rfl, (h i hi.1).1, (h i hi.1).2⟩)
theorem zSy_a {x v w n : Int} (h : zSy x v w n) (hn : n ≤ 60) (i : Nat) : ((i : Int) < n ∧ zbt x i = 1) ↔ zSa v w n i := by
  unfold zSa
  constructor
  · rintro ⟨a, b⟩; exact (h i (by omega)).mp b
  · intro a; exact ⟨a.1, (h i (by omega)).mpr a⟩
theorem edS_sy {A B lo hi : Nat → Int} {S : Nat → Prop} (p b : Nat) (s : Int) (i : Nat) (h : edS A B lo hi S p b s i) : ∃ s2, edS A B lo hi S b p s2 i := by
  obtain ⟨h1, ⟨z1, z2, z3⟩ | ⟨z1, z2, z3⟩⟩ := h
  · exact ⟨_, h1, Or.inr ⟨z2, z1, rfl⟩⟩
  · exact ⟨_, h1, Or.inl ⟨z2, z1, rfl⟩⟩
theorem rcl_sy {E : Nat → Nat → Int → Nat → Prop} (sy : ∀ p b s i, E p b s i → ∃ s2, E b p s2 i) {i j : Nat} (h : rcl E i j) : rcl E j i := fun R r t e => h (fun a b => R b a) r (fun a b c x y => t c b a y x) (fun p b s m he => by
  obtain ⟨s2, he2⟩ := sy p b s m he
  exact e b p s2 m he2)
/-! bounds of what is said -/
theorem lh_b {Y A B C bo sh : Nat → Int} {wi ev : Int} {i : Nat} (hs : ∀ k, k < 160 → -500 ≤ sh k ∧ sh k ≤ 500) (hw : 1 ≤ wi ∧ wi ≤ 1000) (he : 0 ≤ ev ∧ ev ≤ 500) : -2000 ≤ loC Y A B C bo sh wi ev i ∧ loC Y A B C bo sh wi ev i ≤ 2000 ∧ -2000 ≤ hiC Y A B C bo sh wi ev i ∧ hiC Y A B C bo sh wi ev i ≤ 2000 := by
  have a := zcl_b (Y i - bo (A i).toNat)
  have b := zcl_b (Y i - bo (B i).toNat)
  have c := hs (zcl (Y i - bo (A i).toNat)).toNat (by omega)
  have d := hs (zcl (Y i - bo (B i).toNat)).toNat (by omega)
  unfold loC hiC lwv hgv shv
  split
  · omega
  · split <;> omega
/-! the reference's table, meeting by meeting -/
def zNe (g : Nat → Int) (n : Int) : Prop := ∀ i : Nat, i < 60 → (i : Int) < n → g (91 + 6 * i) ≠ g (92 + 6 * i)
def zFm (g : Nat → Int) (n o1 o2 o3 : Int) (D : Nat → Int) (l : Int) : Prop := zF0 (zEr g n o1 o2 o3) (fun _ _ _ i => (i : Int) < l) D 2000
theorem zFm_0 {g D : Nat → Int} {n o1 o2 o3 l : Int} (h : zFz D l) (hl : 100 ≤ l) : zFm g n o1 o2 o3 D 0 := zF0_cg (zF0_z h hl) (fun p b s i _ z => by omega)
theorem zFm_n {g D : Nat → Int} {n o1 o2 o3 l : Int} (h : zFm g n o1 o2 o3 D l) (h0 : 0 ≤ l) (hs : g (94 + 6 * l.toNat) ≠ 0 ∨ g (95 + 6 * l.toNat) ≠ 0 ∨ l = o1 ∨ l = o2 ∨ l = o3) : zFm g n o1 o2 o3 D (l + 1) := zF0_cg h (fun p b s i he z => by
  by_cases c : (i : Int) < l
  · exact c
  · exfalso
    have e : i = l.toNat := by omega
    obtain ⟨⟨_, ⟨x1, x2⟩, x3, x4, x5⟩, _⟩ := he
    rw [e] at x1 x2 x3 x4 x5
    omega)
theorem zFm_s {g D D2 D3 : Nat → Int} {n o1 o2 o3 l a b y r1 r2 e lw hg : Int} (h : zFm g n o1 o2 o3 D l) (h0 : 0 ≤ l ∧ l < n ∧ n ≤ 60) (hs : g (94 + 6 * l.toNat) = 0 ∧ g (95 + 6 * l.toNat) = 0) (hno : l ≠ o1 ∧ l ≠ o2 ∧ l ≠ o3) (ea : a = g (91 + 6 * l.toNat) ∧ 0 ≤ a ∧ a ≤ 9) (eb : b = g (92 + 6 * l.toNat) ∧ 0 ≤ b ∧ b ≤ 9) (ey : y = g (90 + 6 * l.toNat)) (ee : e = g (93 + 6 * l.toNat)) (h1 : r1 = shg g a y) (h2 : r2 = shg g b y) (hl : (e = 2 ∧ lw = 1 ∧ hg = g 824) ∨ (e = 1 ∧ lw = -(g 825) ∧ hg = g 825) ∨ (e ≠ 1 ∧ e ≠ 2 ∧ lw = -(g 824) ∧ hg = -1)) (hb : -2000 ≤ hg - (r1 - r2) ∧ hg - (r1 - r2) ≤ 2000 ∧ -2000 ≤ (r1 - r2) - lw ∧ (r1 - r2) - lw ≤ 2000) (hn : zNe g n) (e1 : D2 = bnD D (10 * b + a).toNat (hg - (r1 - r2))) (e2 : D3 = bnD D2 (10 * a + b).toNat ((r1 - r2) - lw)) : zFm g n o1 o2 o3 D3 (l + 1) := by
  have ne := hn l.toNat (by omega) (by omega)
  have lo' : loC (fun i => g (90 + 6 * i)) (fun i => g (91 + 6 * i)) (fun i => g (92 + 6 * i)) (fun i => g (93 + 6 * i)) (fun i => g i) (fun i => g (658 + i)) (g 824) (g 825) l.toNat = lw - (r1 - r2) := by
    have q : lwv e (g 824) (g 825) = lw := by
      unfold lwv
      rcases hl with ⟨q, q1, q2⟩ | ⟨q, q1, q2⟩ | ⟨q, q0, q1, q2⟩
      · rw [if_pos q, q1]
      · rw [if_neg (by omega), if_pos q, q1]
      · rw [if_neg q0, if_neg q, q1]
    show lwv (g (93 + 6 * l.toNat)) (g 824) (g 825) - (shg g (g (91 + 6 * l.toNat)) (g (90 + 6 * l.toNat)) - shg g (g (92 + 6 * l.toNat)) (g (90 + 6 * l.toNat))) = _
    rw [← ee, ← ea.1, ← eb.1, ← ey, q, ← h1, ← h2]
  have hi' : hiC (fun i => g (90 + 6 * i)) (fun i => g (91 + 6 * i)) (fun i => g (92 + 6 * i)) (fun i => g (93 + 6 * i)) (fun i => g i) (fun i => g (658 + i)) (g 824) (g 825) l.toNat = hg - (r1 - r2) := by
    have q : hgv e (g 824) (g 825) = hg := by
      unfold hgv
      rcases hl with ⟨q, q1, q2⟩ | ⟨q, q1, q2⟩ | ⟨q, q0, q1, q2⟩
      · rw [if_pos q, q2]
      · rw [if_neg (by omega), if_pos q, q2]
      · rw [if_neg q0, if_neg q, q2]
    show hgv (g (93 + 6 * l.toNat)) (g 824) (g 825) - (shg g (g (91 + 6 * l.toNat)) (g (90 + 6 * l.toNat)) - shg g (g (92 + 6 * l.toNat)) (g (90 + 6 * l.toNat))) = _
    rw [← ee, ← ea.1, ← eb.1, ← ey, q, ← h1, ← h2]
  have act : (l.toNat : Int) < n ∧ (g (94 + 6 * l.toNat) = 0 ∧ g (95 + 6 * l.toNat) = 0) ∧ (l.toNat : Int) ≠ o1 ∧ (l.toNat : Int) ≠ o2 ∧ (l.toNat : Int) ≠ o3 := ⟨by omega, hs, by omega, by omega, by omega⟩
  have x1 := zF0_low h (p := a.toNat) (b := b.toNat) (s := hg - (r1 - r2)) (i := l.toNat) ⟨act, Or.inl ⟨by rw [ea.1], by rw [eb.1], hi'.symm⟩⟩ ⟨hb.1, hb.2.1⟩ (by omega) (by omega) (by omega)
  rw [show 10 * b.toNat + a.toNat = (10 * b + a).toNat by omega, ← e1] at x1
  have x2 := zF0_low x1 (p := b.toNat) (b := a.toNat) (s := (r1 - r2) - lw) (i := l.toNat) ⟨act, Or.inr ⟨by rw [eb.1], by rw [ea.1], by rw [lo']; omega⟩⟩ ⟨hb.2.2.1, hb.2.2.2⟩ (by omega) (by omega) (by omega)
  rw [show 10 * a.toNat + b.toNat = (10 * a + b).toNat by omega, ← e2] at x2
  refine zF0_cg x2 (fun p b' s i he z => ?_)
  by_cases c : (i : Int) < l
  · exact Or.inl (Or.inl c)
  · have e : i = l.toNat := by omega
    subst e
    rcases he.2 with ⟨z1, z2, z3⟩ | ⟨z1, z2, z3⟩
    · rw [hi'] at z3
      exact Or.inl (Or.inr ⟨by rw [z1, ea.1], by rw [z2, eb.1], z3⟩)
    · rw [lo'] at z3
      exact Or.inr ⟨by rw [z1, eb.1], by rw [z2, ea.1], by rw [z3]; omega⟩
theorem zFm_o {g D : Nat → Int} {n o1 o2 o3 l : Int} (h : zFm g n o1 o2 o3 D l) (hl : n ≤ l) : zFo (zEr g n o1 o2 o3) D (Int.toNat 0) := ⟨zF0_cg h (fun p b s i he _ => by have := he.1.1; omega), fun m i j hm => absurd hm (Nat.not_lt_zero _)⟩
/-! stages -/
def zF3 (E : Nat → Nat → Int → Nat → Prop) (D : Nat → Int) (k i j : Int) : Prop := ∃ D0, zFo E D0 k.toNat ∧ zFk D0 D k.toNat i.toNat j.toNat
theorem zF3_0 {E : Nat → Nat → Int → Nat → Prop} {D : Nat → Int} {k : Int} (h : zFo E D k.toNat) : zF3 E D k 0 0 := ⟨D, h, zFk_0⟩
theorem zF3_n {E : Nat → Nat → Int → Nat → Prop} {D : Nat → Int} {k i j : Int} (h : zF3 E D k i j) (hj : j = 10) (hi : 0 ≤ i) : zF3 E D k (i + 1) 0 := by
  obtain ⟨D0, h1, h2⟩ := h
  refine ⟨D0, h1, ?_⟩
  rw [hj] at h2
  rw [show (i + 1).toNat = i.toNat + 1 by omega]
  exact zFk_n h2
theorem zF3_b {E : Nat → Nat → Int → Nat → Prop} {D : Nat → Int} {k i j x y : Int} (h : zF3 E D k i j) (hx : x = D (10 * i + k).toNat) (hy : y = D (10 * k + j).toNat) (h0 : 0 ≤ k ∧ k ≤ 9 ∧ 0 ≤ i ∧ i ≤ 9 ∧ 0 ≤ j ∧ j ≤ 9) : -1024000 ≤ x ∧ -1024000 ≤ y := by
  obtain ⟨D0, ⟨⟨h1, h2, _⟩, _⟩, h3⟩ := h
  have pb := p2_b ⟨k.toNat, by omega⟩
  have pb : 1 ≤ p2 k.toNat ∧ p2 k.toNat ≤ 1024 := pb
  have pk : p2 k.toNat ≤ 512 := by
    have q := p2_b ⟨k.toNat + 1, by omega⟩
    have q : 1 ≤ p2 (k.toNat + 1) ∧ p2 (k.toNat + 1) ≤ 1024 := q
    rw [p2_s] at q; omega
  obtain ⟨g1, g2⟩ := zFk_at h3 (h2 k.toNat (by omega)) (by omega)
  have a := g1 i.toNat (by omega)
  have b := g2 j.toNat (by omega)
  rw [show 10 * i.toNat + k.toNat = (10 * i + k).toNat by omega, ← hx] at a
  rw [show 10 * k.toNat + j.toNat = (10 * k + j).toNat by omega, ← hy] at b
  have c := h1 (10 * i + k).toNat (by omega)
  have d := h1 (10 * k + j).toNat (by omega)
  omega
theorem zF3_s {E : Nat → Nat → Int → Nat → Prop} {D : Nat → Int} {k i j x y z v : Int} (h : zF3 E D k i j) (hx : x = D (10 * i + k).toNat) (hy : y = D (10 * k + j).toNat) (hz : z = D (10 * i + j).toNat) (h0 : 0 ≤ k ∧ k ≤ 9 ∧ 0 ≤ i ∧ i ≤ 9 ∧ 0 ≤ j ∧ j ≤ 9) (hv : ((x < 100000000 ∧ y < 100000000 ∧ x + y < z) ∧ v = x + y) ∨ (¬ (x < 100000000 ∧ y < 100000000 ∧ x + y < z) ∧ v = z)) : zF3 E (zPt D (10 * i + j).toNat v) k i (j + 1) := by
  obtain ⟨D0, h1, h3⟩ := h
  refine ⟨D0, h1, ?_⟩
  rw [hx, hy, hz, show (10 * i + k).toNat = 10 * i.toNat + k.toNat by omega, show (10 * k + j).toNat = 10 * k.toNat + j.toNat by omega, show (10 * i + j).toNat = 10 * i.toNat + j.toNat by omega] at hv
  rw [show (j + 1).toNat = j.toNat + 1 by omega, show (10 * i + j).toNat = 10 * i.toNat + j.toNat by omega]
  exact zFk_s h3 (h1.1.2.1 k.toNat (by omega)) (by omega) (by omega) (by omega) hv
theorem zF3_e {E : Nat → Nat → Int → Nat → Prop} {D : Nat → Int} {k i : Int} (hE : ∀ p b s i, E p b s i → p < 10 ∧ b < 10) (h : zF3 E D k i 0) (hi : i = 10) (hk : 0 ≤ k ∧ k ≤ 9) : zFe E D (k.toNat + 1) 0 := by
  obtain ⟨D0, h1, h3⟩ := h
  rw [hi] at h3
  exact zFe_mk (by omega) hE h1 h3
theorem zFe_t {E : Nat → Nat → Int → Nat → Prop} {D : Nat → Int} {k l : Int} (h : zFe E D (k.toNat + 1) l) (hl : 10 ≤ l) (hk : 0 ≤ k) : zFo E D (k + 1).toNat := by
  rw [show (k + 1).toNat = k.toNat + 1 by omega]
  exact zFe_o h hl
theorem zEr_v {g : Nat → Int} {n o1 o2 o3 : Int} (hb : ∀ i : Nat, (i : Int) < n → (0 ≤ g (91 + 6 * i) ∧ g (91 + 6 * i) ≤ 9) ∧ 0 ≤ g (92 + 6 * i) ∧ g (92 + 6 * i) ≤ 9) : ∀ p b s i, zEr g n o1 o2 o3 p b s i → p < 10 ∧ b < 10 := fun p b s i he => by
  have := hb i he.1.1
  rcases he.2 with ⟨z1, z2, z3⟩ | ⟨z1, z2, z3⟩
  · rw [z1, z2]; dsimp only; omega
  · rw [z1, z2]; dsimp only; omega
/-! the answers -/
def zQu (E : Nat → Nat → Int → Nat → Prop) (r : Int) : Prop := (r = 0 ∧ ∃ X, fea E X) ∨ (r = 1 ∧ ¬ ∃ X, fea E X)
theorem zQu_un {E : Nat → Nat → Int → Nat → Prop} {r s : Int} (h : zQu E r) (g : zQu E s) : r = s := by
  rcases h with ⟨h1, h2⟩ | ⟨h1, h2⟩
  · rcases g with ⟨g1, g2⟩ | ⟨g1, g2⟩
    · rw [h1, g1]
    · exact absurd h2 g2
  · rcases g with ⟨g1, g2⟩ | ⟨g1, g2⟩
    · exact absurd g2 h2
    · rw [h1, g1]
/-- agree, of either side: 1 if there are potentials -/
def zAg2 (E : Nat → Nat → Int → Nat → Prop) (r : Int) : Prop := (r = 1 ∧ ∃ X, fea E X) ∨ (r = 0 ∧ ¬ ∃ X, fea E X)
theorem zAg2_q {E : Nat → Nat → Int → Nat → Prop} {r s : Int} (h : zAg2 E r) (hs : (r ≠ 0 ∧ s = 0) ∨ (r = 0 ∧ s = 1)) : zQu E s := by
  rcases h with ⟨h1, h2⟩ | ⟨h1, h2⟩
  · exact Or.inl ⟨by omega, h2⟩
  · exact Or.inr ⟨by omega, h2⟩
theorem zAg2_r {A B lo hi : Nat → Int} {n x r s : Int} {E : Nat → Nat → Int → Nat → Prop} (h : zRq A B lo hi n x r) (e : edg A B lo hi n x = E) (hs : (r = 0 ∧ s = 1) ∨ (r ≠ 0 ∧ s = 0)) : zAg2 E s := by
  rw [← e]
  rcases h with ⟨h1, h2⟩ | ⟨h1, h2, h3⟩
  · exact Or.inl ⟨by omega, h2⟩
  · refine Or.inr ⟨by omega, fun ⟨X, hX⟩ => h3 ⟨X, fun p b s i he => ?_⟩⟩
    have z := h2 i he.2.1
    exact hX p b s i ⟨he.1, z.2, he.2.2⟩
def zFw (E : Nat → Nat → Int → Nat → Prop) (D : Nat → Int) (r : Int) : Prop := (r = 1 ∧ zFo E D 10) ∨ (r = 0 ∧ ¬ ∃ X, fea E X)
theorem zFw_a {E : Nat → Nat → Int → Nat → Prop} {D : Nat → Int} {r : Int} (hE : ∀ p b s i, E p b s i → p < 10 ∧ b < 10 ∧ s ≤ 2000) (h : zFw E D r) : zAg2 E r := by
  rcases h with ⟨h1, h2⟩ | h
  · exact Or.inl ⟨h1, zFo_x h2 hE⟩
  · exact Or.inr h
theorem zEr_w {g : Nat → Int} {n o1 o2 o3 : Int} (hb : ∀ i : Nat, (i : Int) < n → (0 ≤ g (91 + 6 * i) ∧ g (91 + 6 * i) ≤ 9) ∧ 0 ≤ g (92 + 6 * i) ∧ g (92 + 6 * i) ≤ 9) (hs : ∀ k, k < 160 → -500 ≤ g (658 + k) ∧ g (658 + k) ≤ 500) (hw : 1 ≤ g 824 ∧ g 824 ≤ 1000) (he : 0 ≤ g 825 ∧ g 825 ≤ 500) : ∀ p b s i, zEr g n o1 o2 o3 p b s i → p < 10 ∧ b < 10 ∧ s ≤ 2000 := fun p b s i hE => by
  have a := zEr_v hb p b s i hE
  have c := lh_b (Y := fun i => g (90 + 6 * i)) (A := fun i => g (91 + 6 * i)) (B := fun i => g (92 + 6 * i)) (C := fun i => g (93 + 6 * i)) (bo := fun i => g i) (sh := fun i => g (658 + i)) (i := i) hs hw he
  rcases hE.2 with ⟨z1, z2, z3⟩ | ⟨z1, z2, z3⟩
  · rw [z3]; exact ⟨a.1, a.2, c.2.2.2⟩
  · rw [z3]; exact ⟨a.1, a.2, by omega⟩
/-- both sides' edges alike -/
theorem zEk_r {Y A B C bo sh g : Nat → Int} {wi ev v w n : Int} (hn : n ≤ 60) (bA : ∀ i, i < 60 → 0 ≤ A i ∧ A i ≤ 9) (bB : ∀ i, i < 60 → 0 ≤ B i ∧ B i ≤ 9) (hw : wi = g 824) (he : ev = g 825) (h0 : ∀ i, i < 60 → g (90 + 6 * i) = Y i) (h1 : ∀ i, i < 60 → g (91 + 6 * i) = A i) (h2 : ∀ i, i < 60 → g (92 + 6 * i) = B i) (h3 : ∀ i, i < 60 → g (93 + 6 * i) = C i) (h4 : ∀ i, i < 60 → g (94 + 6 * i) = zbt v i) (h5 : ∀ i, i < 60 → g (95 + 6 * i) = zbt w i) (hbo : ∀ i, i < 10 → g i = bo i) (hsh : ∀ i, i < 160 → g (658 + i) = sh i) : zEk Y A B C bo sh wi ev (zSa v w n) = zEr g n (-1) (-1) (-1) := by
  have sv : ∀ p y : Int, 0 ≤ p → p ≤ 9 → shv bo sh p y = shv (fun i => g i) (fun i => g (658 + i)) p y := fun p y p0 p9 => by
    have a := zcl_b (y - bo p.toNat)
    unfold shv
    dsimp only
    rw [hbo p.toNat (by omega), hsh _ (by omega)]
  refine edS_cg (fun i => ?_) (fun i hi => ?_)
  · unfold zSa
    constructor
    · rintro ⟨a, b, c⟩
      exact ⟨a, ⟨by rw [h4 i (by omega)]; exact b, by rw [h5 i (by omega)]; exact c⟩, by omega, by omega, by omega⟩
    · rintro ⟨a, ⟨b, c⟩, _⟩
      exact ⟨a, by rw [← h4 i (by omega)]; exact b, by rw [← h5 i (by omega)]; exact c⟩
  · have i60 : i < 60 := by have := hi.1; omega
    have a := bA i i60
    have b := bB i i60
    rw [zc6_lt i60, zc6_lt i60]
    unfold loC hiC
    dsimp only
    rw [h0 i i60, h1 i i60, h2 i i60, h3 i i60, sv _ _ a.1 a.2, sv _ _ b.1 b.2, hw, he]
    exact ⟨rfl, rfl, rfl, rfl⟩
/-! spans -/
theorem rcl_R {E : Nat → Nat → Int → Nat → Prop} {i j : Nat} (h : rcl E i j) (R : Nat → Prop) (h0 : R i) (he : ∀ p b s m, E p b s m → R b → R p) : R j := h (fun a b => R a → R b) (fun _ x => x) (fun _ _ _ f g x => g (f x)) (fun p b s m e x => he p b s m e x) h0
def spn (E : Nat → Nat → Int → Nat → Prop) (P a b w r : Int) : Prop := (r = -100000 ∧ (a < 0 ∨ P ≤ a ∨ b < 0 ∨ P ≤ b ∨ a = b ∨ w < 0 ∨ 1 < w)) ∨ ((0 ≤ a ∧ a < P ∧ 0 ≤ b ∧ b < P ∧ a ≠ b ∧ 0 ≤ w ∧ w ≤ 1) ∧ ((r = -200000 ∧ ¬ ∃ X, fea E X) ∨ ((∃ X, fea E X) ∧ ((r = -300000 ∧ ¬ rcl E b.toNat a.toNat) ∨ (rcl E b.toNat a.toNat ∧ ((w = 0 ∧ zGd2 E a.toNat b.toNat (-r)) ∨ (w = 1 ∧ zGd2 E b.toNat a.toNat r)))))))
theorem spn_un {E : Nat → Nat → Int → Nat → Prop} {P a b w r s : Int} (h : spn E P a b w r) (g : spn E P a b w s) : r = s := by
  rcases h with ⟨h1, h2⟩ | ⟨h1, h2⟩
  · rcases g with ⟨g1, g2⟩ | ⟨g1, g2⟩
    · omega
    · clear g2; omega
  · rcases g with ⟨g1, g2⟩ | ⟨g1, g2⟩
    · clear h2; omega
    · rcases h2 with ⟨h2, h3⟩ | ⟨h2, h3⟩
      · rcases g2 with ⟨g2, g3⟩ | ⟨g2, g3⟩
        · omega
        · exact absurd g2 h3
      · rcases g2 with ⟨g2, g3⟩ | ⟨g2, g3⟩
        · exact absurd h2 g3
        · rcases h3 with ⟨h3, h4⟩ | ⟨h3, h4⟩
          · rcases g3 with ⟨g3, g4⟩ | ⟨g3, g4⟩
            · omega
            · exact absurd g3 h4
          · rcases g3 with ⟨g3, g4⟩ | ⟨g3, g4⟩
            · exact absurd h3 g4
            · rcases h4 with ⟨h4, h5⟩ | ⟨h4, h5⟩
              · rcases g4 with ⟨g4, g5⟩ | ⟨g4, g5⟩
                · have := zGd2_un h5 g5; omega
                · omega
              · rcases g4 with ⟨g4, g5⟩ | ⟨g4, g5⟩
                · omega
                · exact zGd2_un h5 g5
/-- of the class: who is joined -/
theorem jn_e {Y A B C bo sh : Nat → Int} {wi ev v w n P : Int} (hn : n ≤ 60) (bA : ∀ i, i < 60 → 0 ≤ A i ∧ A i ≤ 9) (bB : ∀ i, i < 60 → 0 ≤ B i ∧ B i ≤ 9) (hp : zPl A B n P) {p b i : Nat} {s : Int} (h : zEk Y A B C bo sh wi ev (zSa v w n) p b s i) : edp A B v w n (-1) P b p := by
  obtain ⟨⟨h1, h2, h3⟩, h4⟩ := h
  have i60 : i < 60 := by omega
  have a := bA i i60
  have c := bB i i60
  have d := hp i i60 h1
  rw [zc6_lt i60, zc6_lt i60] at h4
  refine ⟨by omega, i, h1, by omega, h2, h3, ?_⟩
  omega
theorem jn_r {lk Y A B C bo sh f : Nat → Int} {wi ev v w n P a b : Int} (bA : ∀ i, i < 60 → 0 ≤ A i ∧ A i ≤ 9) (bB : ∀ i, i < 60 → 0 ≤ B i ∧ B i ≤ 9) (hn : n ≤ 60) (h : zRd lk A B v w n P b f) (ha : 0 ≤ a ∧ a < P) (hf : f a.toNat ≠ -1) : rcl (zEk Y A B C bo sh wi ev (zSa v w n)) b.toNat a.toNat := by
  rcases h.1 a.toNat (by omega) with ⟨y, _⟩ | ⟨j, hj, y, l⟩
  · exact absurd y hf
  · clear hf hj y
    generalize a.toNat = q at l
    induction j generalizing q with
    | zero => rw [(lv_0 _ _ _).mp l]; exact rcl_r
    | succ j ih =>
      obtain ⟨⟨r, l2, _, i, i1, _, i3, i4, i5⟩, _⟩ := (lv_s _ _ _ _).mp l
      have i60 : i < 60 := by omega
      have x := bA i i60
      have y := bB i i60
      have S : zSa v w n i := ⟨i1, i3, i4⟩
      refine rcl_t (ih r l2) ?_
      rcases i5 with ⟨z1, z2⟩ | ⟨z1, z2⟩
      · exact rcl_e (s := -(loC Y A B C bo sh wi ev i)) (m := i) ⟨S, Or.inr ⟨by rw [zc6_lt i60]; omega, by rw [zc6_lt i60]; omega, rfl⟩⟩
      · exact rcl_e (s := hiC Y A B C bo sh wi ev i) (m := i) ⟨S, Or.inl ⟨by rw [zc6_lt i60]; omega, by rw [zc6_lt i60]; omega, rfl⟩⟩
theorem jn_n {lk Y A B C bo sh f : Nat → Int} {wi ev v w n P a b : Int} (bA : ∀ i, i < 60 → 0 ≤ A i ∧ A i ≤ 9) (bB : ∀ i, i < 60 → 0 ≤ B i ∧ B i ≤ 9) (hn : n ≤ 60) (hp : zPl A B n P) (hP : P ≤ 10) (h : zRd lk A B v w n P b f) (ha : 0 ≤ a ∧ a < P ∧ 0 ≤ b ∧ b < P) (hf : f a.toNat = -1) : ¬ rcl (zEk Y A B C bo sh wi ev (zSa v w n)) b.toNat a.toNat := fun z => by
  obtain ⟨k, l⟩ := rcl_R z (fun q => ∃ k, lv (edp A B v w n (-1) P) b.toNat k q) ⟨0, (lv_0 _ _ _).mpr rfl⟩ (fun p q s m he ⟨k, l⟩ => by
    obtain ⟨j, _, l2⟩ := rb_ex.mp (lv_ed l (jn_e hn bA bB hp he))
    exact ⟨j, l2⟩)
  have k10 := lv_far (by omega) (fun r q e => by have := edp_lt hp hn e.2; omega) l
  rcases h.1 a.toNat (by omega) with ⟨_, y⟩ | ⟨j, _, y, _⟩
  · exact y k k10 l
  · omega
theorem zAg2_x {E : Nat → Nat → Int → Nat → Prop} {r : Int} (h : zAg2 E r) (hr : r ≠ 0) : ∃ X, fea E X := by
  rcases h with ⟨_, h⟩ | ⟨h, _⟩
  · exact h
  · exact absurd h hr
theorem zAg2_n {E : Nat → Nat → Int → Nat → Prop} {r : Int} (h : zAg2 E r) (hr : r = 0) : ¬ ∃ X, fea E X := by
  rcases h with ⟨h, _⟩ | ⟨_, h⟩
  · omega
  · exact h
theorem spn_b {E : Nat → Nat → Int → Nat → Prop} {P a b w r : Int} (hr : r = -100000) (h : a < 0 ∨ P ≤ a ∨ b < 0 ∨ P ≤ b ∨ a = b ∨ w < 0 ∨ 1 < w) : spn E P a b w r := Or.inl ⟨hr, h⟩
theorem spn_q {E : Nat → Nat → Int → Nat → Prop} {P a b w r : Int} (ho : 0 ≤ a ∧ a < P ∧ 0 ≤ b ∧ b < P ∧ a ≠ b ∧ 0 ≤ w ∧ w ≤ 1) (hr : r = -200000) (h : ¬ ∃ X, fea E X) : spn E P a b w r := Or.inr ⟨ho, Or.inl ⟨hr, h⟩⟩
theorem spn_n {E : Nat → Nat → Int → Nat → Prop} {P a b w r : Int} (ho : 0 ≤ a ∧ a < P ∧ 0 ≤ b ∧ b < P ∧ a ≠ b ∧ 0 ≤ w ∧ w ≤ 1) (hr : r = -300000) (h : ∃ X, fea E X) (hn : ¬ rcl E b.toNat a.toNat) : spn E P a b w r := Or.inr ⟨ho, Or.inr ⟨h, Or.inl ⟨hr, hn⟩⟩⟩
theorem spn_0 {E : Nat → Nat → Int → Nat → Prop} {P a b w r : Int} (ho : 0 ≤ a ∧ a < P ∧ 0 ≤ b ∧ b < P ∧ a ≠ b) (hw : w = 0) (h : ∃ X, fea E X) (hn : rcl E b.toNat a.toNat) (hg : zGd2 E a.toNat b.toNat (-r)) : spn E P a b w r := Or.inr ⟨by omega, Or.inr ⟨h, Or.inr ⟨hn, Or.inl ⟨hw, hg⟩⟩⟩⟩
theorem spn_1 {E : Nat → Nat → Int → Nat → Prop} {P a b w r : Int} (ho : 0 ≤ a ∧ a < P ∧ 0 ≤ b ∧ b < P ∧ a ≠ b) (hw : w = 1) (h : ∃ X, fea E X) (hn : rcl E b.toNat a.toNat) (hg : zGd2 E b.toNat a.toNat r) : spn E P a b w r := Or.inr ⟨by omega, Or.inr ⟨h, Or.inr ⟨hn, Or.inr ⟨hw, hg⟩⟩⟩⟩
theorem neg2 {E : Nat → Nat → Int → Nat → Prop} {o j : Nat} {v : Int} (h : zGd2 E o j v) : zGd2 E o j (-(-v)) := by rw [Int.neg_neg]; exact h
/-- of the reference: far is not reached -/
theorem zFo_r {E : Nat → Nat → Int → Nat → Prop} {D : Nat → Int} {i j : Nat} (hE : ∀ p b s i, E p b s i → p < 10 ∧ b < 10 ∧ s ≤ 2000) (h : zFo E D 10) (hi : i < 10) (hr : rcl E i j) : D (10 * i + j) < 100000000 ∧ j < 10 := by
  obtain ⟨⟨h1, h2, h3, h4, h5⟩, h6⟩ := h
  have pb : p2 10 = 1024 := by decide
  refine hr (fun a b => a < 10 → D (10 * a + b) < 100000000 ∧ b < 10) (fun a ha => ?_) (fun a b c x y ha => ?_) (fun p b s m he hb => ?_) hi
  · rw [show 10 * a + a = 11 * a by omega, h2 a ha]; exact ⟨by decide, ha⟩
  · have x := x ha
    have y := y x.2
    have t := h6 b a c x.2 ha y.2 x.1 y.1
    have r1 := (h1 (10 * a + b) (by omega)).2.2 x.1
    have r2 := (h1 (10 * b + c) (by omega)).2.2 y.1
    rw [pb] at r1 r2
    exact ⟨by omega, y.2⟩
  · have v := hE p b s m he
    have e := h3 p b s m he trivial
    exact ⟨by omega, v.1⟩
theorem zFw_1 {E : Nat → Nat → Int → Nat → Prop} {D : Nat → Int} {r : Int} (h : zFw E D r) (hr : r ≠ 0) : zFo E D 10 := by
  rcases h with ⟨_, h⟩ | ⟨h, _⟩
  · exact h
  · exact absurd h hr
theorem zFw_0 {E : Nat → Nat → Int → Nat → Prop} {D : Nat → Int} {r : Int} (h : zFw E D r) (hr : r = 0) : ¬ ∃ X, fea E X := by
  rcases h with ⟨h, _⟩ | ⟨_, h⟩
  · omega
  · exact h
theorem spr_n {E : Nat → Nat → Int → Nat → Prop} {D : Nat → Int} {P a b w r y : Int} (hE : ∀ p b s i, E p b s i → p < 10 ∧ b < 10 ∧ s ≤ 2000) (h : zFo E D 10) (ho : 0 ≤ a ∧ a < P ∧ 0 ≤ b ∧ b < P ∧ a ≠ b ∧ 0 ≤ w ∧ w ≤ 1) (hP : P ≤ 10) (hr : r = -300000) (hy : y = D (10 * b + a).toNat) (hv : y = 100000000) : spn E P a b w r := spn_n ho hr (zFo_x h hE) (fun z => by
  have := (zFo_r hE h (by omega) z).1
  rw [show 10 * b.toNat + a.toNat = (10 * b + a).toNat by omega] at this
  omega)
theorem spr_1 {E : Nat → Nat → Int → Nat → Prop} {D : Nat → Int} {P a b w y : Int} (hE : ∀ p b s i, E p b s i → p < 10 ∧ b < 10 ∧ s ≤ 2000) (sy : ∀ p b s i, E p b s i → ∃ s2, E b p s2 i) (h : zFo E D 10) (ho : 0 ≤ a ∧ a < P ∧ 0 ≤ b ∧ b < P ∧ a ≠ b) (hP : P ≤ 10) (hw : w = 1) (hy : y = D (10 * b + a).toNat) (hv : y ≠ 100000000) : spn E P a b w y := by
  have e : (10 * b + a).toNat = 10 * b.toNat + a.toNat := by omega
  rw [e] at hy
  have r := (h.1.1 (10 * b.toNat + a.toNat) (by omega)).2.1
  have f : D (10 * b.toNat + a.toNat) < 100000000 := by omega
  refine spn_1 ho hw (zFo_x h hE) (h.1.2.2.2.2 b.toNat a.toNat (by omega) (by omega) f) ?_
  rw [hy]
  exact zFo_g h hE sy (by omega) (by omega) f
theorem spr_0 {E : Nat → Nat → Int → Nat → Prop} {D : Nat → Int} {P a b w y z : Int} (hE : ∀ p b s i, E p b s i → p < 10 ∧ b < 10 ∧ s ≤ 2000) (sy : ∀ p b s i, E p b s i → ∃ s2, E b p s2 i) (h : zFo E D 10) (ho : 0 ≤ a ∧ a < P ∧ 0 ≤ b ∧ b < P ∧ a ≠ b) (hP : P ≤ 10) (hw : w = 0) (hy : y = D (10 * b + a).toNat) (hv : y ≠ 100000000) (hz : z = D (10 * a + b).toNat) : spn E P a b w (-z) := by
  have e : (10 * b + a).toNat = 10 * b.toNat + a.toNat := by omega
  have e2 : (10 * a + b).toNat = 10 * a.toNat + b.toNat := by omega
  rw [e] at hy
  rw [e2] at hz
  have r := (h.1.1 (10 * b.toNat + a.toNat) (by omega)).2.1
  have f : D (10 * b.toNat + a.toNat) < 100000000 := by omega
  have rc := h.1.2.2.2.2 b.toNat a.toNat (by omega) (by omega) f
  have f2 := (zFo_r hE h (show a.toNat < 10 by omega) (rcl_sy sy rc)).1
  refine spn_0 ho hw (zFo_x h hE) rc ?_
  rw [Int.neg_neg, hz]
  exact zFo_g h hE sy (by omega) (by omega) f2
