/-! sums, bounded -/
theorem sm_b {f : Nat → Int} {c : Int} {n : Nat} (h : ∀ i, i < n → 0 ≤ f i ∧ f i ≤ c) : 0 ≤ sm f n ∧ sm f n ≤ c * n := by
  induction n with
  | zero =>
    have e : sm f 0 = 0 := rfl
    rw [e]; simp
  | succ n ih =>
    have a := ih (fun i hi => h i (by omega))
    have b := h n (by omega)
    rw [sm_s]
    have e : c * ((n + 1 : Nat) : Int) = c * n + c := by push_cast; rw [Int.mul_add, Int.mul_one]
    rw [e]
    omega
theorem sm_le {f g : Nat → Int} {n : Nat} (h : ∀ i, i < n → f i ≤ g i) : sm f n ≤ sm g n := by
  induction n with
  | zero => exact Int.le_refl _
  | succ n ih =>
    have a := ih (fun i hi => h i (by omega))
    have b := h n (by omega)
    rw [sm_s, sm_s]; omega
/-! ways given to players, and what they win -/
def wt (f v : Nat → Int) (p q : Nat) : Int := if (v p + 1) % 3 = v q then f (10 * p + q) else 0
def wS (f v : Nat → Int) (n : Nat) : Int := sm (fun p => sm (fun q => wt f v p q) n) n
def wgt (f v : Nat → Int) (p : Nat) (c : Int) (q : Nat) : Int := (if (v q + 1) % 3 = c then f (10 * q + p) else 0) + (if (v q + 2) % 3 = c then f (10 * p + q) else 0)
def wg (f v : Nat → Int) (p : Nat) (c : Int) (n : Nat) : Int := sm (wgt f v p c) n
def w60 (f : Nat → Int) : Prop := ∀ k, k < 100 → 0 ≤ f k ∧ f k ≤ 60
def way3 (v : Nat → Int) (P : Int) : Prop := ∀ i : Nat, (i : Int) < P → 0 ≤ v i ∧ v i ≤ 2
theorem wS_s {f v : Nat → Int} {n : Nat} (hv : ∀ i, i ≤ n → 0 ≤ v i ∧ v i ≤ 2) : wS f v (n + 1) = wS f v n + wg f v n (v n) n := by
  have a1 : sm (fun p => sm (fun q => wt f v p q) (n + 1)) n = wS f v n + sm (fun p => wt f v p n) n := by
    unfold wS
    rw [← sm_add]
    exact sm_cg (fun p hp => sm_s _ _)
  have a2 : sm (fun q => wt f v n q) (n + 1) = sm (fun q => wt f v n q) n := by
    rw [sm_s]
    have h := hv n (Nat.le_refl n)
    have e : wt f v n n = 0 := if_neg (by omega)
    rw [e, Int.add_zero]
  have a3 : wS f v (n + 1) = sm (fun p => sm (fun q => wt f v p q) (n + 1)) n + sm (fun q => wt f v n q) (n + 1) := rfl
  have a4 : wg f v n (v n) n = sm (fun p => wt f v p n) n + sm (fun q => wt f v n q) n := by
    rw [← sm_add]
    refine sm_cg (fun q hq => ?_)
    have h1 := hv n (Nat.le_refl n)
    have h2 := hv q (by omega)
    unfold wgt wt
    by_cases c : (v n + 1) % 3 = v q
    · rw [if_pos c, if_pos (show (v q + 2) % 3 = v n by omega)]
    · rw [if_neg c, if_neg (show ¬ (v q + 2) % 3 = v n by omega)]
  rw [a3, a1, a2, a4]; omega
theorem wt_b {f v : Nat → Int} {p q : Nat} (hf : w60 f) (hp : p < 10) (hq : q < 10) : 0 ≤ wt f v p q ∧ wt f v p q ≤ 60 := by
  have := hf (10 * p + q) (by omega)
  unfold wt
  split <;> omega
theorem wS_b {f v : Nat → Int} {n : Nat} (hf : w60 f) (hn : n ≤ 10) : 0 ≤ wS f v n ∧ wS f v n ≤ 6000 := by
  have h := sm_b (f := fun p => sm (fun q => wt f v p q) n) (c := 600) (n := n) (fun p hp => by
    have := sm_b (f := fun q => wt f v p q) (c := 60) (n := n) (fun q hq => wt_b hf (by omega) (by omega))
    omega)
  unfold wS
  omega
theorem wgt_b {f v : Nat → Int} {p q : Nat} {c : Int} (hf : w60 f) (hp : p < 10) (hq : q < 10) : 0 ≤ wgt f v p c q ∧ wgt f v p c q ≤ 120 := by
  have h1 := hf (10 * p + q) (by omega)
  have h2 := hf (10 * q + p) (by omega)
  unfold wgt
  split <;> split <;> omega
theorem wg_b {f v : Nat → Int} {p n : Nat} {c : Int} (hf : w60 f) (hp : p < 10) (hn : n ≤ 10) : 0 ≤ wg f v p c n ∧ wg f v p c n ≤ 120 * n := sm_b (fun q hq => wgt_b hf hp (by omega))
theorem wS_cg {f u v : Nat → Int} {n : Nat} (h : ∀ i, i < n → u i = v i) : wS f u n = wS f v n := by
  refine sm_cg (fun p hp => sm_cg (fun q hq => ?_))
  unfold wt
  rw [h p hp, h q hq]
theorem wS_cf {f g v : Nat → Int} {n : Nat} (hn : n ≤ 10) (h : ∀ k, k < 100 → f k = g k) : wS f v n = wS g v n := by
  refine sm_cg (fun p hp => sm_cg (fun q hq => ?_))
  unfold wt
  rw [h (10 * p + q) (by omega)]
theorem wg_cg {f u v : Nat → Int} {p n : Nat} {c : Int} (h : ∀ i, i < n → u i = v i) : wg f u p c n = wg f v p c n := by
  refine sm_cg (fun q hq => ?_)
  unfold wgt
  rw [h q hq]
def wmx (a b : Int) : Int := if a < b then b else a
def wm (f : Nat → Int) (p n : Nat) : Int := sm (fun q => wmx (f (10 * p + q)) (f (10 * q + p))) n
theorem wg_m {f v : Nat → Int} {p n : Nat} {c : Int} (hf : w60 f) (hp : p < 10) (hn : n ≤ 10) : wg f v p c n ≤ wm f p n := by
  refine sm_le (fun q hq => ?_)
  have h1 := hf (10 * p + q) (by omega)
  have h2 := hf (10 * q + p) (by omega)
  unfold wgt wmx
  by_cases c1 : (v q + 1) % 3 = c
  · rw [if_pos c1, if_neg (show ¬ (v q + 2) % 3 = c by omega)]
    split <;> omega
  · rw [if_neg c1]
    split <;> split <;> omega
theorem wm_e {f : Nat → Int} {p n a b : Int} {k1 k2 : Nat} (ha : a = f k1) (hb : b = f k2) (h1 : k1 = 10 * p.toNat + n.toNat) (h2 : k2 = 10 * n.toNat + p.toNat) (hn : 0 ≤ n) : (a < b ∧ wm f p.toNat (n + 1).toNat = wm f p.toNat n.toNat + b) ∨ (b ≤ a ∧ wm f p.toNat (n + 1).toNat = wm f p.toNat n.toNat + a) := by
  subst h1 h2
  have e : wm f p.toNat (n.toNat + 1) = wm f p.toNat n.toNat + wmx (f (10 * p.toNat + n.toNat)) (f (10 * n.toNat + p.toNat)) := rfl
  rw [show (n + 1).toNat = n.toNat + 1 by omega, e, ← ha, ← hb]
  unfold wmx
  split <;> omega
theorem zmv {F : Nat → Int} {a b x y : Int} (h : F a.toNat ≤ x) (e : b = a) (hx : x ≤ y) : F b.toNat ≤ y := by subst e; omega
theorem wm_s {f : Nat → Int} {p n x a b : Int} {k1 k2 : Nat} (ha : a = f k1) (hb : b = f k2) (h1 : k1 = 10 * p.toNat + n.toNat) (h2 : k2 = 10 * n.toNat + p.toNat) (hn : 0 ≤ n) (hx : a ≤ x ∧ b ≤ x ∧ (x = a ∨ x = b)) : wm f p.toNat (n + 1).toNat = wm f p.toNat n.toNat + x := by
  subst h1 h2
  have e : wm f p.toNat (n.toNat + 1) = wm f p.toNat n.toNat + wmx (f (10 * p.toNat + n.toNat)) (f (10 * n.toNat + p.toNat)) := rfl
  rw [show (n + 1).toNat = n.toNat + 1 by omega, e, ← ha, ← hb]
  unfold wmx
  split <;> omega
/-! what may still be added -/
def zRb (f r : Nat → Int) (P l : Int) : Prop := ∀ p : Nat, l ≤ p → (p : Int) ≤ P → ∀ v, way3 v P → wS f v P.toNat ≤ wS f v p + r p
theorem zRb_0 {f r : Nat → Int} {P l : Int} (h : zFil r 11 0) (hP : 0 ≤ P ∧ P ≤ 10) (hl : l = P) : zRb f r P l := fun p h1 h2 v _ => by
  have e : p = P.toNat := by omega
  subst e
  have := h P.toNat (by omega)
  omega
theorem zRb_pt {f r : Nat → Int} {P l x k : Int} (h : zRb f r P l) (hk : 0 ≤ k ∧ k < l) : zRb f (zPt r k.toNat x) P l := fun p h1 h2 v hv => by
  rw [zPt_ne (by omega)]
  exact h p h1 h2 v hv
theorem zRb_n {f r : Nat → Int} {P l q : Int} (h : zRb f r P (l + 1)) (hf : w60 f) (he : r l.toNat = r (l + 1).toNat + wm f l.toNat q.toNat) (hq : q = l) (hl : 0 ≤ l ∧ l < P ∧ P ≤ 10) {k : Int} (hk : k = l) : zRb f r P k := fun p h1 h2 v hv => by
  by_cases c : (p : Int) = l
  · have a := h (p + 1) (by omega) (by omega) v hv
    have b := wS_s (f := f) (v := v) (n := p) (fun i hi => hv i (by omega))
    have m := wg_m (f := f) (v := v) (p := p) (n := p) (c := v p) hf (by omega) (by omega)
    rw [hq, show l.toNat = p by omega, show (l + 1).toNat = p + 1 by omega] at he
    omega
  · exact h p (by omega) h2 v hv
/-! the order of rows -/
def wn (v : Nat → Int) : Nat → Int
  | 0 => 0
  | n + 1 => 3 * wn v n + v n
theorem wn_s (v : Nat → Int) (n : Nat) : wn v (n + 1) = 3 * wn v n + v n := rfl
theorem wn_cg {u v : Nat → Int} {n : Nat} (h : ∀ i, i < n → u i = v i) : wn u n = wn v n := by
  induction n with
  | zero => rfl
  | succ n ih => rw [wn_s, wn_s, ih (fun i hi => h i (by omega)), h n (by omega)]
theorem wn_b {v : Nat → Int} {n : Nat} (h : ∀ i, i < n → 0 ≤ v i ∧ v i ≤ 2) : 0 ≤ wn v n ∧ wn v n < 3 ^ n := by
  induction n with
  | zero => exact ⟨Int.le_refl _, by show (0 : Int) < 1; decide⟩
  | succ n ih =>
    have a := ih (fun i hi => h i (by omega))
    have b := h n (by omega)
    rw [wn_s, Int.pow_succ]
    omega
theorem wn_lt {u v : Nat → Int} {p n : Nat} (hu : ∀ i, i < n → 0 ≤ u i ∧ u i ≤ 2) (hv : ∀ i, i < n → 0 ≤ v i ∧ v i ≤ 2) (he : ∀ i, i < p → u i = v i) (hp : u p < v p) (hn : p < n) : wn u n < wn v n := by
  induction n with
  | zero => omega
  | succ n ih =>
    rw [wn_s, wn_s]
    by_cases c : p = n
    · subst c
      rw [wn_cg he]; omega
    · have a := ih (fun i hi => hu i (by omega)) (fun i hi => hv i (by omega)) (by omega)
      have b1 := hu n (by omega)
      have b2 := hv n (by omega)
      omega
theorem wn_inj {u v : Nat → Int} {n : Nat} (hu : ∀ i, i < n → 0 ≤ u i ∧ u i ≤ 2) (hv : ∀ i, i < n → 0 ≤ v i ∧ v i ≤ 2) (he : wn u n = wn v n) : ∀ i, i < n → u i = v i := by
  induction n with
  | zero => intro i hi; omega
  | succ n ih =>
    rw [wn_s, wn_s] at he
    have b1 := hu n (by omega)
    have b2 := hv n (by omega)
    intro i hi
    by_cases c : i = n
    · subst c; omega
    · exact ih (fun i hi => hu i (by omega)) (fun i hi => hv i (by omega)) (by omega) i (by omega)
/-! the search: rows that begin as told, the first way 0 -/
def zVa (P : Int) (v : Nat → Int) : Prop := way3 v P ∧ (P ≤ 0 ∨ v 0 = 0)
def zXt (P : Int) (u : Nat → Int) (p : Int) (v : Nat → Int) : Prop := zVa P v ∧ ∀ i : Nat, (i : Int) < p → v i = u i
def zXw (P : Int) (u : Nat → Int) (p w : Int) (v : Nat → Int) : Prop := zXt P u p v ∧ v p.toNat < w
def zGw (f : Nat → Int) (P : Int) (X : (Nat → Int) → Prop) (s : Int) (b : Nat → Int) (s' : Int) (b' : Nat → Int) : Prop := (s' = s ∧ b' = b ∧ ∀ v, X v → wS f v P.toNat ≤ s) ∨ (s < s' ∧ X b' ∧ wS f b' P.toNat = s' ∧ ∀ v, X v → wS f v P.toNat ≤ s' ∧ (wn v P.toNat < wn b' P.toNat → wS f v P.toNat < s'))
theorem zGw_0 {f : Nat → Int} {P p s : Int} {u b : Nat → Int} (hp : 0 ≤ p ∧ p < P) : zGw f P (zXw P u p 0) s b s b := Or.inl ⟨rfl, rfl, fun v hv => by
  have h1 := hv.1.1.1 p.toNat (by omega)
  have h2 := hv.2
  omega⟩
theorem zGw_cg {f : Nat → Int} {P s s' : Int} {X Y : (Nat → Int) → Prop} {b b' : Nat → Int} (h : zGw f P X s b s' b') (e : ∀ v, X v ↔ Y v) : zGw f P Y s b s' b' := by
  rcases h with ⟨h1, h2, h3⟩ | ⟨h1, h2, h3, h4⟩
  · exact Or.inl ⟨h1, h2, fun v hv => h3 v ((e v).mpr hv)⟩
  · exact Or.inr ⟨h1, (e _).mp h2, h3, fun v hv => h4 v ((e v).mpr hv)⟩
theorem zGw_seq {f : Nat → Int} {P s0 s s' : Int} {X Y : (Nat → Int) → Prop} {b0 b b' : Nat → Int} (h : zGw f P X s0 b0 s b) (g : zGw f P Y s b s' b') (ho : ∀ u v, X u → Y v → wn u P.toNat < wn v P.toNat) : zGw f P (fun v => X v ∨ Y v) s0 b0 s' b' := by
  rcases h with ⟨h1, h2, h3⟩ | ⟨h1, h2, h3, h4⟩
  · rcases g with ⟨g1, g2, g3⟩ | ⟨g1, g2, g3, g4⟩
    · refine Or.inl ⟨by omega, by rw [g2, h2], ?_⟩
      rintro v (hv | hv)
      · exact h3 v hv
      · have := g3 v hv; omega
    · refine Or.inr ⟨by omega, Or.inr g2, g3, ?_⟩
      rintro v (hv | hv)
      · have := h3 v hv
        exact ⟨by omega, fun _ => by omega⟩
      · exact g4 v hv
  · rcases g with ⟨g1, g2, g3⟩ | ⟨g1, g2, g3, g4⟩
    · subst g1 g2
      refine Or.inr ⟨h1, Or.inl h2, h3, ?_⟩
      rintro v (hv | hv)
      · exact h4 v hv
      · have a := g3 v hv
        have c := ho _ v h2 hv
        exact ⟨a, fun z => by omega⟩
    · refine Or.inr ⟨by omega, Or.inr g2, g3, ?_⟩
      rintro v (hv | hv)
      · have := (h4 v hv).1
        exact ⟨by omega, fun _ => by omega⟩
      · exact g4 v hv
theorem zXw_s {P p w : Int} {u u2 v : Nat → Int} (hu : ∀ i : Nat, (i : Int) < p → u2 i = u i) (h0 : 0 ≤ p) : zXw P u p (w + 1) v ↔ zXw P u p w v ∨ zXt P (zPt u2 p.toNat w) (p + 1) v := by
  constructor
  · rintro ⟨⟨h1, h2⟩, h3⟩
    by_cases c : v p.toNat < w
    · exact Or.inl ⟨⟨h1, h2⟩, c⟩
    · refine Or.inr ⟨h1, fun i hi => ?_⟩
      by_cases e : i = p.toNat
      · rw [e, zPt_eq]; omega
      · rw [zPt_ne e, hu i (by omega)]
        exact h2 i (by omega)
  · rintro (⟨h1, h2⟩ | ⟨h1, h2⟩)
    · exact ⟨h1, by omega⟩
    · refine ⟨⟨h1, fun i hi => ?_⟩, ?_⟩
      · have a := h2 i (by omega)
        rw [zPt_ne (by omega), hu i hi] at a
        exact a
      · have a := h2 p.toNat (by omega)
        rw [zPt_eq] at a
        omega
theorem zXw_o {P p w : Int} {u u2 x y : Nat → Int} (hu : ∀ i : Nat, (i : Int) < p → u2 i = u i) (h0 : 0 ≤ p ∧ p < P) (hx : zXw P u p w x) (hy : zXt P (zPt u2 p.toNat w) (p + 1) y) : wn x P.toNat < wn y P.toNat := by
  have e := hy.2 p.toNat (by omega)
  rw [zPt_eq] at e
  refine wn_lt (p := p.toNat) (fun i hi => hx.1.1.1 i (by omega)) (fun i hi => hy.1.1 i (by omega)) (fun i hi => ?_) (by have := hx.2; omega) (by omega)
  have a := hy.2 i (by omega)
  rw [zPt_ne (by omega), hu i (by omega)] at a
  rw [a]
  exact hx.1.2 i (by omega)
/-- one way more, looked into -/
theorem zGw_in {f : Nat → Int} {P p w s0 s s' : Int} {u u2 b0 b b' : Nat → Int} (h : zGw f P (zXw P u p w) s0 b0 s b) (hu : ∀ i : Nat, (i : Int) < p → u2 i = u i) (h0 : 0 ≤ p ∧ p < P) (g : zGw f P (zXt P (zPt u2 p.toNat w) (p + 1)) s b s' b') : zGw f P (zXw P u p (w + 1)) s0 b0 s' b' :=
  zGw_cg (zGw_seq h g (fun x y hx hy => zXw_o hu h0 hx hy)) (fun v => (zXw_s hu h0.1).symm)
/-- one way more, passed over -/
theorem zGw_out {f r : Nat → Int} {P p w s0 s t : Int} {u u2 b0 b : Nat → Int} (h : zGw f P (zXw P u p w) s0 b0 s b) (hu : ∀ i : Nat, (i : Int) < p → u2 i = u i) (h0 : 0 ≤ p ∧ p < P) (hr : zRb f r P 0) (ht : t = wS f (zPt u2 p.toNat w) (p + 1).toNat) (hs : t + r (p + 1).toNat ≤ s) : zGw f P (zXw P u p (w + 1)) s0 b0 s b := by
  refine zGw_in h hu h0 (Or.inl ⟨rfl, rfl, fun v hv => ?_⟩)
  have a := hr (p + 1).toNat (by omega) (by omega) v hv.1.1
  have e : wS f v (p + 1).toNat = wS f (zPt u2 p.toNat w) (p + 1).toNat := wS_cg (fun i hi => hv.2 i (by omega))
  omega
theorem zGw_e {f : Nat → Int} {P p k s0 s : Int} {u b0 b : Nat → Int} (h : zGw f P (zXw P u p k) s0 b0 s b) (h0 : 0 ≤ p ∧ p < P) (hk : k = 3 ∨ (p = 0 ∧ 1 ≤ k)) : zGw f P (zXt P u p) s0 b0 s b := zGw_cg h (fun v => ⟨fun z => z.1, fun z => ⟨z, by
  have a := z.1.1 p.toNat (by omega)
  have c := z.1.2
  rcases hk with hk | ⟨hk, hk2⟩
  · omega
  · rw [hk] at a ⊢
    have : (0 : Int).toNat = 0 := rfl
    rw [this] at a ⊢
    omega⟩⟩)
theorem zGw_l {f : Nat → Int} {P p s t : Int} {u b : Nat → Int} (hp : p = P) (h0 : 0 ≤ P) (ht : t = wS f u p.toNat) (hs : t ≤ s) : zGw f P (zXt P u p) s b s b := Or.inl ⟨rfl, rfl, fun v hv => by
  have e : wS f v P.toNat = wS f u P.toNat := wS_cg (fun i hi => hv.2 i (by omega))
  rw [hp] at ht
  omega⟩
theorem zGw_t {f : Nat → Int} {P p s t : Int} {u b b' : Nat → Int} (hp : p = P) (h0 : 0 ≤ P) (ht : t = wS f u p.toNat) (hs : s < t) (hu : way3 u P) (hz : p < 1 ∨ u 0 = 0) (hb : ∀ i : Nat, (i : Int) < P → b' i = u i) : zGw f P (zXt P u p) s b t b' := by
  subst hp
  have e : ∀ v, (∀ i : Nat, (i : Int) < p → v i = u i) → wS f v p.toNat = wS f u p.toNat := fun v hv => wS_cg (fun i hi => hv i (by omega))
  refine Or.inr ⟨hs, ⟨⟨fun i hi => by rw [hb i hi]; exact hu i hi, ?_⟩, hb⟩, by rw [e b' hb, ht], fun v hv => ⟨by rw [e v hv.2, ht]; omega, fun z => ?_⟩⟩
  · by_cases c : p ≤ 0
    · exact Or.inl c
    · refine Or.inr ?_
      have := hb 0 (by omega)
      rw [this]; omega
  · have : wn v p.toNat = wn b' p.toNat := wn_cg (fun i hi => by rw [hv.2 i (by omega), hb i (by omega)])
    omega
/-- the sum with one way more -/
theorem wS_nx {f u u2 : Nat → Int} {P p w t g y : Int} (hf : w60 f) (hu : ∀ i : Nat, (i : Int) < p → u2 i = u i) (h3 : way3 u P) (h0 : 0 ≤ p ∧ p < P ∧ P ≤ 10) (hw : 0 ≤ w ∧ w ≤ 2) (ht : t = wS f u p.toNat) (hg : g = wg f u p.toNat w p.toNat) (hy : y = t + g) : y = wS f (zPt u2 p.toNat w) (p + 1).toNat ∧ 0 ≤ y ∧ y ≤ 6000 := by
  have hv : ∀ i, i ≤ p.toNat → 0 ≤ zPt u2 p.toNat w i ∧ zPt u2 p.toNat w i ≤ 2 := by
    intro i hi
    by_cases c : i = p.toNat
    · rw [c, zPt_eq]; exact hw
    · rw [zPt_ne c, hu i (by omega)]; exact h3 i (by omega)
  have e := wS_s (f := f) hv
  have e1 : wS f (zPt u2 p.toNat w) p.toNat = wS f u p.toNat := wS_cg (fun i hi => by rw [zPt_ne (by omega), hu i (by omega)])
  have e2 : wg f (zPt u2 p.toNat w) p.toNat w p.toNat = wg f u p.toNat w p.toNat := wg_cg (fun i hi => by rw [zPt_ne (by omega), hu i (by omega)])
  rw [zPt_eq, e1, e2] at e
  have b := wS_b (f := f) (v := zPt u2 p.toNat w) (n := p.toNat + 1) hf (by omega)
  rw [show (p + 1).toNat = p.toNat + 1 by omega]
  omega
/-! gains -/
def zAg (f g : Nat → Int) (n : Int) : Prop := ∀ i : Nat, (i : Int) < n → f i = g i
theorem zAg_r {f : Nat → Int} {n : Int} : zAg f f n := fun _ _ => rfl
theorem zAg_pt {f g : Nat → Int} {n x k : Int} (h : zAg f g n) (hk : n ≤ k ∧ 0 ≤ k) : zAg (zPt f k.toNat x) g n := fun i hi => by
  rw [zPt_ne (by omega)]; exact h i hi
theorem zAg_t {f g h : Nat → Int} {n k : Int} (a : zAg f g n) (b : zAg g h k) (hk : k ≤ n) : zAg f h k := fun i hi => (a i (by omega)).trans (b i hi)
theorem zAg_m {f g : Nat → Int} {n k : Int} (a : zAg f g n) (hk : k ≤ n) : zAg f g k := fun i hi => a i (by omega)
def zGz (c : Nat → Int) (p l : Int) : Prop := ∀ j : Nat, (j : Int) < l → c (3 * p.toNat + j) = 0
theorem zGz_0 {c : Nat → Int} {p : Int} : zGz c p 0 := fun j hj => by omega
theorem zGz_s {c : Nat → Int} {p l k : Int} (h : zGz c p l) (h0 : 0 ≤ p ∧ 0 ≤ l) (hk : k = p * 3 + l) : zGz (zPt c k.toNat 0) p (l + 1) := fun j hj => by
  by_cases e : (j : Int) = l
  · rw [show 3 * p.toNat + j = k.toNat by omega, zPt_eq]
  · rw [zPt_ne (by omega)]; exact h j (by omega)
def zGn (c f v : Nat → Int) (p q : Int) : Prop := ∀ j : Nat, j < 3 → c (3 * p.toNat + j) = wg f v p.toNat (j : Int) q.toNat
theorem zGn_0 {c f v : Nat → Int} {p l : Int} (h : zGz c p l) (hl : 3 ≤ l) : zGn c f v p 0 := fun j hj => by
  rw [h j (by omega)]; rfl
theorem zGn_b {c f v : Nat → Int} {p q y k : Int} (h : zGn c f v p q) (hf : w60 f) (hy : y = c k.toNat) (hk : p * 3 ≤ k ∧ k < p * 3 + 3) (h0 : 0 ≤ p ∧ p ≤ 9 ∧ 0 ≤ q ∧ q ≤ p) : 0 ≤ y ∧ y ≤ 120 * q := by
  have e := h (k - p * 3).toNat (by omega)
  rw [show 3 * p.toNat + (k - p * 3).toNat = k.toNat by omega] at e
  have := wg_b (f := f) (v := v) (p := p.toNat) (n := q.toNat) (c := (((k - p * 3).toNat : Nat) : Int)) hf (by omega) (by omega)
  omega
theorem zGn_put {c f v : Nat → Int} {p q x x2 k1 k2 y1 y2 z1 z2 : Int} {i1 i2 : Nat} (h : zGn c f v p q) (h0 : 0 ≤ p ∧ p ≤ 9 ∧ 0 ≤ q ∧ q < p) (hx : x = v q.toNat ∧ 0 ≤ x ∧ x ≤ 2) (hx2 : x2 = x) (hk1 : k1 = p * 3 + (x + 1) % 3) (hk2 : k2 = p * 3 + (x2 + 2) % 3) (hy1 : y1 = c k1.toNat) (hz1 : z1 = f i1) (hi1 : i1 = 10 * q.toNat + p.toNat) (hy2 : y2 = zPt c k1.toNat (y1 + z1) k2.toNat) (hz2 : z2 = f i2) (hi2 : i2 = 10 * p.toNat + q.toNat) : zGn (zPt (zPt c k1.toNat (y1 + z1)) k2.toNat (y2 + z2)) f v p (q + 1) := by
  subst hx2 hi1 hi2
  obtain ⟨hx, hx0, hx1⟩ := hx
  rw [zPt_ne (by omega)] at hy2
  intro j hj
  have e : wg f v p.toNat (j : Int) (q + 1).toNat = wg f v p.toNat (j : Int) q.toNat + wgt f v p.toNat (j : Int) q.toNat := by
    rw [show (q + 1).toNat = q.toNat + 1 by omega]; rfl
  have a := h j hj
  rw [e, ← a]
  unfold wgt
  rw [← hx, ← hz1, ← hz2]
  by_cases c1 : (x2 + 1) % 3 = (j : Int)
  · rw [if_pos c1, if_neg (show ¬ (x2 + 2) % 3 = (j : Int) by omega)]
    rw [zPt_ne (by omega), show 3 * p.toNat + j = k1.toNat by omega, zPt_eq, hy1]; omega
  · rw [if_neg c1]
    by_cases c2 : (x2 + 2) % 3 = (j : Int)
    · rw [if_pos c2, show 3 * p.toNat + j = k2.toNat by omega, zPt_eq, hy2]; omega
    · rw [if_neg c2, zPt_ne (by omega), zPt_ne (by omega)]; omega
theorem zGn_at {c c2 f v : Nat → Int} {p q w y k : Int} (h : zGn c f v p q) (ha : zAg c2 c (3 * (p + 1))) (hq : q = p) (h0 : 0 ≤ p) (hw : 0 ≤ w ∧ w ≤ 2) (hk : k = p * 3 + w) (hy : y = c2 k.toNat) : y = wg f v p.toNat w p.toNat := by
  have e := h w.toNat (by omega)
  rw [hq, show ((w.toNat : Nat) : Int) = w by omega, show 3 * p.toNat + w.toNat = k.toNat by omega] at e
  rw [← e, hy]
  exact ha k.toNat (by omega)
/-! the best row of all -/
def zWb (f : Nat → Int) (P s : Int) (b : Nat → Int) : Prop := way3 b P ∧ wS f b P.toNat = s ∧ ∀ v, way3 v P → wS f v P.toNat ≤ s ∧ (wn v P.toNat < wn b P.toNat → wS f v P.toNat < s)
def wrt (v : Nat → Int) (i : Nat) : Int := (v i + (3 - v 0)) % 3
theorem wS_rt {f v : Nat → Int} {P : Int} (h : way3 v P) : wS f (wrt v) P.toNat = wS f v P.toNat := by
  refine sm_cg (fun p hp => sm_cg (fun q hq => ?_))
  have h0 := h 0 (by omega)
  have h1 := h p (by omega)
  have h2 := h q (by omega)
  unfold wt wrt
  by_cases c : (v p + 1) % 3 = v q
  · rw [if_pos c, if_pos (by omega)]
  · rw [if_neg c, if_neg (by omega)]
theorem zWb_c {f : Nat → Int} {P s' : Int} {u b b' : Nat → Int} (hf : w60 f) (hP : 0 ≤ P ∧ P ≤ 10) (h : zGw f P (zXt P u 0) (-1) b s' b') : zWb f P s' b' := by
  rcases h with ⟨h1, h2, h3⟩ | ⟨h1, h2, h3, h4⟩
  · exfalso
    have a := h3 (fun _ => 0) ⟨⟨fun i _ => ⟨Int.le_refl _, by show (0 : Int) ≤ 2; decide⟩, Or.inr rfl⟩, fun i hi => by omega⟩
    have b := wS_b (f := f) (v := fun _ => 0) (n := P.toNat) hf (by omega)
    omega
  · refine ⟨h2.1.1, h3, fun v hv => ⟨?_, fun z => ?_⟩⟩
    · have a := (h4 (wrt v) ⟨⟨fun i hi => by unfold wrt; omega, by
        by_cases c : P ≤ 0
        · exact Or.inl c
        · have := hv 0 (by omega)
          exact Or.inr (by unfold wrt; omega)⟩, fun i hi => by omega⟩).1
      rw [wS_rt hv] at a
      exact a
    · by_cases c : P ≤ 0 ∨ v 0 = 0
      · exact (h4 v ⟨⟨hv, c⟩, fun i hi => by omega⟩).2 z
      · exfalso
        have c0 := hv 0 (by omega)
        have c1 := h2.1.2
        have := wn_lt (u := b') (v := v) (p := 0) (n := P.toNat) (fun i hi => h2.1.1 i (by omega)) (fun i hi => hv i (by omega)) (fun i hi => by omega) (by omega) (by omega)
        omega
theorem zWb_un {f : Nat → Int} {P s t : Int} {b c : Nat → Int} (h : zWb f P s b) (g : zWb f P t c) : s = t ∧ ∀ i : Nat, (i : Int) < P → b i = c i := by
  have a := h.2.2 c g.1
  have d := g.2.2 b h.1
  have e1 := h.2.1
  have e2 := g.2.1
  have st : s = t := by omega
  have ew : wn b P.toNat = wn c P.toNat := by
    rcases Int.lt_trichotomy (wn b P.toNat) (wn c P.toNat) with q | q | q
    · have := d.2 q; omega
    · exact q
    · have := a.2 q; omega
  exact ⟨st, fun i hi => wn_inj (fun i hi => h.1 i (by omega)) (fun i hi => g.1 i (by omega)) ew i (by omega)⟩
theorem zWb_cf {f g : Nat → Int} {P s : Int} {b : Nat → Int} (hP : P ≤ 10) (e : ∀ k, k < 100 → f k = g k) (h : zWb f P s b) : zWb g P s b := by
  have q : ∀ v, wS f v P.toNat = wS g v P.toNat := fun v => wS_cf (by omega) e
  refine ⟨h.1, by rw [← q]; exact h.2.1, fun v hv => ?_⟩
  rw [← q]; exact h.2.2 v hv
def zWa (f : Nat → Int) (P w r : Int) : Prop := (r = -2 ∧ (w < -1 ∨ P ≤ w)) ∨ ((-1 ≤ w ∧ w < P) ∧ ∃ s b, zWb f P s b ∧ ((w = -1 ∧ r = s) ∨ (0 ≤ w ∧ r = b w.toNat)))
theorem zWa_un {f g : Nat → Int} {P w r r2 : Int} (hP : P ≤ 10 ∧ 0 ≤ P) (e : ∀ k, k < 100 → f k = g k) (h : zWa f P w r) (k : zWa g P w r2) : r = r2 := by
  rcases h with ⟨h1, h2⟩ | ⟨h1, s, b, h2, h3⟩
  · rcases k with ⟨k1, k2⟩ | ⟨k1, s2, b2, k2, k3⟩
    · omega
    · clear k3; omega
  · rcases k with ⟨k1, k2⟩ | ⟨k1, s2, b2, k2, k3⟩
    · clear h3; omega
    · obtain ⟨e1, e2⟩ := zWb_un (zWb_cf hP.1 e h2) k2
      rcases h3 with ⟨h3, h4⟩ | ⟨h3, h4⟩
      · rcases k3 with ⟨k3, k4⟩ | ⟨k3, k4⟩ <;> omega
      · rcases k3 with ⟨k3, k4⟩ | ⟨k3, k4⟩
        · omega
        · rw [h4, k4]; exact e2 _ (by omega)
/-! the reference: wins, rows -/
def wnu (A B C U : Nat → Int) (k : Int) : Nat → Int
  | 0 => 0
  | n + 1 => wnu A B C U k n + (if U n = 0 ∧ C n ≠ 1 ∧ wix A B C n = k then 1 else 0)
theorem wnu_s (A B C U : Nat → Int) (k : Int) (n : Nat) : wnu A B C U k (n + 1) = wnu A B C U k n + (if U n = 0 ∧ C n ≠ 1 ∧ wix A B C n = k then 1 else 0) := rfl
theorem wnu_le (A B C U : Nat → Int) (k : Int) (n : Nat) : 0 ≤ wnu A B C U k n ∧ wnu A B C U k n ≤ n := by
  induction n with
  | zero => exact ⟨Int.le_refl _, Int.le_refl _⟩
  | succ n ih =>
    rw [wnu_s]
    split <;> omega
theorem wnv_u {A B C A' B' C' U : Nat → Int} {v k : Int} {n : Nat} (h1 : ∀ i, i < n → A' i = A i) (h2 : ∀ i, i < n → B' i = B i) (h3 : ∀ i, i < n → C' i = C i) (h4 : ∀ i, i < n → U i = zbt v i) : wnv A B C v k n = wnu A' B' C' U k n := by
  induction n with
  | zero => rfl
  | succ n ih =>
    rw [wnv_s, wnu_s, ih (fun i hi => h1 i (by omega)) (fun i hi => h2 i (by omega)) (fun i hi => h3 i (by omega)) (fun i hi => h4 i (by omega))]
    unfold wix
    rw [h1 n (by omega), h2 n (by omega), h3 n (by omega), h4 n (by omega)]
def zWu (f g : Nat → Int) (n : Int) : Prop := ∀ k : Nat, k < 100 → f k = wnu (fun i => g (91 + 6 * i)) (fun i => g (92 + 6 * i)) (fun i => g (93 + 6 * i)) (fun i => g (94 + 6 * i)) (k : Int) n.toNat
theorem zWu_0 {f g : Nat → Int} {l : Int} (h : zFil f l 0) (hl : 100 ≤ l) : zWu f g 0 := fun k hk => h k (by omega)
theorem zWu_le {f g : Nat → Int} {n : Int} {k : Nat} (h : zWu f g n) (h0 : 0 ≤ n) (hk : k < 100) : f k ≤ n := by
  rw [h k hk]
  have := wnu_le (fun i => g (91 + 6 * i)) (fun i => g (92 + 6 * i)) (fun i => g (93 + 6 * i)) (fun i => g (94 + 6 * i)) (k : Int) n.toNat
  omega
theorem zWu_skip {f g : Nat → Int} {n : Int} (h : zWu f g n) (h0 : 0 ≤ n) (hs : g (94 + 6 * n.toNat) ≠ 0 ∨ g (93 + 6 * n.toNat) = 1) : zWu f g (n + 1) := by
  intro k hk
  rw [show (n + 1).toNat = n.toNat + 1 by omega, wnu_s, if_neg (by omega), h k hk, Int.add_zero]
theorem zWu_put {f g : Nat → Int} {n K x : Int} (h : zWu f g n) (h0 : 0 ≤ n) (hz : g (94 + 6 * n.toNat) = 0) (he : g (93 + 6 * n.toNat) ≠ 1) (hK : (g (93 + 6 * n.toNat) = 2 ∧ K = g (91 + 6 * n.toNat) * 10 + g (92 + 6 * n.toNat)) ∨ (g (93 + 6 * n.toNat) ≠ 2 ∧ K = g (92 + 6 * n.toNat) * 10 + g (91 + 6 * n.toNat))) (hK2 : 0 ≤ K ∧ K < 100) (hx : x = f K.toNat) : zWu (zPt f K.toNat (x + 1)) g (n + 1) := by
  intro k hk
  have hw : wix (fun i => g (91 + 6 * i)) (fun i => g (92 + 6 * i)) (fun i => g (93 + 6 * i)) n.toNat = K := by
    unfold wix
    rcases hK with ⟨a, b⟩ | ⟨a, b⟩
    · rw [if_pos a, b]
    · rw [if_neg a, b]
  rw [show (n + 1).toNat = n.toNat + 1 by omega, wnu_s, hw]
  by_cases e : k = K.toNat
  · rw [e, zPt_eq, hx, if_pos ⟨hz, he, by omega⟩, h K.toNat (by omega)]
  · rw [zPt_ne e, if_neg (by omega), h k hk, Int.add_zero]
theorem w60_u {f g : Nat → Int} {n : Int} (h : zWu f g n) (h0 : 0 ≤ n ∧ n ≤ 60) : w60 f := fun k hk => by
  rw [h k hk]
  have := wnu_le (fun i => g (91 + 6 * i)) (fun i => g (92 + 6 * i)) (fun i => g (93 + 6 * i)) (fun i => g (94 + 6 * i)) (k : Int) n.toNat
  omega
theorem w60_n {f A B C : Nat → Int} {v n : Int} (h : zWn f A B C v n) (h0 : 0 ≤ n ∧ n ≤ 60) : w60 f := fun k hk => by
  rw [h k hk]
  have := wnv_le A B C v (k : Int) n.toNat
  omega
/-! powers of three, digits -/
def lf (r : Nat) : Nat → Nat
  | 0 => r
  | k + 1 => lf r k / 3
theorem lf_s (r k : Nat) : lf r (k + 1) = lf r k / 3 := rfl
theorem lf_3 (r k : Nat) : lf r (k + 1) = lf (r / 3) k := by
  induction k with
  | zero => rfl
  | succ k ih => rw [lf_s, ih, lf_s]
theorem lf_0 {P r : Nat} (h : (r : Int) < 3 ^ P) : lf r P = 0 := by
  induction P generalizing r with
  | zero =>
    have : (3 : Int) ^ 0 = 1 := rfl
    show r = 0
    omega
  | succ P ih =>
    rw [lf_3]
    refine ih ?_
    rw [Int.pow_succ] at h
    omega
theorem wn_lf {v : Nat → Int} {r P n : Nat} (h : (r : Int) < 3 ^ P) (hv : ∀ j, j < P → v j = ((lf r (P - 1 - j) % 3 : Nat) : Int)) (hn : n ≤ P) : wn v n = ((lf r (P - n) : Nat) : Int) := by
  induction n with
  | zero =>
    rw [Nat.sub_zero, lf_0 h]; rfl
  | succ n ih =>
    rw [wn_s, ih (by omega), hv n (by omega), show P - n = (P - 1 - n) + 1 by omega, lf_s, show P - (n + 1) = P - 1 - n by omega]
    omega
def p3 (n : Nat) : Int := 3 ^ n
theorem p3_b : ∀ n : Fin 11, 1 ≤ (3 : Int) ^ n.val ∧ (3 : Int) ^ n.val ≤ 59049 := by decide
theorem p3_s {n P : Int} (h : 0 ≤ n ∧ n < P ∧ P ≤ 10) : p3 (n + 1).toNat = p3 n.toNat * 3 ∧ (1 ≤ p3 n.toNat ∧ p3 n.toNat ≤ 59049) ∧ p3 (n + 1).toNat ≤ 59049 := by
  have a := p3_b ⟨n.toNat, by omega⟩
  have b := p3_b ⟨(n + 1).toNat, by omega⟩
  refine ⟨?_, a, b.2⟩
  unfold p3
  rw [show (n + 1).toNat = n.toNat + 1 by omega, Int.pow_succ]
/-- the digits written so far, from the last on -/
def zDg (r P x l : Int) (v : Nat → Int) : Prop := x = ((lf r.toNat (P - 1 - l).toNat : Nat) : Int) ∧ ∀ j : Nat, l < (j : Int) → (j : Int) < P → v j = ((lf r.toNat (P.toNat - 1 - j) % 3 : Nat) : Int)
theorem zDg_0 {r P l : Int} {v : Nat → Int} (hr : 0 ≤ r) (hl : l = P - 1) : zDg r P r l v := by
  subst hl
  refine ⟨?_, fun j h1 h2 => by omega⟩
  rw [show (P - 1 - (P - 1)).toNat = 0 by omega]
  show r = ((r.toNat : Nat) : Int)
  omega
theorem zDg_s {r P x l l2 : Int} {v : Nat → Int} (h : zDg r P x l v) (h0 : 0 ≤ l ∧ l < P) (h2 : l2 = l + -1) : zDg r P (x / 3) l2 (zPt v l.toNat (x % 3)) := by
  subst h2
  obtain ⟨h1, h3⟩ := h
  have e : (P - 1 - (l + -1)).toNat = (P - 1 - l).toNat + 1 := by omega
  refine ⟨?_, fun j j1 j2 => ?_⟩
  · rw [e, lf_s, h1]; omega
  · by_cases c : j = l.toNat
    · rw [c, zPt_eq, h1, show P.toNat - 1 - l.toNat = (P - 1 - l).toNat by omega]; omega
    · rw [zPt_ne c]; exact h3 j (by omega) j2
theorem zDg_e {r P x l : Int} {v : Nat → Int} (h : zDg r P x l v) (hl : l < 0) (hr : 0 ≤ r ∧ r < p3 P.toNat) : way3 v P ∧ wn v P.toNat = r := by
  refine ⟨fun i hi => ?_, ?_⟩
  · rw [h.2 i (by omega) hi]; omega
  · rw [wn_lf (r := r.toNat) (P := P.toNat) (by have := hr.2; unfold p3 at this; omega) (fun j hj => h.2 j (by omega) (by omega)) (Nat.le_refl _), Nat.sub_self]
    show ((r.toNat : Nat) : Int) = r
    omega
/-- of all rows before r the best, the first of them -/
def zWw (f : Nat → Int) (P r best most : Int) : Prop := (r = 0 ∧ most = -1) ∨ ∃ b, way3 b P ∧ wn b P.toNat = best ∧ best < r ∧ wS f b P.toNat = most ∧ ∀ v, way3 v P → wn v P.toNat < r → wS f v P.toNat ≤ most ∧ (wn v P.toNat < best → wS f v P.toNat < most)
theorem zWw_0 {f : Nat → Int} {P b : Int} : zWw f P 0 b (-1) := Or.inl ⟨rfl, rfl⟩
theorem zWw_s {f v : Nat → Int} {P r best most s b2 m2 : Int} (h : zWw f P r best most) (hv : way3 v P ∧ wn v P.toNat = r) (hs : s = wS f v P.toNat) (h0 : 0 ≤ s) (hb : (most < s ∧ b2 = r ∧ m2 = s) ∨ (s ≤ most ∧ b2 = best ∧ m2 = most)) : zWw f P (r + 1) b2 m2 := by
  have key : ∀ u, way3 u P → wn u P.toNat = r → wS f u P.toNat = s := fun u hu e => by
    rw [hs]
    exact wS_cg (fun i hi => wn_inj (fun i hi => hu i (by omega)) (fun i hi => hv.1 i (by omega)) (by rw [e, hv.2]) i hi)
  rcases h with ⟨h1, h2⟩ | ⟨b, h1, h2, h3, h4, h5⟩
  · rcases hb with ⟨x1, x2, x3⟩ | ⟨x1, x2, x3⟩
    · refine Or.inr ⟨v, hv.1, by rw [hv.2, x2], by omega, by rw [← hs, x3], fun u hu e => ?_⟩
      have nn := wn_b (v := u) (n := P.toNat) (fun i hi => hu i (by omega))
      rw [key u hu (by omega)]
      exact ⟨by omega, fun z => by omega⟩
    · omega
  · rcases hb with ⟨x1, x2, x3⟩ | ⟨x1, x2, x3⟩
    · refine Or.inr ⟨v, hv.1, by rw [hv.2, x2], by omega, by rw [← hs, x3], fun u hu e => ?_⟩
      by_cases c : wn u P.toNat = r
      · rw [key u hu c]
        exact ⟨by omega, fun z => by omega⟩
      · have := (h5 u hu (by omega)).1
        exact ⟨by omega, fun _ => by omega⟩
    · refine Or.inr ⟨b, h1, by rw [h2, x2], by omega, by rw [h4, x3], fun u hu e => ?_⟩
      by_cases c : wn u P.toNat = r
      · rw [key u hu c]
        exact ⟨by omega, fun z => by omega⟩
      · have := h5 u hu (by omega)
        rw [x2, x3]; exact this
theorem zWw_e {f : Nat → Int} {P r best most : Int} (h : zWw f P r best most) (hr : r = p3 P.toNat) : ∃ b, zWb f P most b ∧ best = wn b P.toNat := by
  have p : (0 : Int) < p3 P.toNat := Int.pow_pos (by decide)
  rcases h with ⟨h1, h2⟩ | ⟨b, h1, h2, h3, h4, h5⟩
  · omega
  · refine ⟨b, ⟨h1, h4, fun v hv => ?_⟩, h2.symm⟩
    have := wn_b (v := v) (n := P.toNat) (fun i hi => hv i (by omega))
    have q : p3 P.toNat = 3 ^ P.toNat := rfl
    rw [h2]
    exact h5 v hv (by omega)
/-- a row taken down to a place -/
def zWe (f : Nat → Int) (P x l : Int) : Prop := ∃ s b, zWb f P s b ∧ x = wn b (l + 1).toNat
theorem zWe_0 {f : Nat → Int} {P r best most l : Int} (h : zWw f P r best most) (hr : r = p3 P.toNat) (hl : l = P - 1) : zWe f P best l := by
  obtain ⟨b, h1, h2⟩ := zWw_e h hr
  exact ⟨most, b, h1, by rw [h2, hl, show P - 1 + 1 = P by omega]⟩
theorem zWe_s {f : Nat → Int} {P x l l2 : Int} (h : zWe f P x l) (h0 : 0 ≤ l ∧ l < P) (h2 : l2 = l + -1) : zWe f P (x / 3) l2 := by
  obtain ⟨s, b, h1, h3⟩ := h
  refine ⟨s, b, h1, ?_⟩
  have := h1.1 l.toNat (by omega)
  rw [show (l + 1).toNat = l.toNat + 1 by omega, wn_s] at h3
  rw [h2, show (l + -1 + 1).toNat = l.toNat by omega]
  omega
theorem zWe_e {f : Nat → Int} {P x l w r : Int} (h : zWe f P x l) (hl : l = w) (hw : 0 ≤ w ∧ w < P) (hr : r = x % 3) : zWa f P w r := by
  obtain ⟨s, b, h1, h3⟩ := h
  have := h1.1 w.toNat (by omega)
  rw [hl, show (w + 1).toNat = w.toNat + 1 by omega, wn_s] at h3
  exact Or.inr ⟨by omega, s, b, h1, Or.inr ⟨hw.1, by omega⟩⟩
theorem zWa_m {f : Nat → Int} {P r best most w y : Int} (h : zWw f P r best most) (hr : r = p3 P.toNat) (hw : w = -1) (hP : 0 ≤ P) (hy : y = most) : zWa f P w y := by
  obtain ⟨b, h1, h2⟩ := zWw_e h hr
  exact Or.inr ⟨by omega, most, b, h1, Or.inl ⟨hw, hy⟩⟩
/-- the reference's double sum, step by step -/
def wr2 (f v : Nat → Int) (p n : Nat) : Int := sm (fun q => wt f v p q) n
def wr1 (f v : Nat → Int) (P n : Nat) : Int := sm (fun p => wr2 f v p P) n
theorem wr1_S (f v : Nat → Int) (P : Nat) : wr1 f v P P = wS f v P := rfl
theorem wr1_s (f v : Nat → Int) (P : Nat) (n : Int) (h : 0 ≤ n) : wr1 f v P (n + 1).toNat = wr1 f v P n.toNat + wr2 f v n.toNat P := by
  rw [show (n + 1).toNat = n.toNat + 1 by omega]; rfl
theorem wr2_s {f v : Nat → Int} {p n x y : Int} (h0 : 0 ≤ p ∧ 0 ≤ n) (hx : x = v p.toNat) (hy : y = v n.toNat) : ((x + 1) % 3 = y ∧ wr2 f v p.toNat (n + 1).toNat = wr2 f v p.toNat n.toNat + f (10 * p + n).toNat) ∨ ((x + 1) % 3 ≠ y ∧ wr2 f v p.toNat (n + 1).toNat = wr2 f v p.toNat n.toNat) := by
  have e : wr2 f v p.toNat (n.toNat + 1) = wr2 f v p.toNat n.toNat + wt f v p.toNat n.toNat := rfl
  rw [show (n + 1).toNat = n.toNat + 1 by omega, e, hx, hy]
  unfold wt
  by_cases c : (v p.toNat + 1) % 3 = v n.toNat
  · rw [if_pos c, show 10 * p.toNat + n.toNat = (10 * p + n).toNat by omega]; exact Or.inl ⟨c, rfl⟩
  · rw [if_neg c, Int.add_zero]; exact Or.inr ⟨c, rfl⟩
theorem zGn_w {c f v : Nat → Int} {p q w y k : Int} (h : zGn c f v p q) (hq : q = p) (h0 : 0 ≤ p) (hw : 0 ≤ w ∧ w ≤ 2) (hk : k = p * 3 + w) (hy : y = c k.toNat) : y = wg f v p.toNat w p.toNat := zGn_at h zAg_r hq h0 hw hk hy
theorem zGn_k {c c2 f v : Nat → Int} {p q : Int} (h : zGn c f v p q) (ha : zAg c2 c (3 * (p + 1))) (h0 : 0 ≤ p) : zGn c2 f v p q := fun j hj => by
  rw [ha (3 * p.toNat + j) (by omega)]; exact h j hj
theorem zAg_q {n u2 u : Nat → Int} {p w : Int} (a : zAg n (zPt u2 p.toNat w) (p + 1)) (b : zAg u2 u p) : zAg n u p := fun i hi => by
  rw [a i (by omega), zPt_ne (by omega)]; exact b i hi
theorem zW0 {u2 u : Nat → Int} {p w : Int} (a : zAg u2 u p) (hz : p < 1 ∨ u 0 = 0) (hw : 1 ≤ p ∨ w = 0) (h0 : 0 ≤ p) : p + 1 < 1 ∨ zPt u2 p.toNat w 0 = 0 := by
  refine Or.inr ?_
  by_cases c : p = 0
  · subst c
    have : zPt u2 (Int.toNat 0) w 0 = w := zPt_eq
    rw [this]; omega
  · rw [zPt_ne (by omega), a 0 (by omega)]; omega
theorem zWn_i {A B C : Nat → Int} {v n : Int} : zWn (fun k => wnv A B C v (k : Int) n.toNat) A B C v n := fun _ _ => rfl
theorem zWu_i {g : Nat → Int} {n : Int} : zWu (fun k => wnu (fun i => g (91 + 6 * i)) (fun i => g (92 + 6 * i)) (fun i => g (93 + 6 * i)) (fun i => g (94 + 6 * i)) (k : Int) n.toNat) g n := fun _ _ => rfl
