/-! ropes: level by level down, each time the least -/
def mts (A B U V : Nat → Int) (n : Int) (i a b : Nat) : Prop := (i : Int) < n ∧ U i = 0 ∧ V i = 0 ∧ ((A i = a ∧ B i = b) ∨ (B i = a ∧ A i = b))
def nxs (ed : Nat → Nat → Prop) (p k a q : Nat) : Prop := (lv ed p k q ∧ ed a q) ∧ ∀ r, r < q → ¬ (lv ed p k r ∧ ed a r)
theorem nxs_un {ed : Nat → Nat → Prop} {p k a q r : Nat} (h : nxs ed p k a q) (g : nxs ed p k a r) : q = r := by
  rcases Nat.lt_trichotomy q r with e | e | e
  · exact absurd h.1 (g.2 q e)
  · exact e
  · exact absurd g.1 (h.2 r e)
def pth (ed : Nat → Nat → Prop) (p L a : Nat) : Nat → Nat → Prop
  | 0 => fun b => b = a
  | i + 1 => fun b => ∃ c, pth ed p L a i c ∧ nxs ed p (L - i - 1) c b
theorem pth_0 {ed : Nat → Nat → Prop} {p L a : Nat} : pth ed p L a 0 a := rfl
theorem pth_s {ed : Nat → Nat → Prop} {p L a i b c : Nat} (h : pth ed p L a i c) (g : nxs ed p (L - i - 1) c b) : pth ed p L a (i + 1) b := ⟨c, h, g⟩
theorem pth_un {ed : Nat → Nat → Prop} {p L a i b c : Nat} (h : pth ed p L a i b) (g : pth ed p L a i c) : b = c := by
  induction i generalizing b c with
  | zero =>
    have h1 : b = a := h
    have g1 : c = a := g
    rw [h1, g1]
  | succ i ih =>
    obtain ⟨x, hx, hn⟩ := h
    obtain ⟨y, hy, gn⟩ := g
    rw [ih hx hy] at hn
    exact nxs_un hn gn
theorem pth_lv {ed : Nat → Nat → Prop} {p L a i b : Nat} (hl : lv ed p L a) (h : pth ed p L a i b) : lv ed p (L - i) b := by
  cases i with
  | zero =>
    have h1 : b = a := h
    rw [h1]; exact hl
  | succ i =>
    obtain ⟨x, hx, hn⟩ := h
    exact hn.1.1
def rpv (ed : Nat → Nat → Prop) (M : Nat → Nat → Nat → Prop) (p L a w : Nat) (r : Int) : Prop := ∃ b c, pth ed p L a w b ∧ nxs ed p (L - w - 1) b c ∧ M r.toNat b c ∧ ∀ i, i < r.toNat → ¬ M i b c
theorem rpv_un {ed : Nat → Nat → Prop} {M : Nat → Nat → Nat → Prop} {p L a w : Nat} {r s : Int} (hr : 0 ≤ r) (hs : 0 ≤ s) (h : rpv ed M p L a w r) (g : rpv ed M p L a w s) : r = s := by
  obtain ⟨b, c, h1, h2, h3, h4⟩ := h
  obtain ⟨b2, c2, g1, g2, g3, g4⟩ := g
  rw [← pth_un h1 g1] at g2 g3 g4
  rw [← nxs_un h2 g2] at g3 g4
  rcases Nat.lt_trichotomy r.toNat s.toNat with e | e | e
  · exact absurd h3 (g4 _ e)
  · omega
  · exact absurd g3 (h4 _ e)
def rop (ed : Nat → Nat → Prop) (M : Nat → Nat → Nat → Prop) (P a b w r : Int) : Prop := (r = -10 ∧ (a < 0 ∨ P ≤ a ∨ b < 0 ∨ P ≤ b ∨ w < -1)) ∨ ((0 ≤ a ∧ a < P ∧ 0 ≤ b ∧ b < P ∧ -1 ≤ w) ∧ ((r = -5 ∧ ∀ j, j < 10 → ¬ lv ed b.toNat j a.toNat) ∨ ∃ L : Nat, L < 10 ∧ lv ed b.toNat L a.toNat ∧ ((w = -1 ∧ r = L) ∨ (r = -5 ∧ (L : Int) ≤ w) ∨ ((0 ≤ w ∧ w < L ∧ 0 ≤ r) ∧ rpv ed M b.toNat L a.toNat w.toNat r))))
theorem rop_un {ed : Nat → Nat → Prop} {M : Nat → Nat → Nat → Prop} {P a b w r s : Int} (h : rop ed M P a b w r) (g : rop ed M P a b w s) : r = s := by
  rcases h with ⟨h1, h2⟩ | ⟨h1, h2⟩
  · rcases g with ⟨g1, g2⟩ | ⟨g1, g2⟩
    · omega
    · clear g2; omega
  · rcases g with ⟨g1, g2⟩ | ⟨g1, g2⟩
    · clear h2; omega
    · rcases h2 with ⟨h2, h3⟩ | ⟨L, h2, h3, h4⟩
      · rcases g2 with ⟨g2, g3⟩ | ⟨K, g2, g3, g4⟩
        · omega
        · exact absurd g3 (h3 K g2)
      · rcases g2 with ⟨g2, g3⟩ | ⟨K, g2, g3, g4⟩
        · exact absurd h3 (g3 L h2)
        · have e := lv_un h3 g3
          subst e
          rcases h4 with h4 | h4 | ⟨h4, h5⟩
          · rcases g4 with g4 | g4 | ⟨g4, g5⟩ <;> omega
          · rcases g4 with g4 | g4 | ⟨g4, g5⟩ <;> omega
          · rcases g4 with g4 | g4 | ⟨g4, g5⟩
            · omega
            · omega
            · exact rpv_un h4.2.2 g4.2.2 h5 g5
/-! the class: who is nearer -/
def zNq (lk f : Nat → Int) (a l : Int) : Prop := ∀ q : Nat, (q : Int) < l → ¬ (zbt (lk a.toNat) q = 1 ∧ f q = f a.toNat - 1)
theorem zNq_0 {lk f : Nat → Int} {a : Int} : zNq lk f a 0 := fun q hq => by omega
theorem zNq_s {lk f : Nat → Int} {a l : Int} (h : zNq lk f a l) (h0 : 0 ≤ l) (hn : ¬ (zbt (lk a.toNat) l.toNat = 1 ∧ f l.toNat = f a.toNat - 1)) : zNq lk f a (l + 1) := fun q hq => by
  by_cases c : (q : Int) < l
  · exact h q c
  · rw [show q = l.toNat by omega]; exact hn
def zNr (lk f : Nat → Int) (P a r : Int) : Prop := (((0 ≤ r ∧ r < P) ∧ zbt (lk a.toNat) r.toNat = 1 ∧ f r.toNat = f a.toNat - 1) ∧ zNq lk f a r) ∨ (r = a ∧ zNq lk f a P)
def zLp (f6 f7 : Nat → Int) (v w a b : Int) (i : Nat) : Prop := (zbt v i = 0 ∧ zbt w i = 0) ∧ (f6 i = a ∨ f7 i = a) ∧ (f6 i = b ∨ f7 i = b)
def zLl (f6 f7 : Nat → Int) (v w a b l : Int) : Prop := ∀ q : Nat, (q : Int) < l → ¬ zLp f6 f7 v w a b q
theorem zLl_0 {f6 f7 : Nat → Int} {v w a b : Int} : zLl f6 f7 v w a b 0 := fun q hq => by omega
theorem zLl_s {f6 f7 : Nat → Int} {v w a b l x n : Int} (h : zLl f6 f7 v w a b l) (hy : zSy x v w n) (h0 : 0 ≤ l ∧ l < n ∧ n ≤ 60) (hn : zbt x l.toNat = 0 ∨ (f6 l.toNat ≠ a ∧ f7 l.toNat ≠ a) ∨ (f6 l.toNat ≠ b ∧ f7 l.toNat ≠ b)) : zLl f6 f7 v w a b (l + 1) := fun q hq => by
  by_cases c : (q : Int) < l
  · exact h q c
  · rw [show q = l.toNat by omega]
    rintro ⟨z1, z2, z3⟩
    have := (hy l.toNat (by omega)).mpr ⟨by omega, z1⟩
    omega
def zLz (f6 f7 : Nat → Int) (v w n a b r : Int) : Prop := ((0 ≤ r ∧ r < n) ∧ zLp f6 f7 v w a b r.toNat ∧ zLl f6 f7 v w a b r) ∨ (r = -5 ∧ zLl f6 f7 v w a b n)
theorem zLz_f {f6 f7 : Nat → Int} {v w n a b r x : Int} (h : zLl f6 f7 v w a b r) (hy : zSy x v w n) (h0 : 0 ≤ r ∧ r < n ∧ n ≤ 60) (hb : zbt x r.toNat = 1) (ha : f6 r.toNat = a ∨ f7 r.toNat = a) (hc : f6 r.toNat = b ∨ f7 r.toNat = b) : zLz f6 f7 v w n a b r := Or.inl ⟨⟨h0.1, h0.2.1⟩, ⟨((hy r.toNat (by omega)).mp hb).2, ha, hc⟩, h⟩
/-! what stands behind a measure -/
def zRd (lk f6 f7 : Nat → Int) (v w n P p : Int) (f : Nat → Int) : Prop := zFa (edp f6 f7 v w n (-1) P) p P f ∧ ∀ r q : Nat, (r : Int) < P → (zbt (lk r) q = 1 ↔ eds f6 f7 v w n (-1) r q)
theorem zRd_mk {lk f6 f7 f : Nat → Int} {x v w n P p : Int} (h0 : zSy x v w n) (h1 : zLk lk f6 f7 x n) (h2 : zFa (edk lk P) p P f) (hP : P ≤ 10) (hn : n ≤ 60) : zRd lk f6 f7 v w n P p f := by
  have e := edk_p h0 h1 hP hn
  refine ⟨by rw [← e]; exact h2, fun r q hr => ?_⟩
  have e2 : edk lk P r q = edp f6 f7 v w n (-1) P r q := by rw [e]
  constructor
  · intro z
    have : edk lk P r q := ⟨hr, z⟩
    rw [e2] at this
    exact this.2
  · intro z
    have : edp f6 f7 v w n (-1) P r q := ⟨hr, z⟩
    rw [← e2] at this
    exact this.2
theorem eds_sy {f6 f7 : Nat → Int} {v w n o : Int} {r q : Nat} (h : eds f6 f7 v w n o r q) : eds f6 f7 v w n o q r := by
  obtain ⟨i, a, b, c, d, e⟩ := h
  exact ⟨i, a, b, c, d, by rcases e with ⟨x, y⟩ | ⟨x, y⟩; exact Or.inr ⟨y, x⟩; exact Or.inl ⟨y, x⟩⟩
theorem edp_lt {f6 f7 : Nat → Int} {v w n P : Int} {r q : Nat} (hp : zPl f6 f7 n P) (hn : n ≤ 60) (h : eds f6 f7 v w n (-1) r q) : (r : Int) < P ∧ (q : Int) < P := by
  obtain ⟨i, a, b, c, d, e⟩ := h
  have := hp i (by omega) a
  omega
def zEc (f6 f7 : Nat → Int) (v w n P : Int) : Nat → Nat → Prop := edp f6 f7 v w n (-1) P
def zMc (f6 f7 : Nat → Int) (v w n : Int) : Nat → Nat → Nat → Prop := mts f6 f7 (zbt v) (zbt w) n
theorem zRd_at {lk f6 f7 f : Nat → Int} {v w n P p a : Int} {k : Nat} (h : zRd lk f6 f7 v w n P p f) (hl : lv (zEc f6 f7 v w n P) p.toNat k a.toNat) (ha : 0 ≤ a ∧ a < P) (hk : k < 10) : f a.toNat = k := by
  rcases h.1 a.toNat (by omega) with ⟨_, y⟩ | ⟨j, _, y, l⟩
  · exact absurd hl (y k hk)
  · rw [y, lv_un l hl]
theorem nr_c {lk f6 f7 f : Nat → Int} {v w n P p a r : Int} {k : Nat} (h : zRd lk f6 f7 v w n P p f) (hp : zPl f6 f7 n P) (hN : zNr lk f P a r) (hl : lv (zEc f6 f7 v w n P) p.toNat (k + 1) a.toNat) (ha : 0 ≤ a ∧ a < P) (hk : k < 9) (hn : n ≤ 60) : (0 ≤ r ∧ r < P) ∧ nxs (zEc f6 f7 v w n P) p.toNat k a.toNat r.toNat := by
  have fa := zRd_at h hl ha (by omega)
  have key : ∀ q : Nat, (q : Int) < P → ((zbt (lk a.toNat) q = 1 ∧ f q = f a.toNat - 1) ↔ (lv (zEc f6 f7 v w n P) p.toNat k q ∧ zEc f6 f7 v w n P a.toNat q)) := by
    intro q hq
    constructor
    · rintro ⟨x, y⟩
      refine ⟨?_, by omega, (h.2 a.toNat q (by omega)).mp x⟩
      rcases h.1 q hq with ⟨z, _⟩ | ⟨j, _, z, l⟩
      · omega
      · rw [show k = j by omega]; exact l
    · rintro ⟨x, y⟩
      refine ⟨(h.2 a.toNat q (by omega)).mpr y.2, ?_⟩
      rcases h.1 q hq with ⟨_, z⟩ | ⟨j, _, z, l⟩
      · exact absurd x (z k (by omega))
      · have := lv_un l x; omega
  rcases hN with ⟨⟨hr, h1, h2⟩, h3⟩ | ⟨hr, h3⟩
  · refine ⟨hr, (key r.toNat (by omega)).mp ⟨h1, h2⟩, fun q hq z => ?_⟩
    exact h3 q (by omega) ((key q (by omega)).mpr z)
  · exfalso
    obtain ⟨⟨q, l, e⟩, _⟩ := (lv_s _ _ _ _).mp hl
    have e2 := eds_sy e.2
    have := edp_lt hp hn e2
    exact h3 q (by omega) ((key q (by omega)).mpr ⟨l, by omega, e2⟩)
theorem nr_s {lk f6 f7 f : Nat → Int} {v w n P p a s b c u : Int} (h : zRd lk f6 f7 v w n P p f) (hp : zPl f6 f7 n P) (hl : (0 ≤ u ∧ u < f a.toNat ∧ f a.toNat ≤ 9) ∧ lv (zEc f6 f7 v w n P) p.toNat (f a.toNat).toNat a.toNat) (h1 : pth (zEc f6 f7 v w n P) p.toNat (f a.toNat).toNat a.toNat s.toNat b.toNat) (hN : zNr lk f P b c) (hs : 0 ≤ s ∧ s < u) (hb : 0 ≤ b ∧ b < P) (hn : n ≤ 60) : (0 ≤ c ∧ c < P) ∧ pth (zEc f6 f7 v w n P) p.toNat (f a.toNat).toNat a.toNat (s + 1).toNat c.toNat := by
  have l1 := pth_lv hl.2 h1
  have l2 : lv (zEc f6 f7 v w n P) p.toNat (((f a.toNat).toNat - s.toNat - 1) + 1) b.toNat := by rw [show (f a.toNat).toNat - s.toNat - 1 + 1 = (f a.toNat).toNat - s.toNat by omega]; exact l1
  obtain ⟨hr, x⟩ := nr_c h hp hN l2 hb (by omega) hn
  refine ⟨hr, ?_⟩
  rw [show (s + 1).toNat = s.toNat + 1 by omega]
  exact pth_s h1 x
theorem rp_c {lk f6 f7 f : Nat → Int} {v w n P p a s b c r : Int} (h : zRd lk f6 f7 v w n P p f) (hp : zPl f6 f7 n P) (hl : lv (zEc f6 f7 v w n P) p.toNat (f a.toNat).toNat a.toNat) (h1 : pth (zEc f6 f7 v w n P) p.toNat (f a.toNat).toNat a.toNat s.toNat b.toNat) (hN : zNr lk f P b c) (hs : 0 ≤ s ∧ s < f a.toNat ∧ f a.toNat ≤ 9) (hb : 0 ≤ b ∧ b < P) (hM : zLz f6 f7 v w n b c r) (hn : n ≤ 60) : 0 ≤ r ∧ rpv (zEc f6 f7 v w n P) (zMc f6 f7 v w n) p.toNat (f a.toNat).toNat a.toNat s.toNat r := by
  have l1 := pth_lv hl h1
  have l2 : lv (zEc f6 f7 v w n P) p.toNat (((f a.toNat).toNat - s.toNat - 1) + 1) b.toNat := by rw [show (f a.toNat).toNat - s.toNat - 1 + 1 = (f a.toNat).toNat - s.toNat by omega]; exact l1
  obtain ⟨hr, x⟩ := nr_c h hp hN l2 hb (by omega) hn
  have ne : b ≠ c := by
    intro z
    have y := x.1.1
    rw [← z] at y
    have := lv_un l2 y
    omega
  have eq : ∀ i : Nat, (i : Int) < n → (zLp f6 f7 v w b c i ↔ zMc f6 f7 v w n i b.toNat c.toNat) := by
    intro i hi
    constructor
    · rintro ⟨u, y1, y2⟩
      refine ⟨hi, u.1, u.2, ?_⟩
      omega
    · rintro ⟨_, u1, u2, y⟩
      refine ⟨⟨u1, u2⟩, ?_, ?_⟩ <;> omega
  rcases hM with ⟨m1, m2, m3⟩ | ⟨m1, m2⟩
  · refine ⟨m1.1, b.toNat, c.toNat, h1, x, (eq _ (by omega)).mp m2, fun i hi z => ?_⟩
    exact m3 i (by omega) ((eq i (by omega)).mpr z)
  · exfalso
    obtain ⟨i, i1, i2, i3, i4, i5⟩ := x.1.2.2
    refine m2 i i1 ((eq i i1).mpr ⟨i1, i3, i4, i5⟩)
def zJl (f : Nat → Int) (a r : Int) : Prop := (f a.toNat = -1 ∧ r = -5) ∨ (f a.toNat ≠ -1 ∧ r = f a.toNat)
theorem rop_b {ed : Nat → Nat → Prop} {M : Nat → Nat → Nat → Prop} {P a b w r : Int} (hr : r = -10) (h : a < 0 ∨ P ≤ a ∨ b < 0 ∨ P ≤ b ∨ w < -1) : rop ed M P a b w r := Or.inl ⟨hr, h⟩
theorem rop_n {lk f6 f7 f : Nat → Int} {M : Nat → Nat → Nat → Prop} {v u n P a b w r : Int} (h : zRd lk f6 f7 v u n P b f) (hj : zJl f a r) (ho : 0 ≤ a ∧ a < P ∧ 0 ≤ b ∧ b < P) (hw : w = -1) : rop (zEc f6 f7 v u n P) M P a b w r := by
  refine Or.inr ⟨by omega, ?_⟩
  rcases h.1 a.toNat (by omega) with ⟨y, z⟩ | ⟨j, hj2, y, l⟩
  · rcases hj with ⟨x1, x2⟩ | ⟨x1, x2⟩
    · exact Or.inl ⟨x2, z⟩
    · exact absurd y x1
  · rcases hj with ⟨x1, x2⟩ | ⟨x1, x2⟩
    · omega
    · exact Or.inr ⟨j, hj2, l, Or.inl ⟨hw, by omega⟩⟩
theorem rop_o {lk f6 f7 f : Nat → Int} {M : Nat → Nat → Nat → Prop} {v u n P a b w r x : Int} (h : zRd lk f6 f7 v u n P b f) (hj : zJl f a x) (ho : 0 ≤ a ∧ a < P ∧ 0 ≤ b ∧ b < P) (hw : 0 ≤ w) (hx : x ≤ w) (hr : r = -5) : rop (zEc f6 f7 v u n P) M P a b w r := by
  refine Or.inr ⟨by omega, ?_⟩
  rcases h.1 a.toNat (by omega) with ⟨y, z⟩ | ⟨j, hj2, y, l⟩
  · exact Or.inl ⟨hr, z⟩
  · rcases hj with ⟨x1, x2⟩ | ⟨x1, x2⟩
    · omega
    · exact Or.inr ⟨j, hj2, l, Or.inr (Or.inl ⟨hr, by omega⟩)⟩
theorem rop_l {lk f6 f7 f : Nat → Int} {v u n P a b w x : Int} (h : zRd lk f6 f7 v u n P b f) (hj : zJl f a x) (ho : 0 ≤ a ∧ a < P) (hx : 0 ≤ w ∧ w < x) : (0 ≤ w ∧ w < f a.toNat ∧ f a.toNat ≤ 9) ∧ lv (zEc f6 f7 v u n P) b.toNat (f a.toNat).toNat a.toNat := by
  rcases h.1 a.toNat (by omega) with ⟨y, z⟩ | ⟨j, hj2, y, l⟩
  · rcases hj with ⟨x1, x2⟩ | ⟨x1, x2⟩
    · omega
    · exact absurd y x1
  · rcases hj with ⟨x1, x2⟩ | ⟨x1, x2⟩
    · omega
    · exact ⟨by omega, by rw [show (f a.toNat).toNat = j by omega]; exact l⟩
theorem rop_f {f6 f7 f : Nat → Int} {v u n P a b w r : Int} (hl : (0 ≤ w ∧ w < f a.toNat ∧ f a.toNat ≤ 9) ∧ lv (zEc f6 f7 v u n P) b.toNat (f a.toNat).toNat a.toNat) (ho : 0 ≤ a ∧ a < P ∧ 0 ≤ b ∧ b < P) (hr : 0 ≤ r ∧ rpv (zEc f6 f7 v u n P) (zMc f6 f7 v u n) b.toNat (f a.toNat).toNat a.toNat w.toNat r) : rop (zEc f6 f7 v u n P) (zMc f6 f7 v u n) P a b w r :=
  Or.inr ⟨by omega, Or.inr ⟨(f a.toNat).toNat, by omega, hl.2, Or.inr (Or.inr ⟨by omega, hr.2⟩)⟩⟩
/-! the reference -/
def zMr (g : Nat → Int) (n : Int) : Nat → Nat → Nat → Prop := mts (fun i => g (91 + 6 * i)) (fun i => g (92 + 6 * i)) (fun i => g (94 + 6 * i)) (fun i => g (95 + 6 * i)) n
theorem zMr_ed {g : Nat → Int} {n : Int} {i a b : Nat} (h : zMr g n i a b) : edr g n (-1) a b := by
  obtain ⟨h1, h2, h3, h4⟩ := h
  exact ⟨i, h1, by omega, h2, h3, h4⟩
theorem edr_Mr {g : Nat → Int} {n : Int} {a b : Nat} (h : edr g n (-1) a b) : ∃ i, zMr g n i a b := by
  obtain ⟨i, h1, h2, h3, h4, h5⟩ := h
  exact ⟨i, h1, h3, h4, h5⟩
def zRn (g f : Nat → Int) (n a m x t : Int) : Prop := (x = -1 ∧ ∀ i b : Nat, (i : Int) < m → zMr g n i a.toNat b → f b ≠ f a.toNat - 1) ∨ ((0 ≤ x ∧ x ≤ 9 ∧ 0 ≤ t ∧ t < m) ∧ zMr g n t.toNat a.toNat x.toNat ∧ f x.toNat = f a.toNat - 1 ∧ (∀ i b : Nat, (i : Int) < m → zMr g n i a.toNat b → f b = f a.toNat - 1 → x.toNat ≤ b) ∧ ∀ i : Nat, (i : Int) < t → ¬ zMr g n i a.toNat x.toNat)
theorem zRn_0 {g f : Nat → Int} {n a t : Int} : zRn g f n a 0 (-1) t := Or.inl ⟨rfl, fun i b hi => by omega⟩
theorem zRn_s {g f : Nat → Int} {n a m x t : Int} (h : zRn g f n a m x t) (h0 : 0 ≤ m) (hs : ∀ b : Nat, zMr g n m.toNat a.toNat b → f b = f a.toNat - 1 → x ≠ -1 ∧ x ≤ b) : zRn g f n a (m + 1) x t := by
  rcases h with ⟨h1, h2⟩ | ⟨h1, h2, h3, h4, h5⟩
  · refine Or.inl ⟨h1, fun i b hi hm => ?_⟩
    by_cases c : (i : Int) < m
    · exact h2 i b c hm
    · rw [show i = m.toNat by omega] at hm
      intro z
      exact (hs b hm z).1 h1
  · refine Or.inr ⟨by omega, h2, h3, fun i b hi hm hf => ?_, h5⟩
    by_cases c : (i : Int) < m
    · exact h4 i b c hm hf
    · rw [show i = m.toNat by omega] at hm
      have := (hs b hm hf).2
      omega
theorem zRn_s1 {g f : Nat → Int} {n a m x t : Int} (h : zRn g f n a m x t) (h0 : 0 ≤ m) (hs : g (94 + 6 * m.toNat) ≠ 0 ∨ g (95 + 6 * m.toNat) ≠ 0) : zRn g f n a (m + 1) x t := zRn_s h h0 fun b hm _ => by
  obtain ⟨_, y1, y2, _⟩ := hm
  have y1 : g (94 + 6 * m.toNat) = 0 := y1
  have y2 : g (95 + 6 * m.toNat) = 0 := y2
  omega
theorem zRn_s2 {g f : Nat → Int} {n a m x t : Int} (h : zRn g f n a m x t) (h0 : 0 ≤ m) (ha : 0 ≤ a) (hs : g (91 + 6 * m.toNat) ≠ a ∧ g (92 + 6 * m.toNat) ≠ a) : zRn g f n a (m + 1) x t := zRn_s h h0 fun b hm _ => by
  obtain ⟨_, _, _, y⟩ := hm
  have y : (g (91 + 6 * m.toNat) = a.toNat ∧ g (92 + 6 * m.toNat) = b) ∨ (g (92 + 6 * m.toNat) = a.toNat ∧ g (91 + 6 * m.toNat) = b) := y
  omega
def zRt (f : Nat → Int) (s a y z : Int) : Prop := y = f s.toNat ∧ z = f a.toNat
theorem zMr_b {g : Nat → Int} {n a m s : Int} {b : Nat} (hm : zMr g n m.toNat a.toNat b) (ha : 0 ≤ a) (hs : s = g (91 + 6 * m.toNat) + g (92 + 6 * m.toNat) - a) : (b : Int) = s := by
  obtain ⟨_, _, _, y⟩ := hm
  have y : (g (91 + 6 * m.toNat) = a.toNat ∧ g (92 + 6 * m.toNat) = b) ∨ (g (92 + 6 * m.toNat) = a.toNat ∧ g (91 + 6 * m.toNat) = b) := y
  omega
theorem zRn_s3 {g f : Nat → Int} {n a m x t s y z : Int} (h : zRn g f n a m x t) (q : zRt f s a y z) (h0 : 0 ≤ m) (ha : 0 ≤ a) (hs : s = g (91 + 6 * m.toNat) + g (92 + 6 * m.toNat) - a) (hn : y ≠ z - 1) : zRn g f n a (m + 1) x t := zRn_s h h0 fun b hm hf => by
  have e := zMr_b hm ha hs
  have q1 := q.1
  rw [show s.toNat = b by omega] at q1
  have q2 := q.2
  omega
theorem zRn_s4 {g f : Nat → Int} {n a m x t s : Int} (h : zRn g f n a m x t) (h0 : 0 ≤ m) (ha : 0 ≤ a) (hs : s = g (91 + 6 * m.toNat) + g (92 + 6 * m.toNat) - a) (hn : x ≠ -1 ∧ x ≤ s) : zRn g f n a (m + 1) x t := zRn_s h h0 fun b hm hf => by
  have e := zMr_b hm ha hs
  omega
theorem zRn_put {g f : Nat → Int} {n a m x t s y z : Int} (h : zRn g f n a m x t) (q : zRt f s a y z) (h0 : 0 ≤ m ∧ m < n) (ha : 0 ≤ a) (hs : s = g (91 + 6 * m.toNat) + g (92 + 6 * m.toNat) - a) (hb : 0 ≤ s ∧ s ≤ 9) (hi : g (91 + 6 * m.toNat) = a ∨ g (92 + 6 * m.toNat) = a) (hg : g (94 + 6 * m.toNat) = 0 ∧ g (95 + 6 * m.toNat) = 0) (hy : y = z - 1) (hn : x = -1 ∨ s < x) : zRn g f n a (m + 1) s m := by
  have q1 := q.1
  have q2 := q.2
  have e : zMr g n m.toNat a.toNat s.toNat := ⟨by omega, hg.1, hg.2, by
    show (g (91 + 6 * m.toNat) = a.toNat ∧ g (92 + 6 * m.toNat) = s.toNat) ∨ (g (92 + 6 * m.toNat) = a.toNat ∧ g (91 + 6 * m.toNat) = s.toNat)
    omega⟩
  refine Or.inr ⟨by omega, e, by omega, fun i b hi hm hf => ?_, fun i hi hm => ?_⟩
  · by_cases c : (i : Int) < m
    · rcases h with ⟨h1, h2⟩ | ⟨h1, h2, h3, h4, h5⟩
      · exact absurd hf (h2 i b c hm)
      · have := h4 i b c hm hf
        omega
    · rw [show i = m.toNat by omega] at hm
      have := zMr_b hm ha hs
      omega
  · rcases h with ⟨h1, h2⟩ | ⟨h1, h2, h3, h4, h5⟩
    · exact h2 i s.toNat hi hm (by omega)
    · have := h4 i s.toNat hi hm (by omega)
      omega
def zRo (g f : Nat → Int) (n p a k b t : Int) : Prop := ((0 ≤ b ∧ b ≤ 9) ∧ pth (edr g n (-1)) p.toNat (f a.toNat).toNat a.toNat k.toNat b.toNat) ∧ (k = 0 ∨ (0 ≤ t ∧ rpv (edr g n (-1)) (zMr g n) p.toNat (f a.toNat).toNat a.toNat (k - 1).toNat t))
theorem zRo_0 {g f : Nat → Int} {n p a t : Int} (ha : 0 ≤ a ∧ a ≤ 9) : zRo g f n p a 0 a t := ⟨⟨ha, pth_0⟩, Or.inl rfl⟩
theorem zRo_b {g f : Nat → Int} {n p a k b t : Int} (h : zRo g f n p a k b t) : 0 ≤ b ∧ b ≤ 9 := h.1.1
theorem zGd_l {ed : Nat → Nat → Prop} {p a : Int} {f : Nat → Int} (h : zGd ed p f) (ha : 0 ≤ a ∧ a ≤ 9) (hf : f a.toNat < 100000000) : (0 ≤ f a.toNat ∧ f a.toNat ≤ 9) ∧ lv ed p.toNat (f a.toNat).toNat a.toNat := by
  rcases h a.toNat (by omega) with ⟨y, _⟩ | ⟨j, hj, y, l⟩
  · omega
  · exact ⟨by omega, by rw [show (f a.toNat).toNat = j by omega]; exact l⟩
theorem zRo_next {g f : Nat → Int} {n p a k b t x u m : Int} (h : zRo g f n p a k b t) (hd : zGd (edr g n (-1)) p f) (hx : zRn g f n b m x u) (hm : n ≤ m) (ha : 0 ≤ a ∧ a ≤ 9) (hk : 0 ≤ k ∧ k < f a.toNat) (hf : f a.toNat < 100000000) (hb : ∀ i : Nat, (i : Int) < n → (0 ≤ g (91 + 6 * i) ∧ g (91 + 6 * i) ≤ 9) ∧ 0 ≤ g (92 + 6 * i) ∧ g (92 + 6 * i) ≤ 9) : zRo g f n p a (k + 1) x u := by
  obtain ⟨⟨hb0, h1⟩, _⟩ := h
  obtain ⟨fa, l0⟩ := zGd_l hd ha hf
  have l1 := pth_lv l0 h1
  have fb : f b.toNat = f a.toNat - k := by
    rcases hd b.toNat (by omega) with ⟨_, y⟩ | ⟨j, hj, y, l⟩
    · exact absurd l1 (y _ (by omega))
    · have := lv_un l l1; omega
  have key : ∀ q : Nat, q < 10 → (f q = f b.toNat - 1 ↔ lv (edr g n (-1)) p.toNat ((f a.toNat).toNat - k.toNat - 1) q) := by
    intro q hq
    constructor
    · intro y
      rcases hd q hq with ⟨z, _⟩ | ⟨j, _, z, l⟩
      · omega
      · rw [show (f a.toNat).toNat - k.toNat - 1 = j by omega]; exact l
    · intro y
      rcases hd q hq with ⟨_, z⟩ | ⟨j, _, z, l⟩
      · exact absurd y (z _ (by omega))
      · have := lv_un l y; omega
  have sy : ∀ r q : Nat, edr g n (-1) r q → edr g n (-1) q r ∧ q < 10 := by
    rintro r q ⟨i, a1, a2, a3, a4, e⟩
    have := hb i a1
    refine ⟨⟨i, a1, a2, a3, a4, ?_⟩, by omega⟩
    rcases e with ⟨x1, x2⟩ | ⟨x1, x2⟩
    · exact Or.inr ⟨x2, x1⟩
    · exact Or.inl ⟨x2, x1⟩
  rcases hx with ⟨x1, x2⟩ | ⟨x1, x2, x3, x4, x5⟩
  · exfalso
    have l2 : lv (edr g n (-1)) p.toNat (((f a.toNat).toNat - k.toNat - 1) + 1) b.toNat := by rw [show (f a.toNat).toNat - k.toNat - 1 + 1 = (f a.toNat).toNat - k.toNat by omega]; exact l1
    obtain ⟨⟨q, l, e⟩, _⟩ := (lv_s _ _ _ _).mp l2
    have e2 := (sy _ _ e).1
    have q10 := (sy _ _ e2).2
    obtain ⟨i, hi⟩ := edr_Mr e2
    exact x2 i q (by have := hi.1; omega) hi ((key q q10).mpr l)
  · have N : nxs (edr g n (-1)) p.toNat ((f a.toNat).toNat - k.toNat - 1) b.toNat x.toNat := by
      refine ⟨⟨(key _ (by omega)).mp x3, zMr_ed x2⟩, fun q hq => ?_⟩
      rintro ⟨z1, z2⟩
      obtain ⟨i, hi⟩ := edr_Mr z2
      have := x4 i q (by have := hi.1; omega) hi ((key q (by omega)).mpr z1)
      omega
    refine ⟨⟨by omega, ?_⟩, Or.inr ⟨by omega, ?_⟩⟩
    · rw [show (k + 1).toNat = k.toNat + 1 by omega]
      exact pth_s h1 N
    · rw [show (k + 1 - 1).toNat = k.toNat by omega]
      exact ⟨b.toNat, x.toNat, h1, N, x2, fun i hi => x5 i (by omega)⟩
theorem rop_r5 {ed : Nat → Nat → Prop} {M : Nat → Nat → Nat → Prop} {P a b w r y : Int} {f : Nat → Int} (h : zGd ed b f) (hy : y = f a.toNat) (hv : 100000000 ≤ y) (ho : 0 ≤ a ∧ a < P ∧ 0 ≤ b ∧ b < P ∧ -1 ≤ w ∧ P ≤ 10) (hr : r = -5) : rop ed M P a b w r := by
  refine Or.inr ⟨by omega, Or.inl ⟨hr, fun j hj z => ?_⟩⟩
  rcases h a.toNat (by omega) with ⟨_, y2⟩ | ⟨k, hk, y2, l⟩
  · exact y2 j hj z
  · omega
theorem rop_rn {ed : Nat → Nat → Prop} {M : Nat → Nat → Nat → Prop} {P a b w r y : Int} {f : Nat → Int} (h : zGd ed b f) (hy : y = f a.toNat) (hv : y < 100000000) (ho : 0 ≤ a ∧ a < P ∧ 0 ≤ b ∧ b < P ∧ P ≤ 10) (hr : w = -1 ∧ r = y) : rop ed M P a b w r := by
  have := zGd_l h (by omega) (hy ▸ hv)
  exact Or.inr ⟨by omega, Or.inr ⟨(f a.toNat).toNat, by omega, this.2, Or.inl ⟨hr.1, by omega⟩⟩⟩
theorem rop_ro {ed : Nat → Nat → Prop} {M : Nat → Nat → Nat → Prop} {P a b w r y : Int} {f : Nat → Int} (h : zGd ed b f) (hy : y = f a.toNat) (hv : y < 100000000) (ho : 0 ≤ a ∧ a < P ∧ 0 ≤ b ∧ b < P ∧ P ≤ 10) (hw : 0 ≤ w ∧ y ≤ w) (hr : r = -5) : rop ed M P a b w r := by
  have := zGd_l h (by omega) (hy ▸ hv)
  exact Or.inr ⟨by omega, Or.inr ⟨(f a.toNat).toNat, by omega, this.2, Or.inr (Or.inl ⟨hr, by omega⟩)⟩⟩
theorem rop_rf {g f : Nat → Int} {n P a b w r y k c : Int} (h : zGd (edr g n (-1)) b f) (hy : y = f a.toNat) (hv : y < 100000000) (ho : 0 ≤ a ∧ a < P ∧ 0 ≤ b ∧ b < P ∧ P ≤ 10) (hw : 0 ≤ w ∧ w < y) (hx : zRo g f n b a k c r) (hk : k = w + 1) : rop (edr g n (-1)) (zMr g n) P a b w r := by
  have := zGd_l h (by omega) (hy ▸ hv)
  rcases hx.2 with z | ⟨z1, z2⟩
  · omega
  · rw [show (k - 1).toNat = w.toNat by omega] at z2
    exact Or.inr ⟨by omega, Or.inr ⟨(f a.toNat).toNat, by omega, this.2, Or.inr (Or.inr ⟨by omega, z2⟩)⟩⟩
theorem mts_cg {A B U V A' B' U' V' : Nat → Int} {n : Int} (h1 : ∀ i : Nat, (i : Int) < n → A' i = A i) (h2 : ∀ i : Nat, (i : Int) < n → B' i = B i) (h3 : ∀ i : Nat, (i : Int) < n → U' i = U i) (h4 : ∀ i : Nat, (i : Int) < n → V' i = V i) : mts A B U V n = mts A' B' U' V' n := by
  funext i a b
  unfold mts
  by_cases hi : (i : Int) < n
  · rw [h1 i hi, h2 i hi, h3 i hi, h4 i hi]
  · exact propext ⟨fun z => absurd z.1 hi, fun z => absurd z.1 hi⟩
