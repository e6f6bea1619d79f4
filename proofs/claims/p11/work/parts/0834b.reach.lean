/-! levels from a place: exactly k steps away, and before k -/
def lvb (ed : Nat → Nat → Prop) (p : Nat) : Nat → (Nat → Prop) × (Nat → Prop)
  | 0 => (fun q => q = p, fun _ => False)
  | k + 1 => (fun q => (∃ r, (lvb ed p k).1 r ∧ ed r q) ∧ ¬ ((lvb ed p k).2 q ∨ (lvb ed p k).1 q), fun q => (lvb ed p k).2 q ∨ (lvb ed p k).1 q)
def lv (ed : Nat → Nat → Prop) (p k q : Nat) : Prop := (lvb ed p k).1 q
def rb (ed : Nat → Nat → Prop) (p k q : Nat) : Prop := (lvb ed p k).2 q
theorem lv_0 (ed : Nat → Nat → Prop) (p q : Nat) : lv ed p 0 q ↔ q = p := Iff.rfl
theorem lv_s (ed : Nat → Nat → Prop) (p k q : Nat) : lv ed p (k + 1) q ↔ (∃ r, lv ed p k r ∧ ed r q) ∧ ¬ rb ed p (k + 1) q := Iff.rfl
theorem rb_0 (ed : Nat → Nat → Prop) (p q : Nat) : ¬ rb ed p 0 q := fun h => h
theorem rb_s (ed : Nat → Nat → Prop) (p k q : Nat) : rb ed p (k + 1) q ↔ rb ed p k q ∨ lv ed p k q := Iff.rfl
theorem rb_ex {ed : Nat → Nat → Prop} {p k q : Nat} : rb ed p k q ↔ ∃ j, j < k ∧ lv ed p j q := by
  induction k with
  | zero => exact ⟨fun h => absurd h (rb_0 ed p q), fun ⟨j, h, _⟩ => absurd h (Nat.not_lt_zero j)⟩
  | succ k ih =>
    rw [rb_s, ih]
    constructor
    · rintro (⟨j, h, l⟩ | l)
      · exact ⟨j, by omega, l⟩
      · exact ⟨k, by omega, l⟩
    · rintro ⟨j, h, l⟩
      by_cases e : j = k
      · subst e; exact Or.inr l
      · exact Or.inl ⟨j, by omega, l⟩
theorem lv_nrb {ed : Nat → Nat → Prop} {p k q : Nat} (h : lv ed p k q) : ¬ rb ed p k q := by
  cases k with
  | zero => exact rb_0 ed p q
  | succ k => exact ((lv_s ed p k q).mp h).2
theorem lv_un {ed : Nat → Nat → Prop} {p j k q : Nat} (h : lv ed p j q) (g : lv ed p k q) : j = k := by
  rcases Nat.lt_trichotomy j k with e | e | e
  · exact absurd (rb_ex.mpr ⟨j, e, h⟩) (lv_nrb g)
  · exact e
  · exact absurd (rb_ex.mpr ⟨k, e, g⟩) (lv_nrb h)
theorem rb_mono {ed : Nat → Nat → Prop} {p j k q : Nat} (h : rb ed p j q) (e : j ≤ k) : rb ed p k q := by
  obtain ⟨i, hi, l⟩ := rb_ex.mp h
  exact rb_ex.mpr ⟨i, by omega, l⟩
theorem lv_ed {ed : Nat → Nat → Prop} {p k r q : Nat} (h : lv ed p k r) (e : ed r q) : rb ed p (k + 2) q := by
  by_cases g : rb ed p (k + 1) q
  · exact rb_mono g (by omega)
  · exact (rb_s ed p (k + 1) q).mpr (Or.inr ((lv_s ed p k q).mpr ⟨⟨r, h, e⟩, g⟩))
theorem rb_ed {ed : Nat → Nat → Prop} {p k r q : Nat} (h : rb ed p k r) (e : ed r q) : rb ed p (k + 1) q := by
  obtain ⟨i, hi, l⟩ := rb_ex.mp h
  exact rb_mono (lv_ed l e) (by omega)
theorem lv_dn {ed : Nat → Nat → Prop} {p k q : Nat} (h : lv ed p k q) {j : Nat} (hj : j ≤ k) : ∃ r, lv ed p j r := by
  induction k generalizing q with
  | zero => exact ⟨q, by rwa [show j = 0 by omega]⟩
  | succ k ih =>
    by_cases e : j = k + 1
    · exact ⟨q, by rwa [e]⟩
    · obtain ⟨⟨r, l, _⟩, _⟩ := (lv_s ed p k q).mp h
      exact ih l (by omega)
theorem lv_lim {ed : Nat → Nat → Prop} {p k q n : Nat} (hp : p < n) (he : ∀ r q, ed r q → q < n) (h : lv ed p k q) : q < n := by
  cases k with
  | zero => rw [(lv_0 ed p q).mp h]; exact hp
  | succ k =>
    obtain ⟨⟨r, _, e⟩, _⟩ := (lv_s ed p k q).mp h
    exact he r q e
theorem pig (n : Nat) : ∀ g : Nat → Nat, (∀ j, j ≤ n → g j < n) → ∃ i j, i < j ∧ j ≤ n ∧ g i = g j := by
  induction n with
  | zero => intro g h; exact absurd (h 0 (Nat.le_refl 0)) (Nat.not_lt_zero _)
  | succ n ih =>
    intro g h
    by_cases hx : ∃ i, i ≤ n ∧ g i = g (n + 1)
    · obtain ⟨i, hi, e⟩ := hx
      exact ⟨i, n + 1, by omega, by omega, e⟩
    · have hx : ∀ i, i ≤ n → g i ≠ g (n + 1) := fun i hi e => hx ⟨i, hi, e⟩
      obtain ⟨i, j, hij, hj, e⟩ := ih (fun i => if g i = n then g (n + 1) else g i) (fun j hj => by
        have h1 := h j (by omega)
        have h2 := h (n + 1) (by omega)
        have h3 := hx j hj
        by_cases e : g j = n
        · rw [if_pos e]; omega
        · rw [if_neg e]; omega)
      refine ⟨i, j, hij, by omega, ?_⟩
      have h3 := hx i (by omega)
      have h4 := hx j hj
      by_cases e1 : g i = n
      · rw [if_pos e1] at e
        by_cases e2 : g j = n
        · omega
        · rw [if_neg e2] at e; omega
      · rw [if_neg e1] at e
        by_cases e2 : g j = n
        · rw [if_pos e2] at e; omega
        · rw [if_neg e2] at e; exact e
theorem lv_far {ed : Nat → Nat → Prop} {p k q : Nat} (hp : p < 10) (he : ∀ r q, ed r q → q < 10) (h : lv ed p k q) : k < 10 := by
  by_cases hk : k < 10
  · exact hk
  · exfalso
    have hx : ∀ j, j ≤ 10 → ∃ r, lv ed p j r := fun j hj => lv_dn h (by omega)
    have hx2 : ∀ j, ∃ r, j ≤ 10 → lv ed p j r := fun j => by
      by_cases hj : j ≤ 10
      · obtain ⟨r, l⟩ := hx j hj; exact ⟨r, fun _ => l⟩
      · exact ⟨0, fun z => absurd z hj⟩
    obtain ⟨i, j, hij, hj, e⟩ := pig 10 (fun j => Classical.choose (hx2 j)) (fun j hj => lv_lim hp he (Classical.choose_spec (hx2 j) hj))
    have l1 := Classical.choose_spec (hx2 i) (by omega)
    have l2 := Classical.choose_spec (hx2 j) hj
    rw [e] at l1
    have := lv_un l1 l2
    omega
/-! how far each is, told by the class (-1: not at all) and by the reference -/
def zFa (ed : Nat → Nat → Prop) (p P : Int) (f : Nat → Int) : Prop := ∀ q : Nat, (q : Int) < P → (f q = -1 ∧ ∀ j, j < 10 → ¬ lv ed p.toNat j q) ∨ ∃ j : Nat, j < 10 ∧ f q = j ∧ lv ed p.toNat j q
def zGd (ed : Nat → Nat → Prop) (p : Int) (f : Nat → Int) : Prop := ∀ q : Nat, q < 10 → (f q = 100000000 ∧ ∀ j, j < 10 → ¬ lv ed p.toNat j q) ∨ ∃ j : Nat, j < 10 ∧ f q = j ∧ lv ed p.toNat j q
/-! the class's walk: level by level -/
def edk (lk : Nat → Int) (P : Int) (r q : Nat) : Prop := (r : Int) < P ∧ zbt (lk r) q = 1
def zS1 (ed : Nat → Nat → Prop) (p k seen edge : Int) : Prop := (∀ q, zbt seen q = 1 ↔ rb ed p.toNat k.toNat q) ∧ ∀ q, zbt edge q = 1 ↔ lv ed p.toNat k.toNat q
def zfo (ed : Nat → Nat → Prop) (p k : Nat) (f : Nat → Int) (q : Nat) : Prop := (f q = -1 ∧ ¬ rb ed p k q) ∨ ∃ j : Nat, j < k ∧ f q = j ∧ lv ed p j q
def zS2 (ed : Nat → Nat → Prop) (p k P : Int) (f : Nat → Int) : Prop := ∀ q : Nat, (q : Int) < P → zfo ed p.toNat k.toNat f q
def zS3 (ed : Nat → Nat → Prop) (p k P : Int) (f : Nat → Int) (l : Int) : Prop := ∀ q : Nat, (q : Int) < P → zfo ed p.toNat (if (q : Int) < l then k.toNat + 1 else k.toNat) f q
def zS4 (lk : Nat → Int) (edge beyond l : Int) : Prop := ∀ q, zbt beyond q = 1 ↔ ∃ r : Nat, (r : Int) < l ∧ zbt edge r = 1 ∧ zbt (lk r) q = 1
theorem zbt_n1 {v : Int} {i : Nat} : zbt v i ≠ 1 ↔ zbt v i = 0 := by have := zbt_01 v i; omega
theorem zbt_z (i : Nat) : zbt 0 i = 0 := by unfold zbt; rw [show (0 : Int).toNat = 0 from rfl, Nat.zero_testBit]; rfl
theorem zS1_0 {ed : Nat → Nat → Prop} {p x : Int} (h0 : 0 ≤ p) (hx : x = 2 ^ p.toNat) : zS1 ed p 0 0 x := by
  refine ⟨fun q => ⟨fun h => ?_, fun h => absurd h (rb_0 _ _ _)⟩, fun q => ?_⟩
  · rw [zbt_z] at h; exact absurd h (by decide)
  · show _ ↔ lv ed p.toNat 0 q
    rw [lv_0]
    unfold zbt
    have e : x.toNat = 2 ^ p.toNat := by
      have z : (((2 ^ p.toNat : Nat)) : Int) = 2 ^ p.toNat := by push_cast; rfl
      rw [hx, ← z, Int.toNat_natCast]
    rw [e, Nat.testBit_two_pow]
    by_cases h : p.toNat = q
    · simp [h]
    · have : ¬ q = p.toNat := fun z => h z.symm
      simp [h, this]
theorem zS2_0 {ed : Nat → Nat → Prop} {p P : Int} {f : Nat → Int} (h : zFil f 10 (-1)) (hP : P ≤ 10) : zS2 ed p 0 P f := fun q hq => Or.inl ⟨h q (by omega), rb_0 _ _ _⟩
theorem zS3_0 {ed : Nat → Nat → Prop} {p k P : Int} {f : Nat → Int} (h : zS2 ed p k P f) : zS3 ed p k P f 0 := fun q hq => by
  rw [if_neg (by omega)]; exact h q hq
theorem zS4_0 {lk : Nat → Int} {e : Int} : zS4 lk e 0 0 := fun q => ⟨fun h => by rw [zbt_z] at h; exact absurd h (by decide), fun ⟨r, h, _⟩ => by omega⟩
theorem zfo_eq {ed : Nat → Nat → Prop} {p k q : Nat} {f g : Nat → Int} (h : zfo ed p k f q) (e : g q = f q) : zfo ed p k g q := by
  unfold zfo; rw [e]; exact h
/-- a place that is not at this level -/
theorem zS3_skip {ed : Nat → Nat → Prop} {p k P s e l : Int} {f : Nat → Int} (h : zS3 ed p k P f l) (h1 : zS1 ed p k s e) (h0 : 0 ≤ l ∧ 0 ≤ k) (hb : zbt e l.toNat = 0) : zS3 ed p k P f (l + 1) := by
  intro q hq
  have hh := h q hq
  by_cases c : (q : Int) < l
  · rw [if_pos c] at hh; rw [if_pos (by omega)]; exact hh
  · by_cases c2 : (q : Int) < l + 1
    · rw [if_neg c] at hh
      rw [if_pos c2]
      have el : q = l.toNat := by omega
      rcases hh with ⟨a, b⟩ | ⟨j, a, b, c⟩
      · refine Or.inl ⟨a, fun z => ?_⟩
        rcases (rb_s _ _ _ _).mp z with z | z
        · exact b z
        · have := (h1.2 q).mpr z
          rw [el, hb] at this
          exact absurd this (by decide)
      · exact Or.inr ⟨j, by omega, b, c⟩
    · rw [if_neg c] at hh; rw [if_neg c2]; exact hh
/-- a place at this level -/
theorem zS3_put {ed : Nat → Nat → Prop} {p k P s e l : Int} {f : Nat → Int} (h : zS3 ed p k P f l) (h1 : zS1 ed p k s e) (h0 : 0 ≤ l ∧ 0 ≤ k) (hb : zbt e l.toNat = 1) : zS3 ed p k P (zPt f l.toNat k) (l + 1) := by
  intro q hq
  have hh := h q hq
  by_cases c : (q : Int) < l
  · rw [if_pos c] at hh; rw [if_pos (by omega)]; exact zfo_eq hh (zPt_ne (by omega))
  · by_cases c2 : (q : Int) < l + 1
    · rw [if_pos c2]
      have el : q = l.toNat := by omega
      refine Or.inr ⟨k.toNat, by omega, ?_, ?_⟩
      · rw [el, zPt_eq]; omega
      · rw [el]; exact (h1.2 _).mp hb
    · rw [if_neg c] at hh; rw [if_neg c2]; exact zfo_eq hh (zPt_ne (by omega))
def zor (x y : Int) : Int := ((x.toNat ||| y.toNat : Nat) : Int)
def zan (x y : Int) : Int := ((x.toNat ^^^ (x.toNat &&& y.toNat) : Nat) : Int)
theorem zbt_or (x y : Int) (i : Nat) : zbt (zor x y) i = 1 ↔ zbt x i = 1 ∨ zbt y i = 1 := by
  unfold zbt zor
  rw [Int.toNat_natCast, Nat.testBit_or]
  cases x.toNat.testBit i <;> cases y.toNat.testBit i <;> simp
theorem zbt_an (x y : Int) (i : Nat) : zbt (zan x y) i = 1 ↔ zbt x i = 1 ∧ zbt y i = 0 := by
  unfold zbt zan
  rw [Int.toNat_natCast, Nat.testBit_xor, Nat.testBit_and]
  cases x.toNat.testBit i <;> cases y.toNat.testBit i <;> simp
theorem zS4_skip {lk : Nat → Int} {e b l : Int} (h : zS4 lk e b l) (h0 : 0 ≤ l) (hb : zbt e l.toNat = 0) : zS4 lk e b (l + 1) := fun q => by
  rw [h q]
  constructor
  · rintro ⟨r, a, c⟩; exact ⟨r, by omega, c⟩
  · rintro ⟨r, a, c, d⟩
    refine ⟨r, ?_, c, d⟩
    by_cases z : (r : Int) < l
    · exact z
    · rw [show r = l.toNat by omega, hb] at c; exact absurd c (by decide)
theorem zS4_put {lk : Nat → Int} {e b l x y : Int} (h : zS4 lk e b l) (h0 : 0 ≤ l) (hb : zbt e l.toNat = 1) (hx : x = lk l.toNat) (hy : y = zor b x) : zS4 lk e y (l + 1) := fun q => by
  rw [hy, zbt_or, h q, hx]
  constructor
  · rintro (⟨r, a, c⟩ | a)
    · exact ⟨r, by omega, c⟩
    · exact ⟨l.toNat, by omega, hb, a⟩
  · rintro ⟨r, a, c, d⟩
    by_cases z : (r : Int) < l
    · exact Or.inl ⟨r, z, c, d⟩
    · rw [show r = l.toNat by omega] at d; exact Or.inr d
/-- the next level -/
theorem zS1_next {lk : Nat → Int} {p k P s e s2 e2 b l : Int} (h1 : zS1 (edk lk P) p k s e) (h4 : zS4 lk e b l) (hk : 0 ≤ k) (hl : l = P) (hs : s2 = zor s e) (he : e2 = zan b s2) : zS1 (edk lk P) p (k + 1) s2 e2 := by
  have ek : (k + 1).toNat = k.toNat + 1 := by omega
  have hs' : ∀ q, zbt s2 q = 1 ↔ rb (edk lk P) p.toNat (k.toNat + 1) q := fun q => by
    rw [hs, zbt_or, h1.1 q, h1.2 q]; exact Iff.rfl
  unfold zS1
  rw [ek]
  refine ⟨hs', fun q => ?_⟩
  rw [he, zbt_an, h4 q, lv_s]
  constructor
  · rintro ⟨⟨r, a, c, d⟩, g⟩
    refine ⟨⟨r, (h1.2 r).mp c, by omega, d⟩, fun z => ?_⟩
    rw [(hs' q).mpr z] at g
    exact absurd g (by decide)
  · rintro ⟨⟨r, a, c, d⟩, g⟩
    refine ⟨⟨r, by omega, (h1.2 r).mpr a, d⟩, ?_⟩
    exact zbt_n1.mp (fun z => g ((hs' q).mp z))
theorem zS2_next {ed : Nat → Nat → Prop} {p k P l : Int} {f : Nat → Int} (h : zS3 ed p k P f l) (hk : 0 ≤ k) (hl : l = P) : zS2 ed p (k + 1) P f := fun q hq => by
  have hh := h q hq
  rw [if_pos (by omega)] at hh
  rwa [show (k + 1).toNat = k.toNat + 1 by omega]
/-- the walk is over: all ten levels, or a level with none -/
theorem zFa_end {ed : Nat → Nat → Prop} {p k P s e : Int} {f : Nat → Int} (h2 : zS2 ed p k P f) (h1 : zS1 ed p k s e) (hk : 0 ≤ k ∧ k ≤ 10) (hx : k = 10 ∨ e = 0) : zFa ed p P f := by
  intro q hq
  rcases h2 q hq with ⟨a, b⟩ | ⟨j, a, b, c⟩
  · refine Or.inl ⟨a, fun j hj z => ?_⟩
    by_cases hjk : j < k.toNat
    · exact b (rb_ex.mpr ⟨j, hjk, z⟩)
    · rcases hx with e1 | e1
      · omega
      · obtain ⟨r, w⟩ := lv_dn z (j := k.toNat) (by omega)
        have := (h1.2 r).mpr w
        rw [e1, zbt_z] at this
        exact absurd this (by decide)
  · exact Or.inr ⟨j, by omega, b, c⟩
/-! who has a meeting with whom -/
def eds (f6 f7 : Nat → Int) (v w n out : Int) (r q : Nat) : Prop := ∃ i : Nat, (i : Int) < n ∧ (i : Int) ≠ out ∧ zbt v i = 0 ∧ zbt w i = 0 ∧ ((f6 i = r ∧ f7 i = q) ∨ (f7 i = r ∧ f6 i = q))
def edw (f6 f7 : Nat → Int) (x n : Int) (r q : Nat) : Prop := ∃ i : Nat, (i : Int) < n ∧ zbt x i = 1 ∧ ((f6 i = r ∧ f7 i = q) ∨ (f7 i = r ∧ f6 i = q))
def edr (g : Nat → Int) (n out : Int) (r q : Nat) : Prop := ∃ i : Nat, (i : Int) < n ∧ (i : Int) ≠ out ∧ g (94 + 6 * i) = 0 ∧ g (95 + 6 * i) = 0 ∧ ((g (91 + 6 * i) = r ∧ g (92 + 6 * i) = q) ∨ (g (92 + 6 * i) = r ∧ g (91 + 6 * i) = q))
def zLk (lk f6 f7 : Nat → Int) (x n : Int) : Prop := ∀ r q : Nat, r < 10 → (zbt (lk r) q = 1 ↔ edw f6 f7 x n r q)
theorem zLk_0 {lk f6 f7 : Nat → Int} {x : Int} (h : zFil lk 10 0) : zLk lk f6 f7 x 0 := fun r q hr => by
  rw [h r (by omega), zbt_z]
  exact ⟨fun z => absurd z (by decide), fun ⟨i, a, _⟩ => by omega⟩
theorem edw_s {f6 f7 : Nat → Int} {x n : Int} (hn : 0 ≤ n) {r q : Nat} : edw f6 f7 x (n + 1) r q ↔ edw f6 f7 x n r q ∨ (zbt x n.toNat = 1 ∧ ((f6 n.toNat = r ∧ f7 n.toNat = q) ∨ (f7 n.toNat = r ∧ f6 n.toNat = q))) := by
  constructor
  · rintro ⟨i, a, b⟩
    by_cases e : (i : Int) < n
    · exact Or.inl ⟨i, e, b⟩
    · rw [show i = n.toNat by omega] at b; exact Or.inr b
  · rintro (⟨i, a, b⟩ | b)
    · exact ⟨i, by omega, b⟩
    · exact ⟨n.toNat, by omega, b⟩
theorem zLk_skip {lk f6 f7 : Nat → Int} {x n : Int} (h : zLk lk f6 f7 x n) (hn : 0 ≤ n) (hb : zbt x n.toNat = 0) : zLk lk f6 f7 x (n + 1) := fun r q hr => by
  rw [h r q hr, edw_s hn]
  refine ⟨Or.inl, ?_⟩
  rintro (z | ⟨z, _⟩)
  · exact z
  · rw [hb] at z; exact absurd z (by decide)
theorem zbt_pw {y s : Int} {i : Nat} (h0 : 0 ≤ s) (hy : y = 2 ^ s.toNat) : zbt y i = 1 ↔ s = i := by
  unfold zbt
  have e : y.toNat = 2 ^ s.toNat := by
    have z : (((2 ^ s.toNat : Nat)) : Int) = 2 ^ s.toNat := by push_cast; rfl
    rw [hy, ← z, Int.toNat_natCast]
  rw [e, Nat.testBit_two_pow]
  by_cases h : s.toNat = i
  · have : s = i := by omega
    simp [this]
  · have : ¬ s = i := by omega
    simp [h, this]
theorem zLk_put {lk f6 f7 : Nat → Int} {x n a b a2 b2 u1 u2 y1 y2 z1 z2 : Int} (h : zLk lk f6 f7 x n) (o1 : z1 = zor u1 y1) (o2 : z2 = zor u2 y2) (e1 : u1 = lk a.toNat) (p1 : y1 = 2 ^ b.toNat) (e2 : u2 = zPt lk a.toNat z1 b2.toNat) (p2 : y2 = 2 ^ a2.toNat) (hn : 0 ≤ n) (hb : zbt x n.toNat = 1) (ha : a = f6 n.toNat ∧ 0 ≤ a ∧ a ≤ 9) (hb2 : b = f7 n.toNat ∧ 0 ≤ b ∧ b ≤ 9) (ea : a2 = a) (eb : b2 = b) : zLk (zPt (zPt lk a.toNat z1) b2.toNat z2) f6 f7 x (n + 1) := by
  subst ea eb
  intro r q hr
  obtain ⟨ha, ha0, ha9⟩ := ha
  obtain ⟨hb2, hb0, hb9⟩ := hb2
  have s1 : ∀ r q : Nat, r < 10 → (zbt (zPt lk a2.toNat z1 r) q = 1 ↔ edw f6 f7 x n r q ∨ ((a2 = r) ∧ b2 = q)) := by
    intro r q hr
    by_cases c : r = a2.toNat
    · rw [c, zPt_eq, o1, zbt_or, e1, h _ q (by omega), zbt_pw hb0 p1]
      refine or_congr Iff.rfl ⟨fun z => ⟨by omega, z⟩, fun z => z.2⟩
    · rw [zPt_ne c, h r q hr]
      exact ⟨Or.inl, fun z => z.elim id (fun w => by omega)⟩
  have s2 : zbt (zPt (zPt lk a2.toNat z1) b2.toNat z2 r) q = 1 ↔ (edw f6 f7 x n r q ∨ (a2 = r ∧ b2 = q)) ∨ (b2 = r ∧ a2 = q) := by
    by_cases c : r = b2.toNat
    · rw [c, zPt_eq, o2, zbt_or, e2, s1 _ q (by omega), zbt_pw ha0 p2]
      refine or_congr Iff.rfl ⟨fun z => ⟨by omega, z⟩, fun z => z.2⟩
    · rw [zPt_ne c, s1 r q hr]
      exact ⟨Or.inl, fun z => z.elim id (fun w => by omega)⟩
  rw [s2, edw_s hn, ← ha, ← hb2, or_assoc]
  refine or_congr Iff.rfl ⟨fun z => ⟨hb, z⟩, fun z => z.2⟩
/-! the reference's walk: ten rounds over all meetings -/
def zG0 (p l : Int) (f : Nat → Int) : Prop := ∀ q : Nat, (q : Int) < l → (((q : Int) = p ∧ f q = 0) ∨ ((q : Int) ≠ p ∧ f q = 100000000))
theorem zG0_0 {p : Int} {f : Nat → Int} : zG0 p 0 f := fun q hq => by omega
theorem zG0_put {p l x : Int} {f : Nat → Int} (h : zG0 p l f) (h0 : 0 ≤ l) (hx : (l = p ∧ x = 0) ∨ (l ≠ p ∧ x = 100000000)) : zG0 p (l + 1) (zPt f l.toNat x) := fun q hq => by
  by_cases c : q = l.toNat
  · rw [c, zPt_eq]; omega
  · rw [zPt_ne c]; exact h q (by omega)
def zGa (ed : Nat → Nat → Prop) (p : Int) (f : Nat → Int) : Prop := ∀ q : Nat, q < 10 → f q = 100000000 ∨ (0 ≤ f q ∧ f q < 100000000 ∧ rb ed p.toNat ((f q).toNat + 1) q)
def zGb (ed : Nat → Nat → Prop) (p t : Int) (f : Nat → Int) : Prop := ∀ q : Nat, q < 10 → ∀ j : Nat, (j : Int) ≤ t → lv ed p.toNat j q → f q ≤ j
def zG1 (ed : Nat → Nat → Prop) (p t : Int) (f : Nat → Int) : Prop := zGa ed p f ∧ zGb ed p t f
def acr (g : Nat → Int) (out : Int) (i : Nat) : Prop := (i : Int) ≠ out ∧ g (94 + 6 * i) = 0 ∧ g (95 + 6 * i) = 0
def zGc (ed : Nat → Nat → Prop) (g : Nat → Int) (out p t m : Int) (f : Nat → Int) : Prop := ∀ i : Nat, (i : Int) < m → acr g out i → (lv ed p.toNat t.toNat (g (91 + 6 * i)).toNat → f (g (92 + 6 * i)).toNat ≤ t + 1) ∧ (lv ed p.toNat t.toNat (g (92 + 6 * i)).toNat → f (g (91 + 6 * i)).toNat ≤ t + 1)
def zG2 (ed : Nat → Nat → Prop) (g : Nat → Int) (out p t m : Int) (f : Nat → Int) : Prop := zG1 ed p t f ∧ zGc ed g out p t m f
theorem zG1_0 {ed : Nat → Nat → Prop} {p l : Int} {f : Nat → Int} (h : zG0 p l f) (hl : 10 ≤ l) (hp : 0 ≤ p) : zG1 ed p 0 f := by
  refine ⟨fun q hq => ?_, fun q hq j hj z => ?_⟩
  · rcases h q (by omega) with ⟨a, b⟩ | ⟨a, b⟩
    · refine Or.inr ⟨by omega, by omega, ?_⟩
      rw [b]
      exact rb_ex.mpr ⟨0, by decide, (lv_0 ed p.toNat q).mpr (by omega)⟩
    · exact Or.inl b
  · have e : j = 0 := by omega
    subst e
    have := (lv_0 ed p.toNat q).mp z
    rcases h q (by omega) with ⟨a, b⟩ | ⟨a, b⟩
    · omega
    · omega
theorem zG2_0 {ed : Nat → Nat → Prop} {g : Nat → Int} {out p t : Int} {f : Nat → Int} (h : zG1 ed p t f) : zG2 ed g out p t 0 f := ⟨h, fun i hi => by omega⟩
theorem zG2_skip {ed : Nat → Nat → Prop} {g : Nat → Int} {out p t m : Int} {f : Nat → Int} (h : zG2 ed g out p t m f) (h0 : 0 ≤ m) (hs : m = out ∨ g (94 + 6 * m.toNat) ≠ 0 ∨ g (95 + 6 * m.toNat) ≠ 0) : zG2 ed g out p t (m + 1) f := by
  refine ⟨h.1, fun i hi ha => ?_⟩
  by_cases c : (i : Int) < m
  · exact h.2 i c ha
  · have e : i = m.toNat := by omega
    obtain ⟨a1, a2, a3⟩ := ha
    rw [e] at a1 a2 a3
    omega
/-- one place lowered by way of another -/
theorem zG2_low {ed : Nat → Nat → Prop} {g : Nat → Int} {out p t m a b x : Int} {f : Nat → Int} (h : zG2 ed g out p t m f) (ha : 0 ≤ a ∧ a ≤ 9) (hb : 0 ≤ b ∧ b ≤ 9) (he : ed b.toNat a.toNat) (hx : (f b.toNat + 1 < f a.toNat ∧ x = f b.toNat + 1) ∨ (f a.toNat ≤ f b.toNat + 1 ∧ x = f a.toNat)) : zG2 ed g out p t m (zPt f a.toNat x) := by
  have hle : ∀ q, zPt f a.toNat x q ≤ f q := fun q => by
    by_cases c : q = a.toNat
    · rw [c, zPt_eq]; omega
    · rw [zPt_ne c]; exact Int.le_refl _
  obtain ⟨⟨A, B⟩, C⟩ := h
  refine ⟨⟨fun q hq => ?_, fun q hq j hj z => Int.le_trans (hle q) (B q hq j hj z)⟩, fun i hi hc => ⟨fun z => Int.le_trans (hle _) ((C i hi hc).1 z), fun z => Int.le_trans (hle _) ((C i hi hc).2 z)⟩⟩
  by_cases c : q = a.toNat
  · rw [c, zPt_eq]
    have ya := A a.toNat (by omega)
    have yb := A b.toNat (by omega)
    rcases hx with ⟨h1, h2⟩ | ⟨h1, h2⟩
    · rcases yb with yb | ⟨y1, y2, y3⟩
      · rcases ya with ya | ⟨ya, ya2, _⟩ <;> omega
      · refine Or.inr ⟨by omega, by rcases ya with ya | ⟨ya, ya2, _⟩ <;> omega, ?_⟩
        rw [h2, show (f b.toNat + 1).toNat = (f b.toNat).toNat + 1 by omega]
        exact rb_ed y3 he
    · rw [h2]; exact ya
  · rw [zPt_ne c]; exact A q hq
theorem zG2_put {g : Nat → Int} {n out p t m a b x y : Int} {f : Nat → Int} (h : zG2 (edr g n out) g out p t m f) (h0 : 0 ≤ m ∧ m < n ∧ 0 ≤ t) (hs : m ≠ out ∧ g (94 + 6 * m.toNat) = 0 ∧ g (95 + 6 * m.toNat) = 0) (ha : a = g (91 + 6 * m.toNat) ∧ 0 ≤ a ∧ a ≤ 9) (hb : b = g (92 + 6 * m.toNat) ∧ 0 ≤ b ∧ b ≤ 9) (hx : (f b.toNat + 1 < f a.toNat ∧ x = f b.toNat + 1) ∨ (f a.toNat ≤ f b.toNat + 1 ∧ x = f a.toNat)) (hy : (zPt f a.toNat x a.toNat + 1 < zPt f a.toNat x b.toNat ∧ y = zPt f a.toNat x a.toNat + 1) ∨ (zPt f a.toNat x b.toNat ≤ zPt f a.toNat x a.toNat + 1 ∧ y = zPt f a.toNat x b.toNat)) : zG2 (edr g n out) g out p t (m + 1) (zPt (zPt f a.toNat x) b.toNat y) := by
  obtain ⟨ha, ha0, ha9⟩ := ha
  obtain ⟨hb, hb0, hb9⟩ := hb
  have e1 : edr g n out b.toNat a.toNat := ⟨m.toNat, by omega, by omega, hs.2.1, hs.2.2, Or.inr ⟨by omega, by omega⟩⟩
  have e2 : edr g n out a.toNat b.toNat := ⟨m.toNat, by omega, by omega, hs.2.1, hs.2.2, Or.inl ⟨by omega, by omega⟩⟩
  have h1 := zG2_low h ⟨ha0, ha9⟩ ⟨hb0, hb9⟩ e1 hx
  have h2 := zG2_low h1 ⟨hb0, hb9⟩ ⟨ha0, ha9⟩ e2 hy
  refine ⟨h2.1, fun i hi hc => ?_⟩
  by_cases c : (i : Int) < m
  · exact h2.2 i c hc
  · have e : i = m.toNat := by omega
    have B := h.1.2
    have ga : zPt (zPt f a.toNat x) b.toNat y a.toNat ≤ f b.toNat + 1 := by
      by_cases q : a.toNat = b.toNat
      · have z1 : zPt (zPt f a.toNat x) b.toNat y a.toNat = y := by rw [q, zPt_eq]
        rw [zPt_eq] at hy
        rw [q, zPt_eq] at hy
        rw [z1]; rw [q] at hx; omega
      · rw [zPt_ne q, zPt_eq]; omega
    have gb : zPt (zPt f a.toNat x) b.toNat y b.toNat ≤ f a.toNat + 1 := by
      rw [zPt_eq]
      rw [zPt_eq] at hy
      omega
    rw [e, ← ha, ← hb]
    refine ⟨fun z => ?_, fun z => ?_⟩
    · have := B a.toNat (by omega) t.toNat (by omega) z; omega
    · have := B b.toNat (by omega) t.toNat (by omega) z; omega
theorem zG1_next {g : Nat → Int} {n out p t m : Int} {f : Nat → Int} (h : zG2 (edr g n out) g out p t m f) (hm : n ≤ m) (ht : 0 ≤ t) : zG1 (edr g n out) p (t + 1) f := by
  refine ⟨h.1.1, fun q hq j hj z => ?_⟩
  by_cases c : (j : Int) ≤ t
  · exact h.1.2 q hq j c z
  · have e : j = t.toNat + 1 := by omega
    rw [e] at z
    obtain ⟨⟨r, l, i, a1, a2, a3, a4, w⟩, _⟩ := (lv_s _ _ _ _).mp z
    have C := h.2 i (by omega) ⟨a2, a3, a4⟩
    rcases w with ⟨w1, w2⟩ | ⟨w1, w2⟩
    · have := C.1 (by rw [w1, Int.toNat_natCast]; exact l)
      rw [w2, Int.toNat_natCast] at this; omega
    · have := C.2 (by rw [w1, Int.toNat_natCast]; exact l)
      rw [w2, Int.toNat_natCast] at this; omega
theorem zGd_end {ed : Nat → Nat → Prop} {p t : Int} {f : Nat → Int} (h : zG1 ed p t f) (ht : 10 ≤ t) (hp : 0 ≤ p ∧ p ≤ 9) (he : ∀ r q, ed r q → q < 10) : zGd ed p f := by
  intro q hq
  rcases h.1 q hq with a | ⟨a1, a2, a3⟩
  · refine Or.inl ⟨a, fun j hj z => ?_⟩
    have := h.2 q hq j (by omega) z
    omega
  · obtain ⟨j, hj, l⟩ := rb_ex.mp a3
    have h10 := lv_far (by omega) he l
    have := h.2 q hq j (by omega) l
    exact Or.inr ⟨j, h10, by omega, l⟩
/-! the least that is reached -/
def zLs (ed : Nat → Nat → Prop) (p r : Int) : Prop := (∃ j, j < 10 ∧ lv ed p.toNat j r.toNat) ∧ ∀ q : Nat, (q : Int) < r → ∀ j, j < 10 → ¬ lv ed p.toNat j q
theorem zLs_un {ed : Nat → Nat → Prop} {p r s : Int} (hr : 0 ≤ r) (hs : 0 ≤ s) (h : zLs ed p r) (g : zLs ed p s) : r = s := by
  obtain ⟨⟨j, hj, a⟩, b⟩ := h
  obtain ⟨⟨k, hk, c⟩, d⟩ := g
  have h1 : ¬ r < s := fun z => d r.toNat (by omega) j hj a
  have h2 : ¬ s < r := fun z => b s.toNat (by omega) k hk c
  omega
/-- of the class: found, or none -/
def zLm (f : Nat → Int) (P r : Int) : Prop := (r = -1 ∧ ∀ q : Nat, (q : Int) < P → f q = -1) ∨ (0 ≤ r ∧ r < P ∧ f r.toNat ≠ -1 ∧ ∀ q : Nat, (q : Int) < r → f q = -1)
def zLq (f : Nat → Int) (l : Int) : Prop := ∀ q : Nat, (q : Int) < l → f q = -1
theorem zLq_0 {f : Nat → Int} : zLq f 0 := fun q hq => by omega
theorem zLq_s {f : Nat → Int} {l x : Int} (h : zLq f l) (h0 : 0 ≤ l) (hx : x = f l.toNat) (hv : x = -1) : zLq f (l + 1) := fun q hq => by
  by_cases c : (q : Int) < l
  · exact h q c
  · rw [show q = l.toNat by omega, ← hx, hv]
theorem zLs_c {ed : Nat → Nat → Prop} {p P r : Int} {f : Nat → Int} (h : zFa ed p P f) (hp : 0 ≤ p ∧ p < P) (g : zLm f P r) : 0 ≤ r ∧ zLs ed p r := by
  rcases g with ⟨_, b⟩ | ⟨a, b, c, d⟩
  · have e := b p.toNat (by omega)
    rcases h p.toNat (by omega) with ⟨_, y⟩ | ⟨j, _, y, _⟩
    · exact absurd ((lv_0 ed p.toNat p.toNat).mpr rfl) (y 0 (by decide))
    · omega
  · refine ⟨a, ?_, fun q hq j hj z => ?_⟩
    · rcases h r.toNat (by omega) with ⟨y, _⟩ | ⟨j, hj, _, l⟩
      · exact absurd y c
      · exact ⟨j, hj, l⟩
    · have e := d q hq
      rcases h q (by omega) with ⟨_, y⟩ | ⟨k, _, y, _⟩
      · exact y j hj z
      · omega
def zGe (f : Nat → Int) (l : Int) : Prop := ∀ q : Nat, (q : Int) < l → 100000000 ≤ f q
theorem zGe_0 {f : Nat → Int} : zGe f 0 := fun q hq => by omega
theorem zGe_s {f : Nat → Int} {l x : Int} (h : zGe f l) (h0 : 0 ≤ l) (hx : x = f l.toNat) (hv : 100000000 ≤ x) : zGe f (l + 1) := fun q hq => by
  by_cases c : (q : Int) < l
  · exact h q c
  · rw [show q = l.toNat by omega, ← hx]; exact hv
theorem zLs_r {ed : Nat → Nat → Prop} {p r x : Int} {f : Nat → Int} (h : zGd ed p f) (g : zGe f r) (hr : 0 ≤ r ∧ r ≤ 9) (hx : x = f r.toNat) (hv : x < 100000000) : zLs ed p r := by
  refine ⟨?_, fun q hq j hj z => ?_⟩
  · rcases h r.toNat (by omega) with ⟨y, _⟩ | ⟨j, hj, _, l⟩
    · omega
    · exact ⟨j, hj, l⟩
  · have e := g q hq
    rcases h q (by omega) with ⟨_, y⟩ | ⟨k, _, y, _⟩
    · exact y j hj z
    · omega
/-! the meetings that say something -/
def zSy (r v w n : Int) : Prop := ∀ i : Nat, i < 60 → (zbt r i = 1 ↔ (i : Int) < n ∧ zbt v i = 0 ∧ zbt w i = 0)
theorem zbt_p1 {y n : Int} {i : Nat} (hy : y = 2 ^ n.toNat) (h0 : 0 ≤ n) : zbt (y - 1) i = 1 ↔ (i : Int) < n := by
  unfold zbt
  have z : (((2 ^ n.toNat : Nat)) : Int) = 2 ^ n.toNat := by push_cast; rfl
  have e : (y - 1).toNat = 2 ^ n.toNat - 1 := by rw [hy, ← z]; omega
  rw [e, Nat.testBit_two_pow_sub_one]
  by_cases h : i < n.toNat
  · simp [h]; omega
  · simp [h]; omega
theorem zSy_mk {r x1 y n v w : Int} (o2 : r = zan x1 w) (o1 : x1 = zan (y - 1) v) (p : y = 2 ^ n.toNat) (h0 : 0 ≤ n) : zSy r v w n := fun i hi => by
  rw [o2, zbt_an, o1, zbt_an, zbt_p1 p h0, and_assoc]
def edp (f6 f7 : Nat → Int) (v w n out P : Int) (r q : Nat) : Prop := (r : Int) < P ∧ eds f6 f7 v w n out r q
theorem edk_p {lk f6 f7 : Nat → Int} {x v w n P : Int} (h0 : zSy x v w n) (h1 : zLk lk f6 f7 x n) (hP : P ≤ 10) (hn : n ≤ 60) : edk lk P = edp f6 f7 v w n (-1) P := by
  funext r q
  refine propext ⟨fun ⟨a, b⟩ => ⟨a, ?_⟩, fun ⟨a, b⟩ => ⟨a, ?_⟩⟩
  · obtain ⟨i, c, d, e⟩ := (h1 r q (by omega)).mp b
    have := (h0 i (by omega)).mp d
    exact ⟨i, c, by omega, this.2.1, this.2.2, e⟩
  · obtain ⟨i, c, _, d, e, f⟩ := b
    exact (h1 r q (by omega)).mpr ⟨i, c, (h0 i (by omega)).mpr ⟨c, d, e⟩, f⟩
theorem edk_o {lk f6 f7 : Nat → Int} {x x2 y v w n P i : Int} (h0 : zSy x v w n) (o : x2 = zan x y) (hy : y = 2 ^ i.toNat) (hi : 0 ≤ i) (h1 : zLk lk f6 f7 x2 n) (hP : P ≤ 10) (hn : n ≤ 60) : edk lk P = edp f6 f7 v w n i P := by
  funext r q
  refine propext ⟨fun ⟨a, b⟩ => ⟨a, ?_⟩, fun ⟨a, b⟩ => ⟨a, ?_⟩⟩
  · obtain ⟨k, c, d, e⟩ := (h1 r q (by omega)).mp b
    rw [o, zbt_an, h0 k (by omega)] at d
    refine ⟨k, c, fun z => ?_, d.1.2.1, d.1.2.2, e⟩
    have := (zbt_pw hi hy).mpr z.symm
    omega
  · obtain ⟨k, c, z, d, e, f⟩ := b
    refine (h1 r q (by omega)).mpr ⟨k, c, ?_, f⟩
    rw [o, zbt_an, h0 k (by omega)]
    exact ⟨⟨c, d, e⟩, zbt_n1.mp (fun u => z ((zbt_pw hi hy).mp u).symm)⟩
theorem zLs_f {lk f6 f7 f : Nat → Int} {x v w n P p r : Int} (h0 : zSy x v w n) (h1 : zLk lk f6 f7 x n) (h2 : zFa (edk lk P) p P f) (h3 : zLm f P r) (hp : 0 ≤ p ∧ p < P) (hP : P ≤ 10) (hn : n ≤ 60) : 0 ≤ r ∧ zLs (edp f6 f7 v w n (-1) P) p r := by
  rw [edk_p h0 h1 hP hn] at h2
  exact zLs_c h2 hp h3
/-! how many are the least of those that they reach -/
noncomputable def zif (a : Prop) : Int := @ite Int a (Classical.propDecidable a) 1 0
theorem zif_p {a : Prop} (h : a) : zif a = 1 := by unfold zif; exact if_pos h
theorem zif_n {a : Prop} (h : ¬ a) : zif a = 0 := by unfold zif; exact if_neg h
noncomputable def isl (ed : Nat → Nat → Prop) (P : Nat) : Int := sm (fun p => zif (zLs ed (p : Int) (p : Int))) P
theorem isl_0 (ed : Nat → Nat → Prop) : isl ed 0 = 0 := rfl
theorem isl_r {ed : Nat → Nat → Prop} {p r : Int} (h : zLs ed p r) (hr : 0 ≤ r) (hp : 0 ≤ p) : (r = p ∧ isl ed (p + 1).toNat = isl ed p.toNat + 1) ∨ (r ≠ p ∧ isl ed (p + 1).toNat = isl ed p.toNat) := by
  have e : isl ed (p + 1).toNat = isl ed p.toNat + zif (zLs ed ((p.toNat : Nat) : Int) ((p.toNat : Nat) : Int)) := by
    rw [show (p + 1).toNat = p.toNat + 1 by omega]; rfl
  rw [e, show ((p.toNat : Nat) : Int) = p by omega]
  by_cases c : zLs ed p p
  · rw [zif_p c]; exact Or.inl ⟨zLs_un hr hp h c, rfl⟩
  · rw [zif_n c]
    exact Or.inr ⟨fun z => c (by rw [z] at h; exact h), by omega⟩
theorem isl_c {lk f6 f7 f : Nat → Int} {x v w n P p r : Int} (h1 : zLk lk f6 f7 x n) (h0 : zSy x v w n) (h2 : zFa (edk lk P) p P f) (h3 : zLm f P r) (hp : 0 ≤ p ∧ p < P) (hP : P ≤ 10) (hn : n ≤ 60) : (r = p ∧ isl (edp f6 f7 v w n (-1) P) (p + 1).toNat = isl (edp f6 f7 v w n (-1) P) p.toNat + 1) ∨ (r ≠ p ∧ isl (edp f6 f7 v w n (-1) P) (p + 1).toNat = isl (edp f6 f7 v w n (-1) P) p.toNat) := by
  have z := zLs_f h0 h1 h2 h3 hp hP hn
  exact isl_r z.2 z.1 hp.1
/-! both edges alike -/
def zPl (f6 f7 : Nat → Int) (n P : Int) : Prop := ∀ i : Nat, i < 60 → (i : Int) < n → f6 i < P ∧ f7 i < P ∧ f6 i ≠ f7 i
theorem edp_edr {f6 f7 g : Nat → Int} {v w n P : Int} (out : Int) (hn : n ≤ 60) (h6 : ∀ i, i < 60 → g (91 + 6 * i) = f6 i) (h7 : ∀ i, i < 60 → g (92 + 6 * i) = f7 i) (hv : ∀ i, i < 60 → g (94 + 6 * i) = zbt v i) (hw : ∀ i, i < 60 → g (95 + 6 * i) = zbt w i) (hp : zPl f6 f7 n P) : edp f6 f7 v w n out P = edr g n out := by
  funext r q
  refine propext ⟨fun ⟨_, i, a, b, c, d, e⟩ => ⟨i, a, b, ?_, ?_, ?_⟩, fun ⟨i, a, b, c, d, e⟩ => ⟨?_, i, a, b, ?_, ?_, ?_⟩⟩
  · rw [hv i (by omega)]; exact c
  · rw [hw i (by omega)]; exact d
  · rw [h6 i (by omega), h7 i (by omega)]; exact e
  · have := hp i (by omega) a
    rw [h6 i (by omega), h7 i (by omega)] at e
    omega
  · rw [← hv i (by omega)]; exact c
  · rw [← hw i (by omega)]; exact d
  · rw [← h6 i (by omega), ← h7 i (by omega)]; exact e
theorem edr_lt {g : Nat → Int} {n out : Int} (h : ∀ i : Nat, (i : Int) < n → g (91 + 6 * i) ≤ 9 ∧ g (92 + 6 * i) ≤ 9) : ∀ r q, edr g n out r q → q < 10 := fun r q ⟨i, a, _, _, _, e⟩ => by
  have := h i a
  omega
/-! bridges -/
def brs (ed : Int → Nat → Nat → Prop) (A B U V : Nat → Int) (i : Nat) : Prop := (U i = 0 ∧ V i = 0) ∧ ∀ j, j < 10 → ¬ lv (ed (i : Int)) (A i).toNat j (B i).toNat
def zBs (x : Int) (Q : Nat → Prop) (k : Int) : Prop := ∀ i, zbt x i = 1 ↔ (i : Int) < k ∧ Q i
theorem zBs_0 {Q : Nat → Prop} : zBs 0 Q 0 := fun i => by
  rw [zbt_z]
  exact ⟨fun h => absurd h (by decide), fun h => by omega⟩
theorem zBs_no {x k : Int} {Q : Nat → Prop} (h : zBs x Q k) (h0 : 0 ≤ k) (hq : ¬ Q k.toNat) : zBs x Q (k + 1) := fun i => by
  rw [h i]
  refine ⟨fun ⟨a, b⟩ => ⟨by omega, b⟩, fun ⟨a, b⟩ => ⟨?_, b⟩⟩
  by_cases c : (i : Int) < k
  · exact c
  · rw [show i = k.toNat by omega] at b; exact absurd b hq
theorem zBs_put {x y k : Int} {Q : Nat → Prop} (h : zBs x Q k) (hy : y = zso x k.toNat) (h0 : 0 ≤ k) (hq : Q k.toNat) : zBs y Q (k + 1) := fun i => by
  rw [hy, zbt_so]
  by_cases c : i = k.toNat
  · rw [if_pos c, c]; exact ⟨fun _ => ⟨by omega, hq⟩, fun _ => rfl⟩
  · rw [if_neg c, h i]
    exact ⟨fun ⟨a, b⟩ => ⟨by omega, b⟩, fun ⟨a, b⟩ => ⟨by omega, b⟩⟩
theorem zBs_un {x y k : Int} {Q : Nat → Prop} (h : zBs x Q k) (g : zBs y Q k) (hx : 0 ≤ x) (hy : 0 ≤ y) : x = y := by
  have e : x.toNat = y.toNat := by
    apply Nat.eq_of_testBit_eq
    intro i
    have := (h i).trans (g i).symm
    unfold zbt at this
    cases h1 : x.toNat.testBit i <;> cases h2 : y.toNat.testBit i <;> simp [h1, h2] at this ⊢
  omega
/-- of the class -/
theorem brs_no {f6 f7 : Nat → Int} {x v w n P i : Int} (h0 : zSy x v w n) (hi : 0 ≤ i ∧ i < n ∧ n ≤ 60) (hb : zbt x i.toNat = 0) : ¬ brs (fun o => edp f6 f7 v w n o P) f6 f7 (zbt v) (zbt w) i.toNat := fun h => by
  have := (h0 i.toNat (by omega)).mpr ⟨by omega, h.1.1, h.1.2⟩
  omega
theorem brs_c {lk f6 f7 f : Nat → Int} {x x2 y v w n P i a b c : Int} (h1 : zLk lk f6 f7 x2 n) (h2 : zFa (edk lk P) a P f) (h0 : zSy x v w n) (o : x2 = zan x y) (hy : y = 2 ^ i.toNat) (hi : 0 ≤ i ∧ i < n ∧ n ≤ 60) (hb : zbt x i.toNat = 1) (ha : a = f6 i.toNat) (hb2 : b = f7 i.toNat ∧ 0 ≤ b ∧ b < P) (hc : c = f b.toNat) (hP : P ≤ 10) : (c = -1 ∧ brs (fun o => edp f6 f7 v w n o P) f6 f7 (zbt v) (zbt w) i.toNat) ∨ (c ≠ -1 ∧ ¬ brs (fun o => edp f6 f7 v w n o P) f6 f7 (zbt v) (zbt w) i.toNat) := by
  have u := (h0 i.toNat (by omega)).mp hb
  rw [edk_o h0 o hy hi.1 h1 hP hi.2.2] at h2
  unfold brs
  rw [show ((i.toNat : Nat) : Int) = i by omega, ← ha, ← hb2.1]
  rcases h2 b.toNat (by omega) with ⟨y1, y2⟩ | ⟨j, y1, y2, y3⟩
  · exact Or.inl ⟨by omega, u.2, y2⟩
  · exact Or.inr ⟨by omega, fun z => z.2 j y1 y3⟩
/-- of the reference -/
theorem brr_c {g f : Nat → Int} {n i a b c : Int} (h2 : zGd (edr g n i) a f) (hi : 0 ≤ i) (hs : g (94 + 6 * i.toNat) = 0 ∧ g (95 + 6 * i.toNat) = 0) (ha : a = g (91 + 6 * i.toNat)) (hb2 : b = g (92 + 6 * i.toNat) ∧ 0 ≤ b ∧ b ≤ 9) (hc : c = f b.toNat) : (100000000 ≤ c ∧ brs (fun o => edr g n o) (fun i => g (91 + 6 * i)) (fun i => g (92 + 6 * i)) (fun i => g (94 + 6 * i)) (fun i => g (95 + 6 * i)) i.toNat) ∨ (c < 100000000 ∧ ¬ brs (fun o => edr g n o) (fun i => g (91 + 6 * i)) (fun i => g (92 + 6 * i)) (fun i => g (94 + 6 * i)) (fun i => g (95 + 6 * i)) i.toNat) := by
  unfold brs
  dsimp only
  rw [show ((i.toNat : Nat) : Int) = i by omega, ← ha, ← hb2.1]
  rcases h2 b.toNat (by omega) with ⟨y1, y2⟩ | ⟨j, y1, y2, y3⟩
  · exact Or.inl ⟨by omega, hs, y2⟩
  · exact Or.inr ⟨by omega, fun z => z.2 j y1 y3⟩
theorem brr_no {g : Nat → Int} {n i : Int} (hs : g (94 + 6 * i.toNat) ≠ 0 ∨ g (95 + 6 * i.toNat) ≠ 0) : ¬ brs (fun o => edr g n o) (fun i => g (91 + 6 * i)) (fun i => g (92 + 6 * i)) (fun i => g (94 + 6 * i)) (fun i => g (95 + 6 * i)) i.toNat := fun h => by
  have h1 : g (94 + 6 * i.toNat) = 0 ∧ g (95 + 6 * i.toNat) = 0 := h.1
  omega
theorem zBs_cg {x k : Int} {Q R : Nat → Prop} (h : zBs x Q k) (e : ∀ i : Nat, (i : Int) < k → (Q i ↔ R i)) : zBs x R k := fun i => by
  rw [h i]
  exact ⟨fun ⟨a, b⟩ => ⟨a, (e i a).mp b⟩, fun ⟨a, b⟩ => ⟨a, (e i a).mpr b⟩⟩
theorem brs_t {a : Prop} {c k : Int} (h : (c = k ∧ a) ∨ (c ≠ k ∧ ¬ a)) (e : c = k) : a := h.elim (fun z => z.2) (fun z => absurd e z.1)
theorem brs_f {a : Prop} {c k : Int} (h : (c = k ∧ a) ∨ (c ≠ k ∧ ¬ a)) (e : c ≠ k) : ¬ a := h.elim (fun z => absurd z.1 e) (fun z => z.2)
theorem brr_t {a : Prop} {c k : Int} (h : (k ≤ c ∧ a) ∨ (c < k ∧ ¬ a)) (e : k ≤ c) : a := h.elim (fun z => z.2) (fun z => by omega)
theorem brr_f {a : Prop} {c k : Int} (h : (k ≤ c ∧ a) ∨ (c < k ∧ ¬ a)) (e : c < k) : ¬ a := h.elim (fun z => by omega) (fun z => z.2)
/-! bits of an int, exactly -/
theorem zi_nn {x : Int32} {n : Nat} (h : x.toBitVec.toNat = n) (hn : n < 2147483648) : x.toInt = n := by
  show x.toBitVec.toInt = n
  rw [BitVec.toInt_eq_toNat_of_lt (by omega), h]
theorem zi_bv {v : Int} (h0 : 0 ≤ v) (h1 : v < 2147483648) : (Int32.ofInt v).toBitVec.toNat = v.toNat := by
  show (BitVec.ofInt 32 v).toNat = v.toNat
  rw [BitVec.toNat_ofInt]
  omega
theorem zor32 {x y : Int} (hx : 0 ≤ x ∧ x ≤ 1023) (hy : 0 ≤ y ∧ y ≤ 1023) : (Int32.ofInt x ||| Int32.ofInt y).toInt = zor x y := by
  refine zi_nn ?_ ?_
  · rw [Int32.toBitVec_or, BitVec.toNat_or, zi_bv hx.1 (by omega), zi_bv hy.1 (by omega)]
  · exact Nat.or_lt_two_pow (n := 31) (by omega) (by omega)
theorem zor_le {x y : Int} (hx : 0 ≤ x ∧ x ≤ 1023) (hy : 0 ≤ y ∧ y ≤ 1023) : 0 ≤ zor x y ∧ zor x y ≤ 1023 := by
  unfold zor
  have := Nat.or_lt_two_pow (n := 10) (show x.toNat < 2 ^ 10 by omega) (show y.toNat < 2 ^ 10 by omega)
  omega
theorem zbv_an {w : Nat} (a b : BitVec w) : (a &&& ~~~b).toNat = a.toNat ^^^ (a.toNat &&& b.toNat) := by
  apply Nat.eq_of_testBit_eq
  intro i
  rw [BitVec.testBit_toNat, BitVec.getLsbD_and, BitVec.getLsbD_not, Nat.testBit_xor, Nat.testBit_and, BitVec.testBit_toNat, BitVec.testBit_toNat]
  by_cases h : i < w
  · rw [decide_eq_true h, Bool.true_and]
    generalize a.getLsbD i = u
    generalize b.getLsbD i = v
    cases u <;> cases v <;> rfl
  · have h1 : a.getLsbD i = false := BitVec.getLsbD_of_ge a i (by omega)
    simp [h1]
theorem zan_le (x y : Int) (hx : 0 ≤ x) : 0 ≤ zan x y ∧ zan x y ≤ x := by
  unfold zan
  have e : x.toNat ^^^ (x.toNat &&& y.toNat) = x.toNat &&& (x.toNat ^^^ (x.toNat &&& y.toNat)) := by
    apply Nat.eq_of_testBit_eq
    intro i
    rw [Nat.testBit_and, Nat.testBit_xor, Nat.testBit_and]
    cases x.toNat.testBit i <;> cases y.toNat.testBit i <;> rfl
  have h : x.toNat ^^^ (x.toNat &&& y.toNat) ≤ x.toNat := by rw [e]; exact Nat.and_le_left
  omega
theorem zcm32 {y : Int} (h : 0 ≤ y ∧ y < 2147483648) : (Int32.ofInt (-1 - y)).toBitVec = ~~~ (Int32.ofInt y).toBitVec := by
  apply BitVec.eq_of_toNat_eq
  rw [BitVec.toNat_not, zi_bv h.1 h.2]
  show (BitVec.ofInt 32 (-1 - y)).toNat = _
  rw [BitVec.toNat_ofInt]
  omega
theorem zcm64 {y : Int} (h : 0 ≤ y ∧ y < 9223372036854775808) : (Int64.ofInt (-1 - y)).toBitVec = ~~~ (Int64.ofInt y).toBitVec := by
  apply BitVec.eq_of_toNat_eq
  rw [BitVec.toNat_not, zl_bv h.1 h.2]
  show (BitVec.ofInt 64 (-1 - y)).toNat = _
  rw [BitVec.toNat_ofInt]
  omega
theorem zan32 {x y : Int} (hx : 0 ≤ x ∧ x < 2147483648) (hy : 0 ≤ y ∧ y < 2147483648) : (Int32.ofInt x &&& Int32.ofInt (-1 - y)).toInt = zan x y := by
  have hl := zan_le x y hx.1
  have hz : zan x y = ((x.toNat ^^^ (x.toNat &&& y.toNat) : Nat) : Int) := rfl
  refine zi_nn ?_ (by omega)
  rw [Int32.toBitVec_and, zcm32 hy, zbv_an, zi_bv hx.1 hx.2, zi_bv hy.1 hy.2]
theorem zan64 {x y : Int} (hx : 0 ≤ x ∧ x < 9223372036854775808) (hy : 0 ≤ y ∧ y < 9223372036854775808) : (Int64.ofInt x &&& Int64.ofInt (-1 - y)).toInt = zan x y := by
  have hl := zan_le x y hx.1
  have hz : zan x y = ((x.toNat ^^^ (x.toNat &&& y.toNat) : Nat) : Int) := rfl
  refine zl_nn ?_ (by omega)
  rw [Int64.toBitVec_and, zcm64 hy, zbv_an, zl_bv hx.1 hx.2, zl_bv hy.1 hy.2]
theorem zxm32 {x : Int} (hx : 0 ≤ x ∧ x < 2147483648) : (Int32.ofInt x ^^^ Int32.ofInt (-1)).toInt = -1 - x := by
  show ((Int32.ofInt x).toBitVec ^^^ (Int32.ofInt (-1)).toBitVec).toInt = _
  rw [show (Int32.ofInt (-1)).toBitVec = BitVec.allOnes 32 by decide, BitVec.xor_allOnes, BitVec.toInt_eq_toNat_cond, BitVec.toNat_not, zi_bv hx.1 hx.2]
  split <;> omega
theorem zxm64 {x : Int} (hx : 0 ≤ x ∧ x < 9223372036854775808) : (Int64.ofInt x ^^^ Int64.ofInt (-1)).toInt = -1 - x := by
  show ((Int64.ofInt x).toBitVec ^^^ (Int64.ofInt (-1)).toBitVec).toInt = _
  rw [show (Int64.ofInt (-1)).toBitVec = BitVec.allOnes 64 by decide, BitVec.xor_allOnes, BitVec.toInt_eq_toNat_cond, BitVec.toNat_not, zl_bv hx.1 hx.2]
  split <;> omega
theorem zsi_c : ∀ s : Fin 10, (Int32.ofInt 1 <<< (Int32.ofInt (s.val : Int) &&& 31)).toInt = 2 ^ s.val := by decide +kernel
theorem zsi_r : ∀ s : Fin 10, (((Int32.ofInt (s.val : Int) &&& 31).toBitVec).smod 32).toNat = s.val := by decide +kernel
theorem zshr32 {x s : Int} (hx : 0 ≤ x ∧ x < 2147483648) (hs : 0 ≤ s ∧ s ≤ 9) : (Int32.ofInt x >>> (Int32.ofInt s &&& 31)).toInt = ((x.toNat / 2 ^ s.toNat : Nat) : Int) := by
  have h := zsi_r ⟨s.toNat, by omega⟩
  dsimp only at h
  rw [show ((s.toNat : Nat) : Int) = s by omega] at h
  show (BitVec.sshiftRight' (Int32.ofInt x).toBitVec ((Int32.ofInt s &&& 31).toBitVec.smod 32)).toInt = _
  unfold BitVec.sshiftRight'
  rw [h, BitVec.toInt_sshiftRight]
  have e : (Int32.ofInt x).toBitVec.toInt = x := by
    rw [BitVec.toInt_eq_toNat_of_lt (by rw [zi_bv hx.1 hx.2]; omega), zi_bv hx.1 hx.2]
    omega
  rw [e, Int.shiftRight_eq_div_pow, Int.natCast_ediv, show ((x.toNat : Nat) : Int) = x by omega]
/-! the rules -/
theorem zw_24p {E : zE} {d k pc q a1 a2 : Nat} {L S : List zV} {m : zM} {Q : zV → zM → Prop} {i : Instr} {s : Int} (h : zRow xM k pc = some (24, i, q, a1, a2)) (hs : 0 ≤ s ∧ s ≤ 9) (n : ∀ r : Int, r = 2 ^ s.toNat → 1 ≤ r → r ≤ 512 → zW E d k q L ((0, r) :: S) m Q) : zW E d k pc L ((0, s) :: (0, 1) :: S) m Q := by
  have e := zsi_c ⟨s.toNat, by omega⟩
  dsimp only at e
  rw [show ((s.toNat : Nat) : Int) = s by omega] at e
  have h1 : 2 ^ s.toNat ≤ 2 ^ 9 := Nat.pow_le_pow_right (by decide) (by omega)
  have h2 : 1 ≤ 2 ^ s.toNat := Nat.one_le_two_pow
  have h3 : (((2 ^ s.toNat : Nat)) : Int) = 2 ^ s.toNat := by push_cast; rfl
  exact zw_p h (by decide) (by decide) rfl (n _ e (by rw [e]; omega) (by rw [e]; omega))
theorem zw_22p {E : zE} {d k pc q a1 a2 : Nat} {L S : List zV} {m : zM} {Q : zV → zM → Prop} {i : Instr} {x y : Int} (h : zRow xM k pc = some (22, i, q, a1, a2)) (hx : 0 ≤ x ∧ x ≤ 1023) (hy : 0 ≤ y ∧ y ≤ 1023) (n : ∀ r : Int, r = zor x y → 0 ≤ r → r ≤ 1023 → zW E d k q L ((0, r) :: S) m Q) : zW E d k pc L ((0, y) :: (0, x) :: S) m Q := by
  have e := zor32 hx hy
  have b := zor_le hx hy
  exact zw_p h (by decide) (by decide) rfl (n _ e (by rw [e]; exact b.1) (by rw [e]; exact b.2))
theorem zw_23c {E : zE} {d k pc q a1 a2 : Nat} {L S : List zV} {m : zM} {Q : zV → zM → Prop} {i : Instr} {x : Int} (h : zRow xM k pc = some (23, i, q, a1, a2)) (hx : 0 ≤ x ∧ x ≤ 2147483647) (n : zW E d k q L ((0, (-1 - x)) :: S) m Q) : zW E d k pc L ((0, (-1)) :: (0, x) :: S) m Q := by
  refine zw_p h (by decide) (by decide) ?_ n
  show some (q, L, (0, (Int32.ofInt x ^^^ Int32.ofInt (-1)).toInt) :: S, m) = _
  rw [zxm32 ⟨hx.1, by omega⟩]
theorem zw_21n {E : zE} {d k pc q a1 a2 : Nat} {L S : List zV} {m : zM} {Q : zV → zM → Prop} {i : Instr} {x y : Int} (h : zRow xM k pc = some (21, i, q, a1, a2)) (hx : 0 ≤ x ∧ x ≤ 2147483647) (hy : 0 ≤ y ∧ y ≤ 2147483647) (n : ∀ r : Int, r = zan x y → 0 ≤ r → r ≤ x → zW E d k q L ((0, r) :: S) m Q) : zW E d k pc L ((0, (-1 - y)) :: (0, x) :: S) m Q := by
  have e := zan32 (x := x) (y := y) ⟨hx.1, by omega⟩ ⟨hy.1, by omega⟩
  have b := zan_le x y hx.1
  exact zw_p h (by decide) (by decide) rfl (n _ e (by rw [e]; exact b.1) (by rw [e]; exact b.2))
theorem zw_21o {E : zE} {d k pc q a1 a2 : Nat} {L S : List zV} {m : zM} {Q : zV → zM → Prop} {i : Instr} {x : Int} (h : zRow xM k pc = some (21, i, q, a1, a2)) (hx : 0 ≤ x ∧ x ≤ 2147483647) (n : zW E d k q L ((0, x % 2) :: S) m Q) : zW E d k pc L ((0, 1) :: (0, x) :: S) m Q := by
  have e2 : (Int32.ofInt x &&& Int32.ofInt 1).toInt = x % 2 := by
    have e : (Int32.ofInt x &&& Int32.ofInt 1).toInt = ((x.toNat &&& 1 : Nat) : Int) := by
      refine zi_nn ?_ (Nat.lt_of_le_of_lt Nat.and_le_right (by omega))
      rw [Int32.toBitVec_and, BitVec.toNat_and, zi_bv hx.1 (by omega), zi_bv (by omega) (by omega)]
      rfl
    rw [e, Nat.and_one_is_mod]
    omega
  refine zw_p h (by decide) (by decide) ?_ n
  show some (q, L, (0, (Int32.ofInt x &&& Int32.ofInt 1).toInt) :: S, m) = _
  rw [e2]
theorem zw_25p {E : zE} {d k pc q a1 a2 : Nat} {L S : List zV} {m : zM} {Q : zV → zM → Prop} {i : Instr} {x s : Int} (h : zRow xM k pc = some (25, i, q, a1, a2)) (hs : 0 ≤ s ∧ s ≤ 9) (hx : 0 ≤ x ∧ x ≤ 2147483647) (n : ∀ r : Int, r % 2 = zbt x s.toNat → 0 ≤ r → r ≤ 2147483647 → zW E d k q L ((0, r) :: S) m Q) : zW E d k pc L ((0, s) :: (0, x) :: S) m Q := by
  have e := zshr32 (x := x) (s := s) ⟨hx.1, by omega⟩ hs
  have hb : x.toNat / 2 ^ s.toNat ≤ x.toNat := Nat.div_le_self _ _
  have hz : zbt x s.toNat = if decide (x.toNat / 2 ^ s.toNat % 2 = 1) then 1 else 0 := by unfold zbt; rw [Nat.testBit_eq_decide_div_mod_eq]
  generalize x.toNat / 2 ^ s.toNat = w at e hb hz
  refine zw_p h (by decide) (by decide) rfl (n _ ?_ (by rw [e]; omega) (by rw [e]; omega))
  rw [e, hz]
  by_cases hq : w % 2 = 1
  · rw [decide_eq_true hq, if_pos rfl]; omega
  · rw [decide_eq_false hq, if_neg (by decide)]; omega
theorem zw_33q {E : zE} {d k pc q a1 a2 : Nat} {L S : List zV} {m : zM} {Q : zV → zM → Prop} {i : Instr} {s : Int} (h : zRow xM k pc = some (33, i, q, a1, a2)) (hs : 0 ≤ s ∧ s ≤ 60) (n : ∀ r : Int, r = 2 ^ s.toNat → 1 ≤ r → r ≤ 1152921504606846976 → zW E d k q L ((1, r) :: S) m Q) : zW E d k pc L ((0, s) :: (1, 1) :: S) m Q := by
  have h1 : 2 ^ s.toNat ≤ 2 ^ 60 := Nat.pow_le_pow_right (by decide) (by omega)
  have h3 : (((2 ^ s.toNat : Nat)) : Int) = 2 ^ s.toNat := by push_cast; rfl
  exact zw_33p h (by omega) (fun r e a _ => n r e a (by rw [e]; omega))
theorem zw_32c {E : zE} {d k pc q a1 a2 : Nat} {L S : List zV} {m : zM} {Q : zV → zM → Prop} {i : Instr} {x : Int} (h : zRow xM k pc = some (32, i, q, a1, a2)) (hx : 0 ≤ x ∧ x ≤ 9223372036854775807) (n : zW E d k q L ((1, (-1 - x)) :: S) m Q) : zW E d k pc L ((1, (-1)) :: (1, x) :: S) m Q := by
  refine zw_p h (by decide) (by decide) ?_ n
  show some (q, L, (1, (Int64.ofInt x ^^^ Int64.ofInt (-1)).toInt) :: S, m) = _
  rw [zxm64 ⟨hx.1, by omega⟩]
theorem zw_30n {E : zE} {d k pc q a1 a2 : Nat} {L S : List zV} {m : zM} {Q : zV → zM → Prop} {i : Instr} {x y : Int} (h : zRow xM k pc = some (30, i, q, a1, a2)) (hx : 0 ≤ x ∧ x ≤ 9223372036854775807) (hy : 0 ≤ y ∧ y ≤ 9223372036854775807) (n : ∀ r : Int, r = zan x y → 0 ≤ r → r ≤ x → zW E d k q L ((1, r) :: S) m Q) : zW E d k pc L ((1, (-1 - y)) :: (1, x) :: S) m Q := by
  have e := zan64 (x := x) (y := y) ⟨hx.1, by omega⟩ ⟨hy.1, by omega⟩
  have b := zan_le x y hx.1
  exact zw_p h (by decide) (by decide) rfl (n _ e (by rw [e]; exact b.1) (by rw [e]; exact b.2))
theorem zw_31z {E : zE} {d k pc q a1 a2 : Nat} {L S : List zV} {m : zM} {Q : zV → zM → Prop} {i : Instr} {x : Int} (h : zRow xM k pc = some (31, i, q, a1, a2)) (hx : 0 ≤ x ∧ x ≤ 9223372036854775807) (n : zW E d k q L ((1, x) :: S) m Q) : zW E d k pc L ((1, 0) :: (1, x) :: S) m Q := by
  refine zw_p h (by decide) (by decide) ?_ n
  show some (q, L, (1, (Int64.ofInt x ||| Int64.ofInt 0).toInt) :: S, m) = _
  rw [zor64 (by omega) (by omega), show (0 : Int).toNat = 0 from rfl, Nat.or_zero, show ((x.toNat : Nat) : Int) = x by omega]
