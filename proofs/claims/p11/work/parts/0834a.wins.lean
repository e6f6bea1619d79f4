/-! sums -/
def sm (f : Nat → Int) : Nat → Int
  | 0 => 0
  | n + 1 => sm f n + f n
theorem sm_s (f : Nat → Int) (n : Nat) : sm f (n + 1) = sm f n + f n := rfl
theorem sm_cg {f g : Nat → Int} {n : Nat} (h : ∀ i, i < n → f i = g i) : sm f n = sm g n := by
  induction n with
  | zero => rfl
  | succ n ih => rw [sm_s, sm_s, ih (fun i hi => h i (by omega)), h n (by omega)]
theorem sm_add (f g : Nat → Int) (n : Nat) : sm (fun i => f i + g i) n = sm f n + sm g n := by
  induction n with
  | zero => rfl
  | succ n ih => rw [sm_s, sm_s, sm_s, ih]; omega
theorem sm_0 {f : Nat → Int} {n : Nat} (h : ∀ i, i < n → f i = 0) : sm f n = 0 := by
  induction n with
  | zero => rfl
  | succ n ih => rw [sm_s, ih (fun i hi => h i (by omega)), h n (by omega)]; rfl
/-- pairs of two that differ, and pairs in order, both ways -/
theorem sm_pairs (u : Nat → Nat → Int) (n : Nat) : sm (fun b => sm (fun c => if b ≠ c then u b c else 0) n) n = sm (fun b => sm (fun c => if b < c then u b c + u c b else 0) n) n := by
  induction n with
  | zero => rfl
  | succ n ih =>
    have a1 : sm (fun b => sm (fun c => if b ≠ c then u b c else 0) (n + 1)) n = sm (fun b => sm (fun c => if b ≠ c then u b c else 0) n) n + sm (fun b => u b n) n := by
      rw [← sm_add]
      refine sm_cg (fun b hb => ?_)
      rw [sm_s, if_pos (by omega)]
    have a2 : sm (fun c => if n ≠ c then u n c else 0) (n + 1) = sm (fun c => u n c) n := by
      rw [sm_s, if_neg (by omega), Int.add_zero]
      exact sm_cg (fun c hc => if_pos (by omega))
    have b1 : sm (fun b => sm (fun c => if b < c then u b c + u c b else 0) (n + 1)) n = sm (fun b => sm (fun c => if b < c then u b c + u c b else 0) n) n + sm (fun b => u b n + u n b) n := by
      rw [← sm_add]
      refine sm_cg (fun b hb => ?_)
      rw [sm_s, if_pos (by omega)]
    have b2 : sm (fun c => if n < c then u n c + u c n else 0) (n + 1) = 0 := by
      refine sm_0 (fun c hc => if_neg (by omega))
    have l1 : sm (fun b => sm (fun c => if b ≠ c then u b c else 0) (n + 1)) (n + 1) = sm (fun b => sm (fun c => if b ≠ c then u b c else 0) (n + 1)) n + sm (fun c => if n ≠ c then u n c else 0) (n + 1) := rfl
    have l2 : sm (fun b => sm (fun c => if b < c then u b c + u c b else 0) (n + 1)) (n + 1) = sm (fun b => sm (fun c => if b < c then u b c + u c b else 0) (n + 1)) n + sm (fun c => if n < c then u n c + u c n else 0) (n + 1) := rfl
    rw [l1, l2, a1, a2, b1, b2, ih, sm_add (fun b => u b n) (fun b => u n b)]
    omega
/-! who beat whom: counted by place (the class), found (the reference) -/
def wix (f6 f7 f8 : Nat → Int) (n : Nat) : Int := if f8 n = 2 then f6 n * 10 + f7 n else f7 n * 10 + f6 n
def wnv (f6 f7 f8 : Nat → Int) (v k : Int) : Nat → Int
  | 0 => 0
  | n + 1 => wnv f6 f7 f8 v k n + (if zbt v n = 0 ∧ f8 n ≠ 1 ∧ wix f6 f7 f8 n = k then 1 else 0)
theorem wnv_s (f6 f7 f8 : Nat → Int) (v k : Int) (n : Nat) : wnv f6 f7 f8 v k (n + 1) = wnv f6 f7 f8 v k n + (if zbt v n = 0 ∧ f8 n ≠ 1 ∧ wix f6 f7 f8 n = k then 1 else 0) := rfl
theorem wnv_le (f6 f7 f8 : Nat → Int) (v k : Int) (n : Nat) : 0 ≤ wnv f6 f7 f8 v k n ∧ wnv f6 f7 f8 v k n ≤ n := by
  induction n with
  | zero => exact ⟨Int.le_refl _, Int.le_refl _⟩
  | succ n ih =>
    rw [wnv_s]
    split <;> omega
def zWn (f f6 f7 f8 : Nat → Int) (v n : Int) : Prop := ∀ k : Nat, k < 100 → f k = wnv f6 f7 f8 v (k : Int) n.toNat
theorem zWn_0 {f f6 f7 f8 : Nat → Int} {v : Int} (h : zFil f 100 0) : zWn f f6 f7 f8 v 0 := fun k hk => h k (by omega)
theorem zWn_le {f f6 f7 f8 : Nat → Int} {v n : Int} {k : Nat} (h : zWn f f6 f7 f8 v n) (h0 : 0 ≤ n) (hk : k < 100) : f k ≤ n := by
  rw [h k hk]
  have := wnv_le f6 f7 f8 v (k : Int) n.toNat
  omega
theorem zWn_skip {f f6 f7 f8 : Nat → Int} {v n : Int} (h : zWn f f6 f7 f8 v n) (h0 : 0 ≤ n) (hs : zbt v n.toNat ≠ 0 ∨ f8 n.toNat = 1) : zWn f f6 f7 f8 v (n + 1) := by
  intro k hk
  rw [show (n + 1).toNat = n.toNat + 1 by omega, wnv_s, if_neg (by omega), h k hk, Int.add_zero]
theorem zWn_put {f f6 f7 f8 : Nat → Int} {v n K x : Int} (h : zWn f f6 f7 f8 v n) (h0 : 0 ≤ n) (hz : zbt v n.toNat = 0) (he : f8 n.toNat ≠ 1) (hK : (f8 n.toNat = 2 ∧ K = f6 n.toNat * 10 + f7 n.toNat) ∨ (f8 n.toNat ≠ 2 ∧ K = f7 n.toNat * 10 + f6 n.toNat)) (hK2 : 0 ≤ K ∧ K < 100) (hx : x = f K.toNat) : zWn (zPt f K.toNat (x + 1)) f6 f7 f8 v (n + 1) := by
  intro k hk
  have hw : wix f6 f7 f8 n.toNat = K := by
    unfold wix
    rcases hK with ⟨a, b⟩ | ⟨a, b⟩
    · rw [if_pos a, b]
    · rw [if_neg a, b]
  rw [show (n + 1).toNat = n.toNat + 1 by omega, wnv_s, hw]
  by_cases e : k = K.toNat
  · rw [e, zPt_eq, hx, if_pos ⟨hz, he, by omega⟩, h K.toNat (by omega)]
  · rw [zPt_ne e, if_neg (by omega), h k hk, Int.add_zero]
def rgv (f : Nat → Int) (a b c : Int) : Int := if 0 < f (a * 10 + b).toNat ∧ 0 < f (b * 10 + c).toNat ∧ 0 < f (c * 10 + a).toNat then 1 else 0
theorem rgv_01 (f : Nat → Int) (a b c : Int) : 0 ≤ rgv f a b c ∧ rgv f a b c ≤ 1 := by
  unfold rgv
  split <;> omega
def ra3 (f : Nat → Int) (a b c : Nat) : Int := sm (fun k => if b < k then rgv f (a : Int) (b : Int) (k : Int) + rgv f (a : Int) (k : Int) (b : Int) else 0) c
def ra2 (f : Nat → Int) (P a b : Nat) : Int := sm (fun j => if a < j then ra3 f a j P else 0) b
def ra1 (f : Nat → Int) (P a : Nat) : Int := sm (fun i => ra2 f P i P) a
theorem ra3_s (f : Nat → Int) (a b c : Int) (ha : 0 ≤ a) (hb : 0 ≤ b) (hc : b < c) : ra3 f a.toNat b.toNat (c + 1).toNat = ra3 f a.toNat b.toNat c.toNat + (rgv f a b c + rgv f a c b) := by
  have e : ra3 f a.toNat b.toNat (c.toNat + 1) = ra3 f a.toNat b.toNat c.toNat + (if b.toNat < c.toNat then rgv f (a.toNat : Int) (b.toNat : Int) (c.toNat : Int) + rgv f (a.toNat : Int) (c.toNat : Int) (b.toNat : Int) else 0) := rfl
  rw [show (c + 1).toNat = c.toNat + 1 by omega, e, if_pos (by omega), show ((a.toNat : Nat) : Int) = a by omega, show ((b.toNat : Nat) : Int) = b by omega, show ((c.toNat : Nat) : Int) = c by omega]
theorem ra3_0 (f : Nat → Int) (a b : Int) (hb : 0 ≤ b) : ra3 f a.toNat b.toNat (b + 1).toNat = 0 := sm_0 (fun k hk => if_neg (by omega))
theorem ra2_s (f : Nat → Int) (P : Nat) (a b : Int) (ha : 0 ≤ a) (hb : a < b) : ra2 f P a.toNat (b + 1).toNat = ra2 f P a.toNat b.toNat + ra3 f a.toNat b.toNat P := by
  have e : ra2 f P a.toNat (b.toNat + 1) = ra2 f P a.toNat b.toNat + (if a.toNat < b.toNat then ra3 f a.toNat b.toNat P else 0) := rfl
  rw [show (b + 1).toNat = b.toNat + 1 by omega, e, if_pos (by omega)]
theorem ra2_0 (f : Nat → Int) (P : Nat) (a : Int) (ha : 0 ≤ a) : ra2 f P a.toNat (a + 1).toNat = 0 := sm_0 (fun k hk => if_neg (by omega))
theorem ra1_s (f : Nat → Int) (P : Nat) (a : Int) (ha : 0 ≤ a) : ra1 f P (a + 1).toNat = ra1 f P a.toNat + ra2 f P a.toNat P := by
  rw [show (a + 1).toNat = a.toNat + 1 by omega]
  rfl
/-! the reference -/
def hbv (g : Nat → Int) (a b : Int) : Nat → Int
  | 0 => 0
  | n + 1 => if hbv g a b n = 1 ∨ (((g (91 + 6 * n) = a ∧ g (92 + 6 * n) = b ∧ g (93 + 6 * n) = 2) ∨ (g (91 + 6 * n) = b ∧ g (92 + 6 * n) = a ∧ g (93 + 6 * n) = 0)) ∧ g (94 + 6 * n) = 0) then 1 else 0
theorem zhb (g : Nat → Int) (a b : Int) (n k k1 k2 k3 k4 : Nat) (h : k = n + 1) (h1 : k1 = 91 + 6 * n) (h2 : k2 = 92 + 6 * n) (h3 : k3 = 93 + 6 * n) (h4 : k4 = 94 + 6 * n) : (hbv g a b k = 1 ∧ (hbv g a b n = 1 ∨ (((g k1 = a ∧ g k2 = b ∧ g k3 = 2) ∨ (g k1 = b ∧ g k2 = a ∧ g k3 = 0)) ∧ g k4 = 0))) ∨ (hbv g a b k = 0 ∧ hbv g a b n ≠ 1 ∧ ¬ (((g k1 = a ∧ g k2 = b ∧ g k3 = 2) ∨ (g k1 = b ∧ g k2 = a ∧ g k3 = 0)) ∧ g k4 = 0)) := by
  subst h h1 h2 h3 h4
  have e : hbv g a b (n + 1) = if hbv g a b n = 1 ∨ (((g (91 + 6 * n) = a ∧ g (92 + 6 * n) = b ∧ g (93 + 6 * n) = 2) ∨ (g (91 + 6 * n) = b ∧ g (92 + 6 * n) = a ∧ g (93 + 6 * n) = 0)) ∧ g (94 + 6 * n) = 0) then 1 else 0 := rfl
  rw [e]
  by_cases hc : hbv g a b n = 1 ∨ (((g (91 + 6 * n) = a ∧ g (92 + 6 * n) = b ∧ g (93 + 6 * n) = 2) ∨ (g (91 + 6 * n) = b ∧ g (92 + 6 * n) = a ∧ g (93 + 6 * n) = 0)) ∧ g (94 + 6 * n) = 0)
  · rw [if_pos hc]; exact Or.inl ⟨rfl, hc⟩
  · rw [if_neg hc]; exact Or.inr ⟨rfl, fun q => hc (Or.inl q), fun q => hc (Or.inr q)⟩
def tgv (g : Nat → Int) (N : Nat) (a b c : Int) : Int := if hbv g a b N = 1 ∧ hbv g b c N = 1 ∧ hbv g c a N = 1 then 1 else 0
def t3 (g : Nat → Int) (N a b c : Nat) : Int := sm (fun k => if a < k ∧ b ≠ k then tgv g N (a : Int) (b : Int) (k : Int) else 0) c
def t2 (g : Nat → Int) (N P a b : Nat) : Int := sm (fun j => if a < j then t3 g N a j P else 0) b
def t1 (g : Nat → Int) (N P a : Nat) : Int := sm (fun i => t2 g N P i P) a
/-! both alike -/
theorem wn_hb {f6 f7 f8 g : Nat → Int} {v a b : Int} {n : Nat} (h6 : ∀ i, i < n → g (91 + 6 * i) = f6 i) (h7 : ∀ i, i < n → g (92 + 6 * i) = f7 i) (h8 : ∀ i, i < n → g (93 + 6 * i) = f8 i) (h9 : ∀ i, i < n → g (94 + 6 * i) = zbt v i) (b6 : ∀ i, i < n → 0 ≤ f6 i ∧ f6 i ≤ 9) (b7 : ∀ i, i < n → 0 ≤ f7 i ∧ f7 i ≤ 9) (b8 : ∀ i, i < n → 0 ≤ f8 i ∧ f8 i ≤ 2) (ha : 0 ≤ a ∧ a ≤ 9) (hb : 0 ≤ b ∧ b ≤ 9) : (0 < wnv f6 f7 f8 v (a * 10 + b) n ∧ hbv g a b n = 1) ∨ (wnv f6 f7 f8 v (a * 10 + b) n = 0 ∧ hbv g a b n = 0) := by
  induction n with
  | zero => exact Or.inr ⟨rfl, rfl⟩
  | succ n ih =>
    have ih := ih (fun i hi => h6 i (by omega)) (fun i hi => h7 i (by omega)) (fun i hi => h8 i (by omega)) (fun i hi => h9 i (by omega)) (fun i hi => b6 i (by omega)) (fun i hi => b7 i (by omega)) (fun i hi => b8 i (by omega))
    have s := zhb g a b n (n + 1) _ _ _ _ rfl rfl rfl rfl rfl
    rw [h6 n (by omega), h7 n (by omega), h8 n (by omega), h9 n (by omega)] at s
    have c6 := b6 n (by omega)
    have c7 := b7 n (by omega)
    have c8 := b8 n (by omega)
    have hl := wnv_le f6 f7 f8 v (a * 10 + b) n
    rw [wnv_s]
    unfold wix
    by_cases h2 : f8 n = 2
    · rw [if_pos h2]
      by_cases hc : zbt v n = 0 ∧ f8 n ≠ 1 ∧ f6 n * 10 + f7 n = a * 10 + b
      · rw [if_pos hc]; omega
      · rw [if_neg hc]; omega
    · rw [if_neg h2]
      by_cases hc : zbt v n = 0 ∧ f8 n ≠ 1 ∧ f7 n * 10 + f6 n = a * 10 + b
      · rw [if_pos hc]; omega
      · rw [if_neg hc]; omega
theorem ra1_t1 {f f6 f7 f8 g : Nat → Int} {v : Int} {n P : Nat} (hP : P ≤ 10) (hf : ∀ k : Nat, k < 100 → f k = wnv f6 f7 f8 v (k : Int) n) (h6 : ∀ i, i < n → g (91 + 6 * i) = f6 i) (h7 : ∀ i, i < n → g (92 + 6 * i) = f7 i) (h8 : ∀ i, i < n → g (93 + 6 * i) = f8 i) (h9 : ∀ i, i < n → g (94 + 6 * i) = zbt v i) (b6 : ∀ i, i < n → 0 ≤ f6 i ∧ f6 i ≤ 9) (b7 : ∀ i, i < n → 0 ≤ f7 i ∧ f7 i ≤ 9) (b8 : ∀ i, i < n → 0 ≤ f8 i ∧ f8 i ≤ 2) : ra1 f P P = t1 g n P P := by
  have hw : ∀ a b : Nat, a < 10 → b < 10 → ((0 < f ((a : Int) * 10 + (b : Int)).toNat ∧ hbv g (a : Int) (b : Int) n = 1) ∨ (f ((a : Int) * 10 + (b : Int)).toNat = 0 ∧ hbv g (a : Int) (b : Int) n = 0)) := by
    intro a b ha hb
    have := wn_hb (a := (a : Int)) (b := (b : Int)) h6 h7 h8 h9 b6 b7 b8 (by omega) (by omega)
    rw [hf _ (by omega), show (((((a : Int) * 10 + (b : Int)).toNat : Nat)) : Int) = (a : Int) * 10 + (b : Int) by omega]
    exact this
  have hr : ∀ a b c : Nat, a < 10 → b < 10 → c < 10 → rgv f (a : Int) (b : Int) (c : Int) = tgv g n (a : Int) (b : Int) (c : Int) := by
    intro a b c ha hb hc
    have x1 := hw a b ha hb
    have x2 := hw b c hb hc
    have x3 := hw c a hc ha
    unfold rgv tgv
    by_cases q : 0 < f ((a : Int) * 10 + (b : Int)).toNat ∧ 0 < f ((b : Int) * 10 + (c : Int)).toNat ∧ 0 < f ((c : Int) * 10 + (a : Int)).toNat
    · rw [if_pos q, if_pos (by omega)]
    · rw [if_neg q, if_neg (by omega)]
  refine sm_cg (fun i hi => ?_)
  have e1 : ra2 f P i P = sm (fun j => sm (fun k => if j < k then (if i < j ∧ i < k then tgv g n (i : Int) (j : Int) (k : Int) else 0) + (if i < k ∧ i < j then tgv g n (i : Int) (k : Int) (j : Int) else 0) else 0) P) P := by
    refine sm_cg (fun j hj => ?_)
    by_cases q : i < j
    · rw [if_pos q]
      refine sm_cg (fun k hk => ?_)
      by_cases q2 : j < k
      · rw [if_pos q2, if_pos q2, if_pos (by omega), if_pos (by omega), hr i j k (by omega) (by omega) (by omega), hr i k j (by omega) (by omega) (by omega)]
      · rw [if_neg q2, if_neg q2]
    · rw [if_neg q]
      refine (sm_0 (fun k hk => ?_)).symm
      rw [if_neg (show ¬ (i < j ∧ i < k) by omega), if_neg (show ¬ (i < k ∧ i < j) by omega)]
      split <;> rfl
  have e2 : t2 g n P i P = sm (fun j => sm (fun k => if j ≠ k then (if i < j ∧ i < k then tgv g n (i : Int) (j : Int) (k : Int) else 0) else 0) P) P := by
    refine sm_cg (fun j hj => ?_)
    by_cases q : i < j
    · rw [if_pos q]
      refine sm_cg (fun k hk => ?_)
      by_cases q2 : j ≠ k
      · by_cases q3 : i < k
        · rw [if_pos ⟨q3, q2⟩, if_pos q2, if_pos ⟨q, q3⟩]
        · rw [if_neg (fun z => q3 z.1), if_pos q2, if_neg (fun z => q3 z.2)]
      · rw [if_neg (fun z => q2 z.2), if_neg q2]
    · rw [if_neg q]
      refine (sm_0 (fun k hk => ?_)).symm
      rw [if_neg (show ¬ (i < j ∧ i < k) by omega)]
      split <;> rfl
  show ra2 f P i P = t2 g n P i P
  rw [e1, e2]
  exact (sm_pairs (fun j k => if i < j ∧ i < k then tgv g n (i : Int) (j : Int) (k : Int) else 0) P).symm
theorem t3_s (g : Nat → Int) (N : Nat) (a b c : Int) (ha : 0 ≤ a) (hb : 0 ≤ b) (hc : a < c) : (b = c ∧ t3 g N a.toNat b.toNat (c + 1).toNat = t3 g N a.toNat b.toNat c.toNat) ∨ (b ≠ c ∧ t3 g N a.toNat b.toNat (c + 1).toNat = t3 g N a.toNat b.toNat c.toNat + tgv g N a b c) := by
  have e : t3 g N a.toNat b.toNat (c.toNat + 1) = t3 g N a.toNat b.toNat c.toNat + (if a.toNat < c.toNat ∧ b.toNat ≠ c.toNat then tgv g N (a.toNat : Int) (b.toNat : Int) (c.toNat : Int) else 0) := rfl
  rw [show (c + 1).toNat = c.toNat + 1 by omega, e, show ((a.toNat : Nat) : Int) = a by omega, show ((b.toNat : Nat) : Int) = b by omega, show ((c.toNat : Nat) : Int) = c by omega]
  by_cases q : b = c
  · exact Or.inl ⟨q, by rw [if_neg (by omega), Int.add_zero]⟩
  · exact Or.inr ⟨q, by rw [if_pos (by omega)]⟩
theorem t3_0 (g : Nat → Int) (N : Nat) (a b : Int) (ha : 0 ≤ a) : t3 g N a.toNat b.toNat (a + 1).toNat = 0 := sm_0 (fun k hk => if_neg (by omega))
theorem t2_s (g : Nat → Int) (N P : Nat) (a b : Int) (ha : 0 ≤ a) (hb : a < b) : t2 g N P a.toNat (b + 1).toNat = t2 g N P a.toNat b.toNat + t3 g N a.toNat b.toNat P := by
  have e : t2 g N P a.toNat (b.toNat + 1) = t2 g N P a.toNat b.toNat + (if a.toNat < b.toNat then t3 g N a.toNat b.toNat P else 0) := rfl
  rw [show (b + 1).toNat = b.toNat + 1 by omega, e, if_pos (by omega)]
theorem t2_0 (g : Nat → Int) (N P : Nat) (a : Int) (ha : 0 ≤ a) : t2 g N P a.toNat (a + 1).toNat = 0 := sm_0 (fun k hk => if_neg (by omega))
theorem t1_s (g : Nat → Int) (N P : Nat) (a : Int) (ha : 0 ≤ a) : t1 g N P (a + 1).toNat = t1 g N P a.toNat + t2 g N P a.toNat P := by
  rw [show (a + 1).toNat = a.toNat + 1 by omega]
  rfl
theorem tgv_c (g : Nat → Int) (N : Nat) (a b c : Int) : (hbv g a b N = 1 ∧ hbv g b c N = 1 ∧ hbv g c a N = 1 ∧ tgv g N a b c = 1) ∨ ((hbv g a b N ≠ 1 ∨ hbv g b c N ≠ 1 ∨ hbv g c a N ≠ 1) ∧ tgv g N a b c = 0) := by
  unfold tgv
  by_cases h : hbv g a b N = 1 ∧ hbv g b c N = 1 ∧ hbv g c a N = 1
  · rw [if_pos h]; exact Or.inl ⟨h.1, h.2.1, h.2.2, rfl⟩
  · rw [if_neg h]; exact Or.inr ⟨by omega, rfl⟩
