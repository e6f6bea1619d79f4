/-! sets of meetings as bits -/
def bsb (s t : Int) : Prop := ∀ i, zbt s i = 1 → zbt t i = 1
def bdj (s t : Int) : Prop := ∀ i, zbt s i = 1 → zbt t i = 0
def b60 (s : Int) : Prop := 0 ≤ s ∧ s ≤ 1152921504606846975
def cz (s : Int) : Int := sm (zbt s) 60
theorem zbt_hi {s : Int} {i : Nat} (h : b60 s) (hi : 60 ≤ i) : zbt s i = 0 := by
  unfold zbt
  have : s.toNat.testBit i = false := Nat.testBit_lt_two_pow (Nat.lt_of_lt_of_le (show s.toNat < 2 ^ 60 by have := h.2; omega) (Nat.pow_le_pow_right (by decide) hi))
  rw [this]; rfl
theorem zbt_tb {s : Int} {i : Nat} : zbt s i = 1 ↔ s.toNat.testBit i = true := by
  unfold zbt
  cases s.toNat.testBit i
  · exact ⟨fun z => absurd z (by decide), fun z => absurd z (by decide)⟩
  · exact ⟨fun _ => rfl, fun _ => rfl⟩
theorem zbt_fb {s : Int} {i : Nat} : zbt s i = 0 ↔ s.toNat.testBit i = false := by
  unfold zbt
  cases s.toNat.testBit i
  · exact ⟨fun _ => rfl, fun _ => rfl⟩
  · exact ⟨fun z => absurd z (by decide), fun z => absurd z (by decide)⟩
theorem bsb_le {s t : Int} (h : bsb s t) (h0 : 0 ≤ s ∧ 0 ≤ t) : s ≤ t := by
  have e : s.toNat &&& t.toNat = s.toNat := by
    apply Nat.eq_of_testBit_eq
    intro i
    rw [Nat.testBit_and]
    cases hs : s.toNat.testBit i
    · rfl
    · rw [zbt_tb.mp (h i (zbt_tb.mpr hs))]; rfl
  have := Nat.and_le_right (n := s.toNat) (m := t.toNat)
  rw [e] at this
  omega
theorem bit_eq {s t : Int} (h0 : 0 ≤ s ∧ 0 ≤ t) (h : ∀ i, zbt s i = zbt t i) : s = t := by
  have a : bsb s t := fun i z => by rw [← h i]; exact z
  have b : bsb t s := fun i z => by rw [h i]; exact z
  have x := bsb_le a h0
  have y := bsb_le b ⟨h0.2, h0.1⟩
  omega
theorem nlt_bit {x y i : Nat} (hx : x.testBit i = false) (hy : y.testBit i = true) (h : ∀ j, i < j → x.testBit j = y.testBit j) : x < y := by
  have e : x / 2 ^ (i + 1) = y / 2 ^ (i + 1) := by
    apply Nat.eq_of_testBit_eq
    intro j
    rw [Nat.testBit_div_two_pow, Nat.testBit_div_two_pow]
    exact h _ (by omega)
  rw [Nat.pow_succ, ← Nat.div_div_eq_div_mul, ← Nat.div_div_eq_div_mul] at e
  rw [Nat.testBit_eq_decide_div_mod_eq] at hx hy
  have hx := of_decide_eq_false hx
  have hy := of_decide_eq_true hy
  by_cases c : x < y
  · exact c
  · have := Nat.div_le_div_right (c := 2 ^ i) (show y ≤ x by omega)
    omega
theorem bit_lt {s t : Int} (i : Nat) (h0 : 0 ≤ s ∧ 0 ≤ t) (hs : zbt s i = 0) (ht : zbt t i = 1) (hh : ∀ j, i < j → zbt s j = zbt t j) : s < t := by
  have := nlt_bit (x := s.toNat) (y := t.toNat) (i := i) (zbt_fb.mp hs) (zbt_tb.mp ht) (fun j hj => by
    have e := hh j hj
    cases hx : s.toNat.testBit j
    · have z := zbt_fb.mpr hx
      rw [e] at z
      exact (zbt_fb.mp z).symm
    · have z := zbt_tb.mpr hx
      rw [e] at z
      exact (zbt_tb.mp z).symm)
  omega
theorem sm_mono {f g : Nat → Int} {n j : Nat} (h : ∀ i, i < n → f i ≤ g i) (hj : j < n) (hs : f j + 1 ≤ g j) : sm f n + 1 ≤ sm g n := by
  induction n with
  | zero => exact absurd hj (Nat.not_lt_zero _)
  | succ n ih =>
    rw [sm_s, sm_s]
    have b := h n (by omega)
    by_cases c : j = n
    · subst c
      have a := sm_le (n := j) (fun i hi => h i (by omega))
      omega
    · have a := ih (fun i hi => h i (by omega)) (by omega)
      omega
theorem zbt_2 (s : Int) (i : Nat) : 0 ≤ zbt s i ∧ zbt s i ≤ 1 := by have := zbt_01 s i; omega
theorem cz_b (s : Int) : 0 ≤ cz s ∧ cz s ≤ 60 := by
  have := sm_b (f := zbt s) (c := 1) (n := 60) (fun i _ => zbt_2 s i)
  unfold cz; omega
theorem cz_le {s t : Int} (h : bsb s t) : cz s ≤ cz t := sm_le (fun i _ => by
  have a := zbt_01 s i
  have b := zbt_01 t i
  by_cases c : zbt s i = 1
  · have := h i c; omega
  · omega)
theorem cz_lt {s t : Int} {j : Nat} (h : bsb s t) (hj : j < 60) (h0 : zbt s j = 0) (h1 : zbt t j = 1) : cz s + 1 ≤ cz t := sm_mono (fun i _ => by
  have a := zbt_01 s i
  have b := zbt_01 t i
  by_cases c : zbt s i = 1
  · have := h i c; omega
  · omega) hj (by omega)
theorem sm_1 {f g : Nat → Int} {n j : Nat} (h : ∀ i, i < n → i ≠ j → f i = g i) (hj : j < n) : sm f n - f j = sm g n - g j := by
  induction n with
  | zero => exact absurd hj (Nat.not_lt_zero _)
  | succ n ih =>
    rw [sm_s, sm_s]
    by_cases c : j = n
    · subst c
      have a := sm_cg (f := f) (g := g) (n := j) (fun i hi => h i (by omega) (by omega))
      omega
    · have a := ih (fun i hi hh => h i (by omega) hh) (by omega)
      have b := h n (by omega) (fun z => c z.symm)
      omega
theorem cz_so {s : Int} {j : Nat} (h : zbt s j = 0) (hj : j < 60) : cz (zso s j) = cz s + 1 := by
  have a := sm_1 (f := zbt (zso s j)) (g := zbt s) (n := 60) (j := j) (fun i _ hn => by rw [zbt_so, if_neg hn]) hj
  rw [zbt_so, if_pos rfl, h] at a
  unfold cz; omega
theorem cz_0 {s : Int} (hs : b60 s) (h : cz s ≤ 0) : s = 0 := by
  refine bit_eq ⟨hs.1, Int.le_refl _⟩ (fun i => ?_)
  rw [zbt_z]
  by_cases c : i < 60
  · by_cases z : zbt s i = 1
    · have := cz_lt (s := 0) (t := s) (j := i) (fun k hk => by rw [zbt_z] at hk; exact absurd hk (by decide)) c (zbt_z i) z
      have := cz_b 0
      omega
    · have := zbt_01 s i; omega
  · exact zbt_hi hs (by omega)
theorem so_60 {s : Int} {j : Nat} (hs : b60 s) (hj : j < 60) : b60 (zso s j) := by
  have := zso_lt (v := s) (s := j) (n := 60) (by have := hs.2; show s < 1152921504606846976; omega) hj hs.1
  have e : (2 : Int) ^ 60 = 1152921504606846976 := by decide
  rw [e] at this
  exact ⟨this.1, by omega⟩
/-! what must be left out -/
def fes (A B lo hi : Nat → Int) (n y : Int) : Prop := ∃ X, fea (edg A B lo hi n y) X
theorem fes_m {A B lo hi : Nat → Int} {n y z : Int} (h : bsb y z) (g : fes A B lo hi n z) : fes A B lo hi n y := by
  obtain ⟨X, hX⟩ := g
  exact ⟨X, fun p b s i he => hX p b s i ⟨he.1, h i he.2.1, he.2.2⟩⟩
def okk (A B lo hi : Nat → Int) (n x s : Int) : Prop := b60 s ∧ bsb s x ∧ fes A B lo hi n (zan x s)
def vld (A B lo hi : Nat → Int) (n x K s : Int) : Prop := okk A B lo hi n x s ∧ cz s ≤ K
def zLv (A B lo hi : Nat → Int) (n x K out keep f f' : Int) : Prop := (f' = f ∨ vld A B lo hi n x K f') ∧ (f ≠ -1 → f' ≠ -1 ∧ f' ≤ f) ∧ ∀ s, vld A B lo hi n x K s → bsb out s → bdj s keep → f' ≠ -1 ∧ f' ≤ s
theorem hit {A B lo hi : Nat → Int} {n x y r s : Int} (h : zRq A B lo hi n y r) (hr : r ≠ 0) (hy : bsb y x) (hs : okk A B lo hi n x s) : ∃ j : Nat, (j : Int) < n ∧ zbt r j = 1 ∧ zbt s j = 1 := by
  rcases h with ⟨h, _⟩ | ⟨_, h2, h3⟩
  · exact absurd h hr
  · by_cases c : ∃ j : Nat, (j : Int) < n ∧ zbt r j = 1 ∧ zbt s j = 1
    · exact c
    · refine absurd (fes_m (fun i hi' => ?_) hs.2.2) h3
      have a := h2 i hi'
      refine (zbt_an x s i).mpr ⟨hy i a.2, ?_⟩
      have := zbt_01 s i
      by_cases z : zbt s i = 1
      · exact absurd ⟨i, a.1, hi', z⟩ c
      · omega
theorem bsb_an (x s : Int) : bsb (zan x s) x := fun i h => ((zbt_an x s i).mp h).1
theorem zLv_1 {A B lo hi : Nat → Int} {n x K out keep f : Int} (hf : f ≠ -1 ∧ f ≤ out) (ho : b60 out) : zLv A B lo hi n x K out keep f f := ⟨Or.inl rfl, fun z => ⟨z, Int.le_refl _⟩, fun s hs hb _ => ⟨hf.1, Int.le_trans hf.2 (bsb_le hb ⟨ho.1, hs.1.1.1⟩)⟩⟩
theorem zLv_2 {A B lo hi : Nat → Int} {n x K out keep f y r l : Int} (h : zRq A B lo hi n y r) (hr : r = 0) (hy : y = zan x out) (hf : f = -1 ∨ out < f) (ho : b60 out) (hx : bsb out x) (hK : cz out + l = K) (hl : 0 ≤ l) : zLv A B lo hi n x K out keep f out := by
  have ok : fes A B lo hi n (zan x out) := by
    rcases h with ⟨_, h⟩ | ⟨h, _⟩
    · rw [← hy]; exact h
    · exact absurd hr h
  exact ⟨Or.inr ⟨⟨ho, hx, ok⟩, by omega⟩, fun z => ⟨by have := ho.1; omega, by omega⟩, fun s hs hb _ => ⟨by have := ho.1; omega, bsb_le hb ⟨ho.1, hs.1.1.1⟩⟩⟩
theorem zLv_3 {A B lo hi : Nat → Int} {n x K out keep f y r l : Int} (h : zRq A B lo hi n y r) (hr : r ≠ 0) (hy : y = zan x out) (hn : n ≤ 60) (hK : cz out + l = K) (hl : l ≤ 0) : zLv A B lo hi n x K out keep f f := ⟨Or.inl rfl, fun z => ⟨z, Int.le_refl _⟩, fun s hs hb _ => by
  exfalso
  obtain ⟨j, j1, j2, j3⟩ := hit h hr (by rw [hy]; exact bsb_an x out) hs.1
  rcases h with ⟨h, _⟩ | ⟨_, h2, _⟩
  · exact hr h
  · have a := (h2 j j2).2
    rw [hy, zbt_an] at a
    have := cz_lt hb (by omega) a.2 j3
    have := hs.2
    omega⟩
def zLw (A B lo hi : Nat → Int) (n x K out keep f ring tried fc i : Int) : Prop := (fc = f ∨ vld A B lo hi n x K fc) ∧ (f ≠ -1 → fc ≠ -1 ∧ fc ≤ f) ∧ (∀ s, vld A B lo hi n x K s → bsb out s → bdj s keep → (∃ j : Nat, (j : Int) < i ∧ zbt ring j = 1 ∧ zbt s j = 1) → fc ≠ -1 ∧ fc ≤ s) ∧ ∀ j, zbt tried j = 1 ↔ zbt keep j = 1 ∨ ((j : Int) < i ∧ zbt ring j = 1)
theorem zLw_0 {A B lo hi : Nat → Int} {n x K out keep f ring : Int} : zLw A B lo hi n x K out keep f ring keep f 0 := ⟨Or.inl rfl, fun z => ⟨z, Int.le_refl _⟩, fun s _ _ _ ⟨j, h, _⟩ => by omega, fun j => ⟨Or.inl, fun z => by rcases z with z | ⟨z, _⟩; exact z; omega⟩⟩
theorem zLw_n {A B lo hi : Nat → Int} {n x K out keep f ring tried fc i : Int} (h : zLw A B lo hi n x K out keep f ring tried fc i) (h0 : 0 ≤ i) (hs : zbt ring i.toNat = 0 ∨ zbt tried i.toNat = 1) : zLw A B lo hi n x K out keep f ring tried fc (i + 1) := by
  obtain ⟨h1, h2, h3, h4⟩ := h
  have key : zbt ring i.toNat = 1 → zbt keep i.toNat = 1 := fun z => by
    rcases hs with q | q
    · omega
    · rcases (h4 i.toNat).mp q with q | ⟨q, _⟩
      · exact q
      · omega
  refine ⟨h1, h2, fun s hv hb hd ⟨j, j1, j2, j3⟩ => ?_, fun j => ?_⟩
  · by_cases c : (j : Int) < i
    · exact h3 s hv hb hd ⟨j, c, j2, j3⟩
    · have e : j = i.toNat := by omega
      rw [e] at j2 j3
      have := hd _ j3
      have := key j2
      omega
  · rw [h4 j]
    constructor
    · rintro (z | ⟨z1, z2⟩)
      · exact Or.inl z
      · exact Or.inr ⟨by omega, z2⟩
    · rintro (z | ⟨z1, z2⟩)
      · exact Or.inl z
      · by_cases c : (j : Int) < i
        · exact Or.inr ⟨c, z2⟩
        · have e : j = i.toNat := by omega
          rw [e] at z2 ⊢
          exact Or.inl (key z2)
theorem zLw_pre {A B lo hi : Nat → Int} {n x K out y ring i l : Int} {o2 : Int} (h : zRq A B lo hi n y ring) (hr : ring ≠ 0) (hy : y = zan x out) (hx : bsb out x) (hK : cz out + l = K) (hb : zbt ring i.toNat = 1) (hi' : 0 ≤ i ∧ i < 60) (e : o2 = zso out i.toNat) : bsb o2 x ∧ cz o2 + (l - 1) = K := by
  rcases h with ⟨h, _⟩ | ⟨_, h2, _⟩
  · exact absurd h hr
  · have a := (h2 _ hb).2
    rw [hy, zbt_an] at a
    rw [e]
    refine ⟨fun j hj => ?_, by rw [cz_so a.2 (by omega)]; omega⟩
    rw [zbt_so] at hj
    by_cases c : j = i.toNat
    · rw [c]; exact a.1
    · rw [if_neg c] at hj; exact hx j hj
theorem zLw_s {A B lo hi : Nat → Int} {n x K out keep f ring tried fc fn i o2 t2 : Int} (h : zLw A B lo hi n x K out keep f ring tried fc i) (h0 : 0 ≤ i) (hb : zbt ring i.toNat = 1) (e : o2 = zso out i.toNat) (g : zLv A B lo hi n x K o2 tried fc fn) (et : t2 = zso tried i.toNat) : zLw A B lo hi n x K out keep f ring t2 fn (i + 1) := by
  obtain ⟨h1, h2, h3, h4⟩ := h
  obtain ⟨g1, g2, g3⟩ := g
  refine ⟨?_, fun z => ?_, fun s hv hs hd ⟨j, j1, j2, j3⟩ => ?_, fun j => ?_⟩
  · rcases g1 with g1 | g1
    · rw [g1]; exact h1
    · exact Or.inr g1
  · have a := h2 z
    have b := g2 a.1
    exact ⟨b.1, by omega⟩
  · by_cases c : ∃ j : Nat, (j : Int) < i ∧ zbt ring j = 1 ∧ zbt s j = 1
    · have a := h3 s hv hs hd c
      have b := g2 a.1
      exact ⟨b.1, by omega⟩
    · have e2 : j = i.toNat := by
        by_cases q : (j : Int) < i
        · exact absurd ⟨j, q, j2, j3⟩ c
        · omega
      refine g3 s hv (fun k hk => ?_) (fun k hk => ?_)
      · rw [e, zbt_so] at hk
        by_cases q : k = i.toNat
        · rw [q, ← e2]; exact j3
        · rw [if_neg q] at hk; exact hs k hk
      · have := zbt_01 tried k
        by_cases q : zbt tried k = 1
        · rcases (h4 k).mp q with q | ⟨q1, q2⟩
          · have := hd k hk; omega
          · exact absurd ⟨k, q1, q2, hk⟩ c
        · omega
  · rw [et, zbt_so]
    by_cases q : j = i.toNat
    · rw [if_pos q]
      exact ⟨fun _ => Or.inr ⟨by omega, by rw [q]; exact hb⟩, fun _ => rfl⟩
    · rw [if_neg q, h4 j]
      constructor
      · rintro (z | ⟨z1, z2⟩)
        · exact Or.inl z
        · exact Or.inr ⟨by omega, z2⟩
      · rintro (z | ⟨z1, z2⟩)
        · exact Or.inl z
        · exact Or.inr ⟨by omega, z2⟩
theorem zLw_e {A B lo hi : Nat → Int} {n x K out keep f ring tried fc i y : Int} (h : zLw A B lo hi n x K out keep f ring tried fc i) (hi' : i = n) (g : zRq A B lo hi n y ring) (hr : ring ≠ 0) (hy : y = zan x out) : zLv A B lo hi n x K out keep f fc := ⟨h.1, h.2.1, fun s hv hs hd => h.2.2.1 s hv hs hd (by
  obtain ⟨j, j1, j2, j3⟩ := hit g hr (by rw [hy]; exact bsb_an x out) hv.1
  exact ⟨j, by omega, j2, j3⟩)⟩
/-! rings that share nothing -/
def coz (s r : Int) : Int := sm (fun i => if zbt s i = 1 ∧ zbt r i = 0 then 1 else 0) 60
def zRpt (A B lo hi : Nat → Int) (n x rest l : Int) : Prop := bsb rest x ∧ ∀ s, okk A B lo hi n x s → l ≤ coz s rest
theorem zRpt_0 {A B lo hi : Nat → Int} {n x : Int} : zRpt A B lo hi n x x 0 := ⟨fun _ h => h, fun s _ => (sm_b (c := 1) (fun i _ => by
  show 0 ≤ (if zbt s i = 1 ∧ zbt x i = 0 then (1 : Int) else 0) ∧ (if zbt s i = 1 ∧ zbt x i = 0 then (1 : Int) else 0) ≤ 1
  split <;> omega)).1⟩
theorem zRpt_s {A B lo hi : Nat → Int} {n x rest l r r2 : Int} (h : zRpt A B lo hi n x rest l) (hn : n ≤ 60) (g : zRq A B lo hi n rest r) (hr : r ≠ 0) (e : r2 = zan rest r) : zRpt A B lo hi n x r2 (l + 1) := by
  refine ⟨fun i hi' => h.1 i (bsb_an rest r i (by rw [← e]; exact hi')), fun s hs => ?_⟩
  have a := h.2 s hs
  obtain ⟨j, j1, j2, j3⟩ := hit g hr h.1 hs
  rcases g with ⟨g, _⟩ | ⟨_, g2, _⟩
  · exact absurd g hr
  · have b := (g2 j j2).2
    have key := sm_mono (f := fun i => if zbt s i = 1 ∧ zbt rest i = 0 then 1 else 0) (g := fun i => if zbt s i = 1 ∧ zbt r2 i = 0 then 1 else 0) (n := 60) (j := j) (fun i _ => by
      show (if zbt s i = 1 ∧ zbt rest i = 0 then (1 : Int) else 0) ≤ (if zbt s i = 1 ∧ zbt r2 i = 0 then 1 else 0)
      by_cases c : zbt s i = 1 ∧ zbt rest i = 0
      · have z : zbt r2 i = 0 := by
          have := zbt_01 r2 i
          by_cases q : zbt r2 i = 1
          · rw [e, zbt_an] at q; omega
          · omega
        rw [if_pos c, if_pos ⟨c.1, z⟩]; exact Int.le_refl _
      · rw [if_neg c]; split <;> omega) (by omega) (by
      show (if zbt s j = 1 ∧ zbt rest j = 0 then (1 : Int) else 0) + 1 ≤ (if zbt s j = 1 ∧ zbt r2 j = 0 then 1 else 0)
      have z : zbt r2 j = 0 := by
        have := zbt_01 r2 j
        by_cases q : zbt r2 j = 1
        · rw [e, zbt_an] at q; omega
        · omega
      rw [if_neg (by omega), if_pos ⟨j3, z⟩]; exact Int.le_refl _)
    unfold coz at a ⊢
    omega
def zAp (A B lo hi : Nat → Int) (n x l : Int) : Prop := ∀ s, okk A B lo hi n x s → l ≤ cz s
theorem zRpt_e {A B lo hi : Nat → Int} {n x rest l : Int} (h : zRpt A B lo hi n x rest l) : zAp A B lo hi n x l := fun s hs => by
  have a := h.2 s hs
  have b : coz s rest ≤ cz s := sm_le (fun i _ => by
    show (if zbt s i = 1 ∧ zbt rest i = 0 then (1 : Int) else 0) ≤ zbt s i
    have := zbt_01 s i
    split <;> omega)
  omega
/-! the fewest, of like ones the least -/
def zFs (Ok : Int → Prop) (r : Int) : Prop := (r = -5 ∧ ∀ s, Ok s → 4 ≤ cz s) ∨ (0 ≤ r ∧ Ok r ∧ cz r ≤ 3 ∧ ∀ s, Ok s → cz r ≤ cz s ∧ (cz s = cz r → r ≤ s))
theorem zFs_un {Ok : Int → Prop} {r t : Int} (h : zFs Ok r) (g : zFs Ok t) : r = t := by
  rcases h with ⟨h1, h2⟩ | ⟨h0, h1, h2, h3⟩
  · rcases g with ⟨g1, g2⟩ | ⟨g0, g1, g2, g3⟩
    · rw [h1, g1]
    · have := h2 t g1; omega
  · rcases g with ⟨g1, g2⟩ | ⟨g0, g1, g2, g3⟩
    · have := g2 r h1; omega
    · have a := h3 t g1
      have b := g3 r h1
      have e : cz t = cz r := by omega
      have := a.2 e
      have := b.2 e.symm
      omega
theorem zAp_s {A B lo hi : Nat → Int} {n x l f : Int} (h : zAp A B lo hi n x l) (g : zLv A B lo hi n x l 0 0 (-1) f) (hf : f = -1) : zAp A B lo hi n x (l + 1) := fun s hs => by
  have a := h s hs
  by_cases c : cz s = l
  · have := (g.2.2 s ⟨hs, by omega⟩ (fun i z => by rw [zbt_z] at z; exact absurd z (by decide)) (fun i _ => zbt_z i)).1
    exact absurd hf this
  · omega
theorem zFs_c {A B lo hi : Nat → Int} {n x l f : Int} (h : zAp A B lo hi n x l) (g : zLv A B lo hi n x l 0 0 (-1) f) (hf : f ≠ -1) (hl : l ≤ 3) : zFs (okk A B lo hi n x) f := by
  rcases g.1 with z | z
  · exact absurd z hf
  · have a := h f z.1
    have b := z.2
    refine Or.inr ⟨z.1.1.1, z.1, by omega, fun s hs => ⟨by have := h s hs; omega, fun e => ?_⟩⟩
    exact (g.2.2 s ⟨hs, by omega⟩ (fun i q => by rw [zbt_z] at q; exact absurd q (by decide)) (fun i _ => zbt_z i)).2
theorem zFs_5 {A B lo hi : Nat → Int} {n x l : Int} (h : zAp A B lo hi n x l) (hl : 4 ≤ l) : zFs (okk A B lo hi n x) (-5) := Or.inl ⟨rfl, fun s hs => by have := h s hs; omega⟩
/-- by the records -/
def okE (E : (Nat → Prop) → Nat → Nat → Int → Nat → Prop) (Sa : Nat → Prop) (s : Int) : Prop := b60 s ∧ (∀ i, zbt s i = 1 → Sa i) ∧ ∃ X, fea (E (fun i => Sa i ∧ zbt s i = 0)) X
theorem okk_E {lo hi Y A B C bo sh : Nat → Int} {wi ev n x v w : Int} (h : zBn lo hi Y A B C bo sh wi ev n) (hy : zSy x v w n) (hn : n ≤ 60) (s : Int) : okk (zc6 A) (zc6 B) lo hi n x s ↔ okE (zEk Y A B C bo sh wi ev) (zSa v w n) s := by
  have e : edg (zc6 A) (zc6 B) lo hi n (zan x s) = zEk Y A B C bo sh wi ev (fun i => zSa v w n i ∧ zbt s i = 0) := edg_k h (fun i => by
    rw [zbt_an, ← and_assoc, zSy_a hy hn i])
  unfold okk okE fes
  rw [e]
  constructor
  · rintro ⟨a, b, c⟩
    exact ⟨a, fun i hi' => by
      have i60 : i < 60 := by
        by_cases q : i < 60
        · exact q
        · rw [zbt_hi a (by omega)] at hi'; exact absurd hi' (by decide)
      exact (hy i i60).mp (b i hi'), c⟩
  · rintro ⟨a, b, c⟩
    exact ⟨a, fun i hi' => by
      have q := b i hi'
      exact (hy i (by have := q.1; omega)).mpr q, c⟩
theorem zFs_cg {P Q : Int → Prop} {r : Int} (h : zFs P r) (e : ∀ s, P s ↔ Q s) : zFs Q r := by
  rcases h with ⟨h1, h2⟩ | ⟨h0, h1, h2, h3⟩
  · exact Or.inl ⟨h1, fun s hs => h2 s ((e s).mpr hs)⟩
  · exact Or.inr ⟨h0, (e r).mp h1, h2, fun s hs => h3 s ((e s).mpr hs)⟩
/-! the reference: one, two, three -/
def zSr (g : Nat → Int) (n : Int) (i : Nat) : Prop := (i : Int) < n ∧ g (94 + 6 * i) = 0 ∧ g (95 + 6 * i) = 0
def zEg (g : Nat → Int) (S : Nat → Prop) : Nat → Nat → Int → Nat → Prop := edS (fun i => g (91 + 6 * i)) (fun i => g (92 + 6 * i)) (loC (fun i => g (90 + 6 * i)) (fun i => g (91 + 6 * i)) (fun i => g (92 + 6 * i)) (fun i => g (93 + 6 * i)) (fun i => g i) (fun i => g (658 + i)) (g 824) (g 825)) (hiC (fun i => g (90 + 6 * i)) (fun i => g (91 + 6 * i)) (fun i => g (92 + 6 * i)) (fun i => g (93 + 6 * i)) (fun i => g i) (fun i => g (658 + i)) (g 824) (g 825)) S
def okG (g : Nat → Int) (n s : Int) : Prop := okE (zEg g) (zSr g n) s
/-- a set of three places at most (-1: none) -/
def bt3 (o1 o2 o3 : Int) (s : Int) : Prop := b60 s ∧ ∀ i : Nat, zbt s i = 1 ↔ ((i : Int) = o1 ∨ (i : Int) = o2 ∨ (i : Int) = o3)
theorem zEg_3 {g : Nat → Int} {n o1 o2 o3 s : Int} (h : bt3 o1 o2 o3 s) : zEg g (fun i => zSr g n i ∧ zbt s i = 0) = zEr g n o1 o2 o3 := by
  refine edS_cg (fun i => ?_) (fun i _ => ⟨rfl, rfl, rfl, rfl⟩)
  have a := h.2 i
  have b := zbt_01 s i
  unfold zSr
  constructor
  · rintro ⟨⟨x1, x2, x3⟩, x4⟩
    have : ¬ ((i : Int) = o1 ∨ (i : Int) = o2 ∨ (i : Int) = o3) := fun z => by have := a.mpr z; omega
    exact ⟨x1, ⟨x2, x3⟩, fun z => this (Or.inl z), fun z => this (Or.inr (Or.inl z)), fun z => this (Or.inr (Or.inr z))⟩
  · rintro ⟨x1, ⟨x2, x3⟩, x4, x5, x6⟩
    refine ⟨⟨x1, x2, x3⟩, ?_⟩
    rcases b with b | b
    · exact b
    · rcases a.mp b with z | z | z
      · exact absurd z x4
      · exact absurd z x5
      · exact absurd z x6
theorem okG_3 {g : Nat → Int} {n o1 o2 o3 s r : Int} (h : bt3 o1 o2 o3 s) (hs : ∀ i : Nat, ((i : Int) = o1 ∨ (i : Int) = o2 ∨ (i : Int) = o3) → zSr g n i) (ha : zAg2 (zEr g n o1 o2 o3) r) : (r ≠ 0 → okG g n s) ∧ (r = 0 → ¬ okG g n s) := by
  unfold okG okE
  rw [zEg_3 h]
  constructor
  · intro z
    exact ⟨h.1, fun i hi' => hs i ((h.2 i).mp hi'), zAg2_x ha z⟩
  · rintro z ⟨_, _, q⟩
    exact zAg2_n ha z q
theorem okG_n {g : Nat → Int} {n s : Int} {i : Nat} (hb : zbt s i = 1) (hs : ¬ zSr g n i) : ¬ okG g n s := fun h => hs (h.2.1 i hb)
theorem bt3_0 : bt3 (-1) (-1) (-1) 0 := ⟨⟨by decide, by decide⟩, fun i => by
  rw [zbt_z]
  exact ⟨fun z => absurd z (by decide), fun z => by omega⟩⟩
theorem pw_60 {y i : Int} (hi' : 0 ≤ i ∧ i < 60) (e : y = 2 ^ i.toNat) : b60 y := by
  have : (2 : Nat) ^ i.toNat ≤ 2 ^ 59 := Nat.pow_le_pow_right (by decide) (by omega)
  have z : (((2 ^ i.toNat : Nat)) : Int) = 2 ^ i.toNat := by push_cast; rfl
  rw [e, ← z]
  generalize (2 : Nat) ^ i.toNat = w at this
  unfold b60
  omega
theorem bt3_1 {y i : Int} (hi' : 0 ≤ i ∧ i < 60) (e : y = 2 ^ i.toNat) : bt3 i (-1) (-1) y := ⟨pw_60 hi' e, fun k => by
  rw [zbt_pw hi'.1 e]
  omega⟩
theorem bt3_2 {y i j z : Int} (hi' : 0 ≤ i ∧ i < 60) (hj : 0 ≤ j ∧ j < 60) (e : y = 2 ^ i.toNat) (ez : z = zso y j.toNat) : bt3 i j (-1) z := ⟨by rw [ez]; exact so_60 (pw_60 hi' e) (by omega), fun k => by
  rw [ez, zbt_so]
  have := zbt_pw (i := k) hi'.1 e
  by_cases c : k = j.toNat
  · rw [if_pos c]; exact ⟨fun _ => Or.inr (Or.inl (by omega)), fun _ => rfl⟩
  · rw [if_neg c, this]; omega⟩
theorem bt3_3 {y i j k z u : Int} (hi' : 0 ≤ i ∧ i < 60) (hj : 0 ≤ j ∧ j < 60) (hk : 0 ≤ k ∧ k < 60) (e : y = 2 ^ i.toNat) (ez : z = zso y j.toNat) (eu : u = zso z k.toNat) : bt3 i j k u := by
  have h := bt3_2 hi' hj e ez
  refine ⟨by rw [eu]; exact so_60 h.1 (by omega), fun q => ?_⟩
  rw [eu, zbt_so]
  have a := h.2 q
  by_cases c : q = k.toNat
  · rw [if_pos c]; exact ⟨fun _ => Or.inr (Or.inr (by omega)), fun _ => rfl⟩
  · rw [if_neg c, a]; omega
/-- the greatest place of a set, and the rest -/
theorem top1 {s : Int} (hs : b60 s) (h : 1 ≤ cz s) : ∃ b : Nat, b < 60 ∧ zbt s b = 1 ∧ ∀ c, b < c → zbt s c = 0 := by
  have key : ∀ n : Nat, n ≤ 60 → (∀ c, n ≤ c → zbt s c = 0) → 1 ≤ sm (zbt s) n → ∃ b : Nat, b < n ∧ zbt s b = 1 ∧ ∀ c, b < c → zbt s c = 0 := by
    intro n
    induction n with
    | zero => intro _ _ z; exact absurd z (by show ¬ (1 : Int) ≤ 0; decide)
    | succ n ih =>
      intro hn h1 h2
      have b := zbt_01 s n
      by_cases c : zbt s n = 1
      · exact ⟨n, by omega, c, fun c hc => h1 c (by omega)⟩
      · rw [sm_s] at h2
        obtain ⟨b, b1, b2, b3⟩ := ih (by omega) (fun c hc => by
          by_cases q : c = n
          · rw [q]; omega
          · exact h1 c (by omega)) (by omega)
        exact ⟨b, by omega, b2, b3⟩
  exact key 60 (Nat.le_refl _) (fun c hc => zbt_hi hs hc) h
def tgl (s : Int) (b : Nat) : Int := ztg s b
theorem rest1 {s : Int} {b : Nat} (hs : b60 s) (hb : zbt s b = 1) (h60 : b < 60) : b60 (ztg s b) ∧ cz (ztg s b) + 1 = cz s ∧ ∀ i, zbt (ztg s b) i = if i = b then 0 else zbt s i := by
  have e : ∀ i, zbt (ztg s b) i = if i = b then 0 else zbt s i := fun i => by
    rw [zbt_tg]
    by_cases c : i = b
    · rw [if_pos c, if_pos c, c, hb]; rfl
    · rw [if_neg c, if_neg c]
  have l := ztg_lt (v := s) (s := b) (n := 60) (by have := hs.2; show s < 1152921504606846976; omega) h60 hs.1
  have e60 : (2 : Int) ^ 60 = 1152921504606846976 := by decide
  rw [e60] at l
  refine ⟨⟨l.1, by omega⟩, ?_, e⟩
  have a := sm_1 (f := zbt (ztg s b)) (g := zbt s) (n := 60) (j := b) (fun i _ hn => by rw [e i, if_neg hn]) h60
  rw [e b, if_pos rfl, hb] at a
  unfold cz; omega
theorem des1 {s : Int} (hs : b60 s) (h : cz s = 1) : ∃ a : Nat, a < 60 ∧ ∀ i : Nat, zbt s i = 1 ↔ i = a := by
  obtain ⟨b, b1, b2, b3⟩ := top1 hs (by omega)
  obtain ⟨r1, r2, r3⟩ := rest1 hs b2 b1
  have z := cz_0 r1 (by omega)
  refine ⟨b, b1, fun i => ⟨fun q => ?_, fun q => by rw [q]; exact b2⟩⟩
  by_cases c : i = b
  · exact c
  · have := r3 i
    rw [z, zbt_z, if_neg c] at this
    omega
theorem des2 {s : Int} (hs : b60 s) (h : cz s = 2) : ∃ a b : Nat, a < b ∧ b < 60 ∧ ∀ i : Nat, zbt s i = 1 ↔ (i = a ∨ i = b) := by
  obtain ⟨b, b1, b2, b3⟩ := top1 hs (by omega)
  obtain ⟨r1, r2, r3⟩ := rest1 hs b2 b1
  obtain ⟨a, a1, a2⟩ := des1 r1 (by omega)
  have q := r3 a
  rw [(a2 a).mpr rfl] at q
  have hab : a < b := by
    by_cases c : a = b
    · rw [if_pos c] at q; exact absurd q (by decide)
    · rw [if_neg c] at q
      by_cases c2 : a < b
      · exact c2
      · have := b3 a (by omega); omega
  refine ⟨a, b, hab, b1, fun i => ?_⟩
  have w := r3 i
  have w2 := a2 i
  by_cases c : i = b
  · rw [c]; exact ⟨fun _ => Or.inr rfl, fun _ => b2⟩
  · rw [if_neg c] at w
    rw [← w, w2]; omega
theorem des3 {s : Int} (hs : b60 s) (h : cz s = 3) : ∃ a b c : Nat, a < b ∧ b < c ∧ c < 60 ∧ ∀ i : Nat, zbt s i = 1 ↔ (i = a ∨ i = b ∨ i = c) := by
  obtain ⟨c, c1, c2, c3⟩ := top1 hs (by omega)
  obtain ⟨r1, r2, r3⟩ := rest1 hs c2 c1
  obtain ⟨a, b, a1, a2, a3⟩ := des2 r1 (by omega)
  have q := r3 b
  rw [(a3 b).mpr (Or.inr rfl)] at q
  have hbc : b < c := by
    by_cases d : b = c
    · rw [if_pos d] at q; exact absurd q (by decide)
    · rw [if_neg d] at q
      by_cases d2 : b < c
      · exact d2
      · have := c3 b (by omega); omega
  refine ⟨a, b, c, a1, hbc, c1, fun i => ?_⟩
  have w := r3 i
  have w2 := a3 i
  by_cases d : i = c
  · rw [d]; exact ⟨fun _ => Or.inr (Or.inr rfl), fun _ => c2⟩
  · rw [if_neg d] at w
    rw [← w, w2]; omega
/-! sizes of small sets -/
theorem cz_z : cz 0 = 0 := sm_0 (fun i _ => zbt_z i)
theorem cz_1 {s : Int} {a : Nat} (hs : b60 s) (ha : a < 60) (h : ∀ i : Nat, zbt s i = 1 ↔ i = a) : cz s = 1 := by
  obtain ⟨r1, r2, r3⟩ := rest1 hs ((h a).mpr rfl) ha
  have z : ztg s a = 0 := bit_eq ⟨r1.1, Int.le_refl _⟩ (fun i => by
    rw [r3 i, zbt_z]
    by_cases c : i = a
    · rw [if_pos c]
    · rw [if_neg c]
      have := zbt_01 s i
      have := h i
      omega)
  rw [z, cz_z] at r2
  omega
theorem cz_2 {s : Int} {a b : Nat} (hs : b60 s) (hab : a < b) (hb : b < 60) (h : ∀ i : Nat, zbt s i = 1 ↔ (i = a ∨ i = b)) : cz s = 2 := by
  obtain ⟨r1, r2, r3⟩ := rest1 hs ((h b).mpr (Or.inr rfl)) hb
  have z := cz_1 (a := a) r1 (by omega) (fun i => by
    rw [r3 i]
    by_cases c : i = b
    · rw [if_pos c]; omega
    · rw [if_neg c, h i]; omega)
  omega
theorem cz_3 {s : Int} {a b c : Nat} (hs : b60 s) (hab : a < b) (hbc : b < c) (hc : c < 60) (h : ∀ i : Nat, zbt s i = 1 ↔ (i = a ∨ i = b ∨ i = c)) : cz s = 3 := by
  obtain ⟨r1, r2, r3⟩ := rest1 hs ((h c).mpr (Or.inr (Or.inr rfl))) hc
  have z := cz_2 (a := a) (b := b) r1 hab (by omega) (fun i => by
    rw [r3 i]
    by_cases d : i = c
    · rw [if_pos d]; omega
    · rw [if_neg d, h i]; omega)
  omega
/-! the reference's three searches -/
def zNz (g : Nat → Int) (n c : Int) : Prop := ∀ s, okG g n s → c ≤ cz s
theorem okG_x {g : Nat → Int} {n o1 o2 o3 s r : Int} (h : bt3 o1 o2 o3 s) (ha : zAg2 (zEr g n o1 o2 o3) r) (hr : r = 0) : ¬ okG g n s := by
  rintro ⟨_, _, q⟩
  rw [zEg_3 h] at q
  exact zAg2_n ha hr q
theorem zNz_1 {g : Nat → Int} {n r : Int} (ha : zAg2 (zEr g n (-1) (-1) (-1)) r) (hr : r = 0) : zNz g n 1 := fun s hs => by
  have b := cz_b s
  by_cases c : cz s ≤ 0
  · have e := cz_0 hs.1 c
    rw [e] at hs
    exact absurd hs (okG_x bt3_0 ha hr)
  · omega
def zR1 (g : Nat → Int) (n i : Int) : Prop := ∀ a : Nat, (a : Int) < i → ∀ s, b60 s → (∀ k : Nat, zbt s k = 1 ↔ k = a) → ¬ okG g n s
theorem zR1_0 {g : Nat → Int} {n : Int} : zR1 g n 0 := fun a h => by omega
theorem zR1_n {g : Nat → Int} {n i : Int} (h : zR1 g n i) (h0 : 0 ≤ i) (hs : g (94 + 6 * i.toNat) ≠ 0 ∨ g (95 + 6 * i.toNat) ≠ 0) : zR1 g n (i + 1) := fun a ha s s0 hb => by
  by_cases c : (a : Int) < i
  · exact h a c s s0 hb
  · refine okG_n ((hb a).mpr rfl) (fun z => ?_)
    rw [show a = i.toNat by omega] at z
    have := z.2
    omega
theorem zR1_a {g : Nat → Int} {n i r : Int} (h : zR1 g n i) (h0 : 0 ≤ i) (ha : zAg2 (zEr g n i (-1) (-1)) r) (hr : r = 0) : zR1 g n (i + 1) := fun a ha' s s0 hb => by
  by_cases c : (a : Int) < i
  · exact h a c s s0 hb
  · exact okG_x ⟨s0, fun k => by rw [hb k]; omega⟩ ha hr
theorem zNz_2 {g : Nat → Int} {n i : Int} (h1 : zNz g n 1) (h : zR1 g n i) (hi' : n ≤ i) : zNz g n 2 := fun s hs => by
  have b := h1 s hs
  by_cases c : cz s = 1
  · obtain ⟨a, a1, a2⟩ := des1 hs.1 c
    have q := hs.2.1 a ((a2 a).mpr rfl)
    exact absurd hs (h a (by have := q.1; omega) s hs.1 a2)
  · omega
def zR2 (g : Nat → Int) (n j i : Int) : Prop := ∀ a b : Nat, a < b → ((b : Int) < j ∨ ((b : Int) = j ∧ (a : Int) < i)) → ∀ s, b60 s → (∀ k : Nat, zbt s k = 1 ↔ (k = a ∨ k = b)) → ¬ okG g n s
theorem zR2_0 {g : Nat → Int} {n : Int} : zR2 g n 0 0 := fun a b _ h => by omega
theorem zR2_j {g : Nat → Int} {n j i : Int} (h : zR2 g n j i) (hi' : j ≤ i) : zR2 g n (j + 1) 0 := fun a b hab hc s s0 hb => h a b hab (by omega) s s0 hb
theorem zR2_n {g : Nat → Int} {n j i : Int} (h : zR2 g n j i) (h0 : 0 ≤ i ∧ 0 ≤ j) (hs : (g (94 + 6 * i.toNat) ≠ 0 ∨ g (95 + 6 * i.toNat) ≠ 0) ∨ g (94 + 6 * j.toNat) ≠ 0 ∨ g (95 + 6 * j.toNat) ≠ 0) : zR2 g n j (i + 1) := fun a b hab hc s s0 hb => by
  by_cases c : (b : Int) < j ∨ ((b : Int) = j ∧ (a : Int) < i)
  · exact h a b hab c s s0 hb
  · have e1 : a = i.toNat := by omega
    have e2 : b = j.toNat := by omega
    rcases hs with hs | hs
    · refine okG_n ((hb a).mpr (Or.inl rfl)) (fun z => ?_)
      rw [e1] at z
      have := z.2
      omega
    · refine okG_n ((hb b).mpr (Or.inr rfl)) (fun z => ?_)
      rw [e2] at z
      have := z.2
      omega
theorem zR2_a {g : Nat → Int} {n j i r : Int} (h : zR2 g n j i) (h0 : 0 ≤ i ∧ 0 ≤ j) (ha : zAg2 (zEr g n i j (-1)) r) (hr : r = 0) : zR2 g n j (i + 1) := fun a b hab hc s s0 hb => by
  by_cases c : (b : Int) < j ∨ ((b : Int) = j ∧ (a : Int) < i)
  · exact h a b hab c s s0 hb
  · exact okG_x ⟨s0, fun k => by rw [hb k]; omega⟩ ha hr
theorem zNz_3 {g : Nat → Int} {n j : Int} (h1 : zNz g n 2) (h : zR2 g n j 0) (hj : n ≤ j) : zNz g n 3 := fun s hs => by
  have b := h1 s hs
  by_cases c : cz s = 2
  · obtain ⟨a, b, a1, a2, a3⟩ := des2 hs.1 c
    have q := hs.2.1 b ((a3 b).mpr (Or.inr rfl))
    exact absurd hs (h a b a1 (by have := q.1; omega) s hs.1 a3)
  · omega
def zR3 (g : Nat → Int) (n k j i : Int) : Prop := ∀ a b c : Nat, a < b → b < c → ((c : Int) < k ∨ ((c : Int) = k ∧ ((b : Int) < j ∨ ((b : Int) = j ∧ (a : Int) < i)))) → ∀ s, b60 s → (∀ q : Nat, zbt s q = 1 ↔ (q = a ∨ q = b ∨ q = c)) → ¬ okG g n s
theorem zR3_0 {g : Nat → Int} {n : Int} : zR3 g n 0 0 0 := fun a b c _ _ h => by omega
theorem zR3_j {g : Nat → Int} {n k j i : Int} (h : zR3 g n k j i) (hi' : j ≤ i) : zR3 g n k (j + 1) 0 := fun a b c h1 h2 hc s s0 hb => h a b c h1 h2 (by omega) s s0 hb
theorem zR3_k {g : Nat → Int} {n k j : Int} (h : zR3 g n k j 0) (hj : k ≤ j) : zR3 g n (k + 1) 0 0 := fun a b c h1 h2 hc s s0 hb => h a b c h1 h2 (by omega) s s0 hb
theorem zR3_n {g : Nat → Int} {n k j i : Int} (h : zR3 g n k j i) (h0 : 0 ≤ i ∧ 0 ≤ j ∧ 0 ≤ k) (hs : (g (94 + 6 * i.toNat) ≠ 0 ∨ g (95 + 6 * i.toNat) ≠ 0) ∨ (g (94 + 6 * j.toNat) ≠ 0 ∨ g (95 + 6 * j.toNat) ≠ 0) ∨ g (94 + 6 * k.toNat) ≠ 0 ∨ g (95 + 6 * k.toNat) ≠ 0) : zR3 g n k j (i + 1) := fun a b c h1 h2 hc s s0 hb => by
  by_cases d : (c : Int) < k ∨ ((c : Int) = k ∧ ((b : Int) < j ∨ ((b : Int) = j ∧ (a : Int) < i)))
  · exact h a b c h1 h2 d s s0 hb
  · have e1 : a = i.toNat := by omega
    have e2 : b = j.toNat := by omega
    have e3 : c = k.toNat := by omega
    rcases hs with hs | hs | hs
    · refine okG_n ((hb a).mpr (Or.inl rfl)) (fun z => ?_)
      rw [e1] at z
      have := z.2
      omega
    · refine okG_n ((hb b).mpr (Or.inr (Or.inl rfl))) (fun z => ?_)
      rw [e2] at z
      have := z.2
      omega
    · refine okG_n ((hb c).mpr (Or.inr (Or.inr rfl))) (fun z => ?_)
      rw [e3] at z
      have := z.2
      omega
theorem zR3_a {g : Nat → Int} {n k j i r : Int} (h : zR3 g n k j i) (h0 : 0 ≤ i ∧ 0 ≤ j ∧ 0 ≤ k) (ha : zAg2 (zEr g n i j k) r) (hr : r = 0) : zR3 g n k j (i + 1) := fun a b c h1 h2 hc s s0 hb => by
  by_cases d : (c : Int) < k ∨ ((c : Int) = k ∧ ((b : Int) < j ∨ ((b : Int) = j ∧ (a : Int) < i)))
  · exact h a b c h1 h2 d s s0 hb
  · exact okG_x ⟨s0, fun q => by rw [hb q]; omega⟩ ha hr
theorem zNz_4 {g : Nat → Int} {n k : Int} (h1 : zNz g n 3) (h : zR3 g n k 0 0) (hk : n ≤ k) : zNz g n 4 := fun s hs => by
  have b := h1 s hs
  by_cases c : cz s = 3
  · obtain ⟨a, b, c, a1, a2, a3, a4⟩ := des3 hs.1 c
    have q := hs.2.1 c ((a4 c).mpr (Or.inr (Or.inr rfl)))
    exact absurd hs (h a b c a1 a2 (by have := q.1; omega) s hs.1 a4)
  · omega
theorem fr5 {g : Nat → Int} {n k : Int} (h1 : zNz g n 3) (h : zR3 g n k 0 0) (hk : n ≤ k) : zFs (okG g n) (-5) := Or.inl ⟨rfl, fun s hs => zNz_4 h1 h hk s hs⟩
theorem okG_y {g : Nat → Int} {n o1 o2 o3 s r : Int} (h : bt3 o1 o2 o3 s) (hs : ∀ i : Nat, ((i : Int) = o1 ∨ (i : Int) = o2 ∨ (i : Int) = o3) → zSr g n i) (ha : zAg2 (zEr g n o1 o2 o3) r) (hr : r ≠ 0) : okG g n s := (okG_3 h hs ha).1 hr
theorem fr0 {g : Nat → Int} {n r : Int} (ha : zAg2 (zEr g n (-1) (-1) (-1)) r) (hr : r ≠ 0) : zFs (okG g n) 0 := Or.inr ⟨Int.le_refl _, okG_y bt3_0 (fun i z => by omega) ha hr, by rw [cz_z]; decide, fun s hs => ⟨by rw [cz_z]; exact (cz_b s).1, fun _ => hs.1.1⟩⟩
theorem fr1 {g : Nat → Int} {n i y r : Int} (h1 : zNz g n 1) (h : zR1 g n i) (h0 : 0 ≤ i ∧ i < n ∧ n ≤ 60) (hs : g (94 + 6 * i.toNat) = 0 ∧ g (95 + 6 * i.toNat) = 0) (ha : zAg2 (zEr g n i (-1) (-1)) r) (hr : r ≠ 0) (e : y = 2 ^ i.toNat) : zFs (okG g n) y := by
  have b := bt3_1 (y := y) (i := i) (by omega) e
  have ok := okG_y b (fun k z => by rw [show k = i.toNat by omega]; exact ⟨by omega, hs⟩) ha hr
  have by' : ∀ k : Nat, zbt y k = 1 ↔ k = i.toNat := fun k => by rw [b.2 k]; omega
  have c := cz_1 b.1 (by omega) by'
  refine Or.inr ⟨b.1.1, ok, by omega, fun s hs' => ⟨by have := h1 s hs'; omega, fun q => ?_⟩⟩
  obtain ⟨a, a1, a2⟩ := des1 hs'.1 (by omega)
  by_cases c1 : (a : Int) < i
  · exact absurd hs' (h a c1 s hs'.1 a2)
  · by_cases c2 : a = i.toNat
    · have : y = s := bit_eq ⟨b.1.1, hs'.1.1⟩ (fun k => by
        have x := by' k
        have z := a2 k
        have := zbt_01 y k
        have := zbt_01 s k
        omega)
      omega
    · have := bit_lt (s := y) (t := s) a ⟨b.1.1, hs'.1.1⟩ (by have := by' a; have := zbt_01 y a; omega) ((a2 a).mpr rfl) (fun j hj => by
        have x := by' j
        have z := a2 j
        have := zbt_01 y j
        have := zbt_01 s j
        omega)
      omega
theorem fr2 {g : Nat → Int} {n j i y z r : Int} (h1 : zNz g n 2) (h : zR2 g n j i) (h0 : 0 ≤ i ∧ i < j ∧ j < n ∧ n ≤ 60) (hs : (g (94 + 6 * i.toNat) = 0 ∧ g (95 + 6 * i.toNat) = 0) ∧ g (94 + 6 * j.toNat) = 0 ∧ g (95 + 6 * j.toNat) = 0) (ha : zAg2 (zEr g n i j (-1)) r) (hr : r ≠ 0) (e : y = 2 ^ i.toNat) (ez : z = zso y j.toNat) : zFs (okG g n) z := by
  have b := bt3_2 (y := y) (z := z) (i := i) (j := j) (by omega) (by omega) e ez
  have ok := okG_y b (fun k q => by
    by_cases c : (k : Int) = i
    · rw [show k = i.toNat by omega]; exact ⟨by omega, hs.1⟩
    · rw [show k = j.toNat by omega]; exact ⟨by omega, hs.2⟩) ha hr
  have by' : ∀ k : Nat, zbt z k = 1 ↔ (k = i.toNat ∨ k = j.toNat) := fun k => by rw [b.2 k]; omega
  have c := cz_2 b.1 (by omega) (by omega) by'
  refine Or.inr ⟨b.1.1, ok, by omega, fun s hs' => ⟨by have := h1 s hs'; omega, fun q => ?_⟩⟩
  obtain ⟨a, d, a1, a2, a3⟩ := des2 hs'.1 (by omega)
  by_cases c1 : (d : Int) < j ∨ ((d : Int) = j ∧ (a : Int) < i)
  · exact absurd hs' (h a d a1 c1 s hs'.1 a3)
  · have lt : ∀ p : Nat, ¬ (p = i.toNat ∨ p = j.toNat) → (p = a ∨ p = d) → (∀ q, p < q → ((q = i.toNat ∨ q = j.toNat) ↔ (q = a ∨ q = d))) → z < s := fun p p1 p2 p3 => bit_lt p ⟨b.1.1, hs'.1.1⟩ (by
        have := by' p
        have := zbt_01 z p
        by_cases w : zbt z p = 1
        · exact absurd ((by' p).mp w) p1
        · omega) ((a3 p).mpr p2) (fun j' hj => by
        have x := by' j'
        have w := a3 j'
        have u := p3 j' hj
        have := zbt_01 z j'
        have := zbt_01 s j'
        by_cases v : zbt z j' = 1
        · rw [v, w.mpr (u.mp (x.mp v))]
        · by_cases v2 : zbt s j' = 1
          · exact absurd (x.mpr (u.mpr (w.mp v2))) v
          · omega)
    by_cases c2 : d = j.toNat
    · by_cases c3 : a = i.toNat
      · have : z = s := bit_eq ⟨b.1.1, hs'.1.1⟩ (fun k => by
          have x := by' k
          have w := a3 k
          rw [c2, c3] at w
          have := zbt_01 z k
          have := zbt_01 s k
          by_cases v : zbt z k = 1
          · rw [v, w.mpr (x.mp v)]
          · by_cases v2 : zbt s k = 1
            · exact absurd (x.mpr (w.mp v2)) v
            · omega)
        omega
      · have := lt a (by omega) (Or.inl rfl) (fun q hq => by omega)
        omega
    · have := lt d (by omega) (Or.inr rfl) (fun q hq => by omega)
      omega
theorem fr3 {g : Nat → Int} {n k j i y z u r : Int} (h1 : zNz g n 3) (h : zR3 g n k j i) (h0 : 0 ≤ i ∧ i < j ∧ j < k ∧ k < n ∧ n ≤ 60) (hs : (g (94 + 6 * i.toNat) = 0 ∧ g (95 + 6 * i.toNat) = 0) ∧ (g (94 + 6 * j.toNat) = 0 ∧ g (95 + 6 * j.toNat) = 0) ∧ g (94 + 6 * k.toNat) = 0 ∧ g (95 + 6 * k.toNat) = 0) (ha : zAg2 (zEr g n i j k) r) (hr : r ≠ 0) (e : y = 2 ^ i.toNat) (ez : z = zso y j.toNat) (eu : u = zso z k.toNat) : zFs (okG g n) u := by
  have b := bt3_3 (y := y) (z := z) (u := u) (i := i) (j := j) (k := k) (by omega) (by omega) (by omega) e ez eu
  have ok := okG_y b (fun q w => by
    by_cases c : (q : Int) = i
    · rw [show q = i.toNat by omega]; exact ⟨by omega, hs.1⟩
    · by_cases c2 : (q : Int) = j
      · rw [show q = j.toNat by omega]; exact ⟨by omega, hs.2.1⟩
      · rw [show q = k.toNat by omega]; exact ⟨by omega, hs.2.2⟩) ha hr
  have by' : ∀ q : Nat, zbt u q = 1 ↔ (q = i.toNat ∨ q = j.toNat ∨ q = k.toNat) := fun q => by rw [b.2 q]; omega
  have c := cz_3 b.1 (by omega) (by omega) (by omega) by'
  refine Or.inr ⟨b.1.1, ok, by omega, fun s hs' => ⟨by have := h1 s hs'; omega, fun q => ?_⟩⟩
  obtain ⟨a, d, f, a1, a2, a3, a4⟩ := des3 hs'.1 (by omega)
  by_cases c1 : (f : Int) < k ∨ ((f : Int) = k ∧ ((d : Int) < j ∨ ((d : Int) = j ∧ (a : Int) < i)))
  · exact absurd hs' (h a d f a1 a2 c1 s hs'.1 a4)
  · have lt : ∀ p : Nat, ¬ (p = i.toNat ∨ p = j.toNat ∨ p = k.toNat) → (p = a ∨ p = d ∨ p = f) → (∀ q, p < q → ((q = i.toNat ∨ q = j.toNat ∨ q = k.toNat) ↔ (q = a ∨ q = d ∨ q = f))) → u < s := fun p p1 p2 p3 => bit_lt p ⟨b.1.1, hs'.1.1⟩ (by
        have := zbt_01 u p
        by_cases w : zbt u p = 1
        · exact absurd ((by' p).mp w) p1
        · omega) ((a4 p).mpr p2) (fun j' hj => by
        have x := by' j'
        have w := a4 j'
        have t := p3 j' hj
        have := zbt_01 u j'
        have := zbt_01 s j'
        by_cases v : zbt u j' = 1
        · rw [v, w.mpr (t.mp (x.mp v))]
        · by_cases v2 : zbt s j' = 1
          · exact absurd (x.mpr (t.mpr (w.mp v2))) v
          · omega)
    by_cases c2 : f = k.toNat
    · by_cases c3 : d = j.toNat
      · by_cases c4 : a = i.toNat
        · have : u = s := bit_eq ⟨b.1.1, hs'.1.1⟩ (fun q => by
            have x := by' q
            have w := a4 q
            rw [c2, c3, c4] at w
            have := zbt_01 u q
            have := zbt_01 s q
            by_cases v : zbt u q = 1
            · rw [v, w.mpr (x.mp v)]
            · by_cases v2 : zbt s q = 1
              · exact absurd (x.mpr (w.mp v2)) v
              · omega)
          omega
        · have := lt a (by omega) (Or.inl rfl) (fun q hq => by omega)
          omega
      · have := lt d (by omega) (Or.inr (Or.inl rfl)) (fun q hq => by omega)
        omega
    · have := lt f (by omega) (Or.inr (Or.inr rfl)) (fun q hq => by omega)
      omega
theorem zan_1 {x1 r t : Int} {i : Nat} (e : x1 = zan r t) (h : zbt x1 i = 1) : zbt r i = 1 := by rw [e, zbt_an] at h; exact h.1
theorem zan_0 {x1 r t : Int} {i : Nat} (e : x1 = zan r t) (h : zbt x1 i = 0) : zbt r i = 0 ∨ zbt t i = 1 := by
  have a := zbt_01 r i
  have b := zbt_01 t i
  by_cases c : zbt r i = 1 ∧ zbt t i = 0
  · have := (zbt_an r t i).mpr c
    rw [← e] at this
    omega
  · omega
theorem zw_33s {E : zE} {d k pc q a1 a2 : Nat} {L S : List zV} {m : zM} {Q : zV → zM → Prop} {i : Instr} {s : Int} (h : zRow xM k pc = some (33, i, q, a1, a2)) (hs : 0 ≤ s ∧ s ≤ 59) (n : ∀ r : Int, r = 2 ^ s.toNat → 1 ≤ r → r ≤ 576460752303423488 → zW E d k q L ((1, r) :: S) m Q) : zW E d k pc L ((0, s) :: (1, 1) :: S) m Q := by
  have h1 : 2 ^ s.toNat ≤ 2 ^ 59 := Nat.pow_le_pow_right (by decide) (by omega)
  have h3 : (((2 ^ s.toNat : Nat)) : Int) = 2 ^ s.toNat := by push_cast; rfl
  exact zw_33p h (by omega) (fun r e a _ => n r e a (by rw [e]; omega))
/-- both sides' sets alike -/
theorem okE_G {Y A B C bo sh g : Nat → Int} {wi ev v w n : Int} (hn : n ≤ 60) (bA : ∀ i, i < 60 → 0 ≤ A i ∧ A i ≤ 9) (bB : ∀ i, i < 60 → 0 ≤ B i ∧ B i ≤ 9) (hw : wi = g 824) (he : ev = g 825) (h0 : ∀ i, i < 60 → g (90 + 6 * i) = Y i) (h1 : ∀ i, i < 60 → g (91 + 6 * i) = A i) (h2 : ∀ i, i < 60 → g (92 + 6 * i) = B i) (h3 : ∀ i, i < 60 → g (93 + 6 * i) = C i) (h4 : ∀ i, i < 60 → g (94 + 6 * i) = zbt v i) (h5 : ∀ i, i < 60 → g (95 + 6 * i) = zbt w i) (hbo : ∀ i, i < 10 → g i = bo i) (hsh : ∀ i, i < 160 → g (658 + i) = sh i) (s : Int) : okE (zEk Y A B C bo sh wi ev) (zSa v w n) s ↔ okG g n s := by
  have sa : ∀ i, zSa v w n i ↔ zSr g n i := fun i => by
    unfold zSa zSr
    constructor
    · rintro ⟨a, b, c⟩
      exact ⟨a, by rw [h4 i (by omega)]; exact b, by rw [h5 i (by omega)]; exact c⟩
    · rintro ⟨a, b, c⟩
      exact ⟨a, by rw [← h4 i (by omega)]; exact b, by rw [← h5 i (by omega)]; exact c⟩
  have sv : ∀ p y : Int, 0 ≤ p → p ≤ 9 → shv bo sh p y = shv (fun i => g i) (fun i => g (658 + i)) p y := fun p y p0 p9 => by
    have a := zcl_b (y - bo p.toNat)
    unfold shv
    dsimp only
    rw [hbo p.toNat (by omega), hsh _ (by omega)]
  have ee : zEk Y A B C bo sh wi ev (fun i => zSa v w n i ∧ zbt s i = 0) = zEg g (fun i => zSr g n i ∧ zbt s i = 0) := by
    refine edS_cg (fun i => ?_) (fun i hi => ?_)
    · rw [sa i]
    · have i60 : i < 60 := by have := hi.1.1; omega
      have a := bA i i60
      have b := bB i i60
      rw [zc6_lt i60, zc6_lt i60]
      unfold loC hiC
      dsimp only
      rw [h0 i i60, h1 i i60, h2 i i60, h3 i i60, sv _ _ a.1 a.2, sv _ _ b.1 b.2, hw, he]
      exact ⟨rfl, rfl, rfl, rfl⟩
  unfold okG okE
  rw [ee]
  exact ⟨fun ⟨a, b, c⟩ => ⟨a, fun i hi => (sa i).mp (b i hi), c⟩, fun ⟨a, b, c⟩ => ⟨a, fun i hi => (sa i).mpr (b i hi), c⟩⟩
