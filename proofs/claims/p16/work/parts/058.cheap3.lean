section YHR
variable {G : Nat → List Nat → List Nat → List Nat → Prop} {sp : List yCell} {K : yKt} {Kc : xKt} {cc cs : Nat}
variable {γ : yLk} {τ : Nat → Int} {L S Wd : List Nat} {LA SA : List yA} {env : xEv} {fs : List yF} {ca : yCa} {a1 a2 pc : Nat}
def yo_lal (K : yKt) (sp : List yCell) (pc : Nat) (LA SA : List yA) (env : xEv) (fs : List yF) (ca : yCa) : Bool := match SA with
  | x :: a :: r => bif Nat.beq x.1 0 && Nat.beq a.1 2 then (match sp[a.2.2.toNat]? with
    | none => false
    | some q => bif Nat.beq (q.1 % 8) 3 then (match yAtI env fs q.2 x.2 with
      | none => false
      | some g => bif Nat.beq g.1 4 && (Nat.ble g.2.2.1 (q.1 / 8) && Nat.ble g.2.2.1 2147483648) then yFr LA SA env fs ca (-9223372036854775808) 9223372036854775807 (fun F e' => K (pc + 1) LA ((1, F) :: r) e' fs ca) else false) else false) else false
  | _ => false
theorem yc_laload (hKc : ∀ pc L S Wd, G pc L S Wd → Kc pc L S Wd cc cs [] = some []) (hK : yHK G sp γ K) (hs : ySt sp γ τ L S Wd LA SA env fs ca) (h : yo_lal K sp pc LA SA env fs ca = true) : xo_laload Kc a1 a2 pc L S Wd cc cs [] = some [] := by
  unfold yo_lal at h
  match SA, h, hs with
  | (kx, I) :: (ka, P) :: r, h, hs =>
    dsimp only at h
    obtain ⟨hk, hN⟩ := ybif h
    have hkx : kx = 0 := xbeq (xand hk).1
    have hka : ka = 2 := xbeq (xand hk).2
    subst hkx
    subst hka
    obtain ⟨x, t, rfl, h1, h2⟩ := yR_c (c := 0) hs.2.1
    obtain ⟨rc, t, rfl, h3, h4⟩ := yR_c (c := 0) h2
    have hrc : rc = 8 * P.2.toNat + 2 := h3
    cases hq : sp[P.2.toNat]? with
    | none => rw [hq] at hN; cases hN
    | some q =>
      rw [hq] at hN
      dsimp only at hN
      obtain ⟨ht, hN⟩ := ybif hN
      obtain ⟨c, c1, c2, c3⟩ := yCell_at hs.2.2.1 hq
      cases hg : yAtI env fs q.2 I with
      | none => rw [hg] at hN; cases hN
      | some g =>
        rw [hg] at hN
        dsimp only at hN
        obtain ⟨hb, hN⟩ := ybif hN
        obtain ⟨k0, hb⟩ := xand hb
        obtain ⟨hl1, hl2⟩ := xand hb
        obtain ⟨⟨hin, hst⟩, hm⟩ := yAtI_ok hg
        obtain ⟨b1, b2⟩ := yIn_ok hs.2.2.2.1 hs.2.2.2.2.1 hin
        obtain ⟨i1, i2, i3⟩ := yidx h1 b1 b2 (xble hl2)
        have hok := yseg_at (c3 g hm) i1 i2 i3 hst
        rw [xbeq k0] at hok
        have hok : xDn c (x / 8) 1 < 18446744073709551616 := hok
        have hl1 := xble hl1
        have hl2 := xble hl2
        have hgc : xGet Wd (rc / 8) = c := by rw [show rc / 8 = P.2.toNat by omega, xGet_eq, List.getD_eq_getElem?_getD, c1]; rfl
        have hc8 : c % 8 = 3 := by rw [← x8, c2]; exact xbeq ht
        obtain ⟨τ', F', e', f1, f2, f3⟩ := yFr_ok (z := xs64 (xDn c (x / 8) 1)) hs hN (yrng64 _).1 (yrng64 _).2
        have hG := hK _ _ _ _ _ _ f1 τ' L ((xDn c (x / 8) 1 * 8 + 1) :: t) Wd ⟨f2.1, ⟨⟨show (xDn c (x / 8) 1 * 8 + 1) % 8 = 1 by omega, show (xDn c (x / 8) 1 * 8 + 1) / 8 < 18446744073709551616 by omega, by rw [show (xDn c (x / 8) 1 * 8 + 1) / 8 = xDn c (x / 8) 1 by omega]; exact f3.symm⟩, f2.2.1.2.2⟩, f2.2.2⟩
        unfold xo_laload
        dsimp only
        rw [(yg_int h1).1, show Nat.blt (x / 8) 2147483648 = true from Nat.ble_eq_true_of_le (show x / 8 + 1 ≤ 2147483648 by omega), show rc % 8 = 2 by omega, show (Nat.beq 0 0 && true && Nat.beq 2 2) = true from rfl, cond_true, xF_eq, hgc, hc8, c2, show Nat.blt (x / 8) (q.1 / 8) = true from Nat.ble_eq_true_of_le (show x / 8 + 1 ≤ q.1 / 8 by omega), show (Nat.beq 3 3 && true) = true from rfl, cond_true, xF_eq, xF_eq]
        exact hKc _ _ _ _ hG
  | [], h, _ => cases h
  | [_], h, _ => cases h
def yo_las (K : yKt) (sp : List yCell) (pc : Nat) (LA SA : List yA) (env : xEv) (fs : List yF) (ca : yCa) : Bool := match SA with
  | v :: x :: a :: r => bif Nat.beq v.1 1 && (Nat.beq x.1 0 && Nat.beq a.1 2) then (match sp[a.2.2.toNat]? with
    | none => false
    | some q => bif Nat.beq (q.1 % 8) 3 && (Nat.ble (q.1 / 8) 2147483648 && (yIn env fs x.2 0 (((q.1 / 8 : Nat) : Int) - 1) && q.2.all (fun g => yOff env fs g x.2 || Nat.beq g.1 4))) then K (pc + 1) LA r env fs (yKeep ca a.2.2.toNat x.2) else false) else false
  | _ => false
theorem yc_lastore (hKc : ∀ pc L S Wd, G pc L S Wd → Kc pc L S Wd cc cs [] = some []) (hK : yHK G sp γ K) (hs : ySt sp γ τ L S Wd LA SA env fs ca) (h : yo_las K sp pc LA SA env fs ca = true) : xo_lastore Kc a1 a2 pc L S Wd cc cs [] = some [] := by
  unfold yo_las at h
  match SA, h, hs with
  | (kv, V) :: (kx, I) :: (ka, P) :: r, h, hs =>
    dsimp only at h
    obtain ⟨hk, hN⟩ := ybif h
    have hkv : kv = 1 := xbeq (xand hk).1
    have hkx : kx = 0 := xbeq (xand (xand hk).2).1
    have hka : ka = 2 := xbeq (xand (xand hk).2).2
    subst hkv
    subst hkx
    subst hka
    obtain ⟨v, t, rfl, h0, h00⟩ := yR_c (c := 0) hs.2.1
    obtain ⟨x, t, rfl, h1, h2⟩ := yR_c (c := 0) h00
    obtain ⟨rc, t, rfl, h3, h4⟩ := yR_c (c := 0) h2
    have hrc : rc = 8 * P.2.toNat + 2 := h3
    cases hq : sp[P.2.toNat]? with
    | none => rw [hq] at hN; cases hN
    | some q =>
      rw [hq] at hN
      dsimp only at hN
      obtain ⟨hb, hN⟩ := ybif hN
      obtain ⟨ht, hb⟩ := xand hb
      obtain ⟨hl, hb⟩ := xand hb
      obtain ⟨hin, hall⟩ := xand hb
      obtain ⟨c, c1, c2, c3⟩ := yCell_at hs.2.2.1 hq
      obtain ⟨b1, b2⟩ := yIn_ok hs.2.2.2.1 hs.2.2.2.2.1 hin
      obtain ⟨i1, i2, i3⟩ := yidx (lo := 0) h1 b1 b2 (xble hl)
      have hl := xble hl
      obtain ⟨v1, v2, -⟩ := yg_lon h0
      have hsm : v < 4722366482869645213696 := yg_small h0 (Or.inr rfl)
      have hsm8 : v / 8 < 4722366482869645213696 := by omega
      have hgc : xGet Wd (rc / 8) = c := by rw [show rc / 8 = P.2.toNat by omega, xGet_eq, List.getD_eq_getElem?_getD, c1]; rfl
      have hacc : ∀ g ∈ q.2, g.2.1 ≤ x / 8 → x / 8 < g.2.2.1 → (x / 8 - g.2.1) % g.2.2.2.1 = 0 → match g.1 with
          | 0 => v / 8 % 8 = 0 ∧ v / 8 / 8 < 4294967296 ∧ g.2.2.2.2.1 ≤ xs32 (v / 8 / 8) ∧ xs32 (v / 8 / 8) ≤ g.2.2.2.2.2
          | 1 => v / 8 % 8 = 1 ∧ v / 8 / 8 < 18446744073709551616
          | 4 => v / 8 < 18446744073709551616
          | _ => False := by
        intro g hg j1 j2 j3
        have hz := List.all_eq_true.mp hall g hg
        cases ho : yOff env fs g I with
        | true => exact absurd ⟨j1, j2, j3⟩ (yOff_ok hs.2.2.2.1 hs.2.2.2.2.1 ho i1)
        | false =>
          have hz' : (yOff env fs g I || Nat.beq g.1 4) = true := hz
          rw [ho, Bool.false_or] at hz'
          rw [xbeq hz']
          exact v2
      have hG := hK _ _ _ _ _ _ hN τ L t (Wd.set P.2.toNat (xPn c (x / 8) 1 (v / 8))) ⟨hs.1, h4, yJ_put hs.2.2.1 c1 hq hsm8 hacc, hs.2.2.2.1, hs.2.2.2.2.1, yCa_put (V := I) hs.2.2.2.2.2 c1 hsm8 i1⟩
      have hc8 : c % 8 = 3 := by rw [← x8, c2]; exact xbeq ht
      unfold xo_lastore
      dsimp only
      rw [(yg_int h1).1, show Nat.blt (x / 8) 2147483648 = true from Nat.ble_eq_true_of_le (show x / 8 + 1 ≤ 2147483648 by omega), show rc % 8 = 2 by omega, v1, show Nat.blt v 4722366482869645213696 = true from Nat.ble_eq_true_of_le hsm, show (Nat.beq 0 0 && true && Nat.beq 2 2 && Nat.beq 1 1 && true) = true from rfl, cond_true, xF_eq, hgc, hc8, c2, show Nat.blt (x / 8) (q.1 / 8) = true from Nat.ble_eq_true_of_le i3, show (Nat.beq 3 3 && true) = true from rfl, cond_true, xF_eq, xSet_eq, xF_eq, show rc / 8 = P.2.toNat by omega]
      exact hKc _ _ _ _ hG
  | [], h, _ => cases h
  | [_], h, _ => cases h
  | [_, _], h, _ => cases h
def yo_bas (K : yKt) (sp : List yCell) (pc : Nat) (LA SA : List yA) (env : xEv) (fs : List yF) (ca : yCa) : Bool := match SA with
  | v :: x :: a :: r => bif Nat.beq v.1 0 && (Nat.beq x.1 0 && Nat.beq a.1 2) then (match sp[a.2.2.toNat]? with
    | none => false
    | some q => bif Nat.beq (q.1 % 8) 5 && (Nat.ble (q.1 / 8) 2147483648 && (yIn env fs x.2 0 (((q.1 / 8 : Nat) : Int) - 1) && (yIn env fs v.2 0 1 && q.2.all (fun g => yOff env fs g x.2 || yAcc env fs g v)))) then K (pc + 1) LA r env fs (yPut v ca a.2.2.toNat x.2) else false) else false
  | _ => false
theorem yc_bastore (hKc : ∀ pc L S Wd, G pc L S Wd → Kc pc L S Wd cc cs [] = some []) (hK : yHK G sp γ K) (hs : ySt sp γ τ L S Wd LA SA env fs ca) (h : yo_bas K sp pc LA SA env fs ca = true) : xo_bastore Kc a1 a2 pc L S Wd cc cs [] = some [] := by
  unfold yo_bas at h
  match SA, h, hs with
  | (kv, V) :: (kx, I) :: (ka, P) :: r, h, hs =>
    dsimp only at h
    obtain ⟨hk, hN⟩ := ybif h
    have hkv : kv = 0 := xbeq (xand hk).1
    have hkx : kx = 0 := xbeq (xand (xand hk).2).1
    have hka : ka = 2 := xbeq (xand (xand hk).2).2
    subst hkv
    subst hkx
    subst hka
    obtain ⟨v, t, rfl, h0, h00⟩ := yR_c (c := 0) hs.2.1
    obtain ⟨x, t, rfl, h1, h2⟩ := yR_c (c := 0) h00
    obtain ⟨rc, t, rfl, h3, h4⟩ := yR_c (c := 0) h2
    have hrc : rc = 8 * P.2.toNat + 2 := h3
    cases hq : sp[P.2.toNat]? with
    | none => rw [hq] at hN; cases hN
    | some q =>
      rw [hq] at hN
      dsimp only at hN
      obtain ⟨hb, hN⟩ := ybif hN
      obtain ⟨ht, hb⟩ := xand hb
      obtain ⟨hl, hb⟩ := xand hb
      obtain ⟨hin, hb⟩ := xand hb
      obtain ⟨hv01, hall⟩ := xand hb
      obtain ⟨c, c1, c2, c3⟩ := yCell_at hs.2.2.1 hq
      obtain ⟨b1, b2⟩ := yIn_ok hs.2.2.2.1 hs.2.2.2.2.1 hin
      obtain ⟨d1, d2⟩ := yIn_ok hs.2.2.2.1 hs.2.2.2.2.1 hv01
      obtain ⟨i1, i2, i3⟩ := yidx (lo := 0) h1 b1 b2 (xble hl)
      obtain ⟨w1, w2, w3⟩ := yidx (lo := 0) (hi := 2) h0 d1 (by omega) (by omega)
      have hl := xble hl
      have hsm := yg_small h0 (Or.inl rfl)
      have hv8 : (Nat.beq v 0 || Nat.beq v 8) = true := by
        have := (yg_int h0).1
        rcases (show v = 0 ∨ v = 8 by omega) with rfl | rfl <;> rfl
      have hgc : xGet Wd (rc / 8) = c := by rw [show rc / 8 = P.2.toNat by omega, xGet_eq, List.getD_eq_getElem?_getD, c1]; rfl
      have hG := hK _ _ _ _ _ _ hN τ L t (Wd.set P.2.toNat (xPn c (x / 8) 1 v)) ⟨hs.1, h4, yJ_put hs.2.2.1 c1 hq hsm (yAcc_ok hs h0 i1 hall), hs.2.2.2.1, hs.2.2.2.2.1, yPut_ok hs.2.2.2.2.2 c1 hsm i1 h0⟩
      have hc8 : c % 8 = 5 := by rw [← x8, c2]; exact xbeq ht
      unfold xo_bastore
      dsimp only
      rw [(yg_int h1).1, show Nat.beq 0 4 = false from rfl, cond_false, show Nat.blt (x / 8) 2147483648 = true from Nat.ble_eq_true_of_le (show x / 8 + 1 ≤ 2147483648 by omega), show rc % 8 = 2 by omega, hv8, show (Nat.beq 0 0 && true && Nat.beq 2 2 && true) = true from rfl, cond_true, xF_eq, hgc, hc8, c2, show Nat.blt (x / 8) (q.1 / 8) = true from Nat.ble_eq_true_of_le i3, show (Nat.beq 5 5 && true) = true from rfl, cond_true, xF_eq, xSet_eq, xF_eq, show rc / 8 = P.2.toNat by omega]
      exact hKc _ _ _ _ hG
  | [], h, _ => cases h
  | [_], h, _ => cases h
  | [_, _], h, _ => cases h
/-! lengths -/
def yo_len (K : yKt) (sp : List yCell) (pc : Nat) (LA SA : List yA) (env : xEv) (fs : List yF) (ca : yCa) : Bool := match SA with
  | a :: r => bif Nat.beq a.1 2 then (match sp[a.2.2.toNat]? with
    | none => false
    | some q => bif Nat.beq (q.1 % 2) 1 && Nat.blt (q.1 / 8) 2147483648 then K (pc + 1) LA ((0, yK ((q.1 / 8 : Nat) : Int)) :: r) env fs ca else false) else false
  | _ => false
theorem yc_alen {Lz k mc ms : Nat} (hKc : ∀ pc L S Wd, G pc L S Wd → Kc pc L S Wd cc cs [] = some []) (hK : yHK G sp γ K) (hs : ySt sp γ τ L S Wd LA SA env fs ca) (h : yo_len K sp pc LA SA env fs ca = true) : xo_alen Lz k mc ms Kc a1 a2 pc L S Wd cc cs [] = some [] := by
  unfold yo_len at h
  match SA, h, hs with
  | (ka, P) :: r, h, hs =>
    dsimp only at h
    obtain ⟨hk, hN⟩ := ybif h
    have hka : ka = 2 := xbeq hk
    subst hka
    obtain ⟨rc, t, rfl, h3, h4⟩ := yR_c (c := 0) hs.2.1
    have hrc : rc = 8 * P.2.toNat + 2 := h3
    cases hq : sp[P.2.toNat]? with
    | none => rw [hq] at hN; cases hN
    | some q =>
      rw [hq] at hN
      dsimp only at hN
      obtain ⟨hb, hN⟩ := ybif hN
      obtain ⟨ht, hl⟩ := xand hb
      have hl := xblt hl
      obtain ⟨c, c1, c2, c3⟩ := yCell_at hs.2.2.1 hq
      have hgc : xGet Wd (rc / 8) = c := by rw [show rc / 8 = P.2.toNat by omega, xGet_eq, List.getD_eq_getElem?_getD, c1]; rfl
      have hc2 : c % 2 = 1 := by
        have := xbeq ht
        omega
      have hxs : xs32 (q.1 / 8) = ((q.1 / 8 : Nat) : Int) := by
        unfold xs32 xb32
        omega
      have hG := hK _ _ _ _ _ _ hN τ L ((q.1 / 8 * 8) :: t) Wd ⟨hs.1, ⟨⟨show q.1 / 8 * 8 % 8 = 0 by omega, show q.1 / 8 * 8 / 8 < 4294967296 by omega, by rw [show q.1 / 8 * 8 / 8 = q.1 / 8 by omega, hxs]; exact (yK_eq τ _).symm⟩, h4⟩, hs.2.2⟩
      unfold xo_alen
      dsimp only
      rw [show rc % 8 = 2 by omega, show Nat.beq 2 2 = true from rfl, cond_true, xF_eq, hgc, hc2, show Nat.beq 1 1 = true from rfl, cond_true, xF_eq, xF_eq, c2]
      exact hKc _ _ _ _ hG
  | [], h, _ => cases h
/-! switches -/
def yAtE (env : xEv) (fs : List yF) (X : yF) (v : Int) (k : xEv → List yF → Bool) : Bool := yTry env fs [ySub X (yK v), ySub (yK v) X] k
theorem yAtE_ok {X : yF} {v : Int} {k : xEv → List yF → Bool} (h : yAtE env fs X v k = true) (hE : yEO γ τ env) (hF : yFO τ fs) (hv : yv τ X = v) : ∃ e' f', k e' f' = true ∧ yEO γ τ e' ∧ yFO τ f' := by
  obtain ⟨e', g1, g2, g3⟩ := yTry_ok h hE hF (by
    intro F hF'
    rcases List.mem_cons.mp hF' with rfl | hF'
    · rw [ySub_eq, yK_eq]; omega
    · rcases List.mem_cons.mp hF' with rfl | hF'
      · rw [ySub_eq, yK_eq]; omega
      · cases hF')
  exact ⟨e', _, g1, g2, g3⟩
def yo_lsw (K : yKt) (i : Instr) (pc : Nat) (LA SA : List yA) (env : xEv) (fs : List yF) (ca : yCa) : Bool := match i with
  | .lookupswitch df ps => (match SA with
    | a :: r => bif Nat.beq a.1 0 && (decide (0 ≤ (pc : Int) + df) && (K ((pc : Int) + df).toNat LA r env fs ca && ps.toList.all (fun q => decide (0 ≤ (pc : Int) + q.2) && yAtE env fs a.2 q.1 (fun e' f' => K ((pc : Int) + q.2).toNat LA r e' f' ca)))) then true else false
    | _ => false)
  | _ => false
theorem yoffs (df z : Int) (l : List (Int × Int)) : Op.lookupswitch.offset l df z = df ∨ ∃ q ∈ l, q.1 = z ∧ Op.lookupswitch.offset l df z = q.2 := by
  induction l with
  | nil => exact Or.inl rfl
  | cons q t ih =>
    obtain ⟨a, o⟩ := q
    rw [Op.lookupswitch.offset_cons]
    by_cases ha : a = z
    · rw [if_pos ha]
      exact Or.inr ⟨(a, o), List.mem_cons_self, ha, rfl⟩
    · rw [if_neg ha]
      rcases ih with h | ⟨q, h1, h2, h3⟩
      · exact Or.inl h
      · exact Or.inr ⟨q, List.mem_cons_of_mem _ h1, h2, h3⟩
theorem yc_lsw {df : Int} {ps : Array (Int × Int)} (hKc : ∀ pc L S Wd, G pc L S Wd → Kc pc L S Wd cc cs [] = some []) (hK : yHK G sp γ K) (hs : ySt sp γ τ L S Wd LA SA env fs ca) (h : yo_lsw K (.lookupswitch df ps) pc LA SA env fs ca = true) : xo_lsw Kc (.lookupswitch df ps) pc L S Wd cc cs [] = some [] := by
  unfold yo_lsw at h
  match SA, h, hs with
  | (ka, X) :: r, h, hs =>
    dsimp only at h
    have hN := (ybif (x := true) h).1
    obtain ⟨hka, hN⟩ := xand hN
    obtain ⟨hd0, hN⟩ := xand hN
    obtain ⟨hd, hall⟩ := xand hN
    have hka : ka = 0 := xbeq hka
    subst hka
    obtain ⟨x, t, rfl, h1, h2⟩ := yR_c (c := 0) hs.2.1
    obtain ⟨gx, -, vx⟩ := yg_int h1
    unfold xo_lsw
    dsimp only
    rw [gx, show Nat.beq 0 0 = true from rfl, cond_true]
    rcases yoffs df (xs32 (x / 8)) ps.toList with e | ⟨q, hq, e1, e⟩
    · rw [e, if_pos (of_decide_eq_true hd0), xF_eq]
      exact hKc _ _ _ _ (hK _ _ _ _ _ _ hd τ L t Wd ⟨hs.1, h2, hs.2.2⟩)
    · have hz := List.all_eq_true.mp hall q hq
      obtain ⟨z1, z2⟩ := xand hz
      obtain ⟨e', f', k1, k2, k3⟩ := yAtE_ok (v := q.1) z2 hs.2.2.2.1 hs.2.2.2.2.1 (by rw [← vx]; exact e1.symm)
      rw [e, if_pos (of_decide_eq_true z1), xF_eq]
      exact hKc _ _ _ _ (hK _ _ _ _ _ _ k1 τ L t Wd ⟨hs.1, h2, hs.2.2.1, k2, k3, hs.2.2.2.2.2⟩)
  | [], h, _ => cases h
def yAllN (f : Nat → Bool) : Nat → Bool
  | 0 => true
  | n + 1 => f n && yAllN f n
theorem yAllN_ok {f : Nat → Bool} {n : Nat} (h : yAllN f n = true) : ∀ i, i < n → f i = true := by
  induction n with
  | zero => intro i hi; omega
  | succ n ih =>
    intro i hi
    have h' : (f n && yAllN f n) = true := h
    by_cases hn : i = n
    · subst hn; exact (xand h').1
    · exact ih (xand h').2 i (by omega)
def yo_tsw (K : yKt) (i : Instr) (pc : Nat) (LA SA : List yA) (env : xEv) (fs : List yF) (ca : yCa) : Bool := match i with
  | .tableswitch df lo hi offs => (match SA with
    | a :: r => bif Nat.beq a.1 0 && (decide (0 ≤ (pc : Int) + df) && (yTry env fs [ySub (yK (lo - 1)) a.2] (fun e' f' => K ((pc : Int) + df).toNat LA r e' f' ca) && (yTry env fs [ySub a.2 (yK (hi + 1))] (fun e' f' => K ((pc : Int) + df).toNat LA r e' f' ca) && yAllN (fun j => match offs[j]? with
      | none => false
      | some off => decide (0 ≤ (pc : Int) + off) && yAtE env fs a.2 (lo + j) (fun e' f' => K ((pc : Int) + off).toNat LA r e' f' ca)) (hi - lo + 1).toNat))) then true else false
    | _ => false)
  | _ => false
theorem yc_tsw {df lo hi : Int} {offs : Array Int} (hKc : ∀ pc L S Wd, G pc L S Wd → Kc pc L S Wd cc cs [] = some []) (hK : yHK G sp γ K) (hs : ySt sp γ τ L S Wd LA SA env fs ca) (h : yo_tsw K (.tableswitch df lo hi offs) pc LA SA env fs ca = true) : xo_tsw Kc (.tableswitch df lo hi offs) pc L S Wd cc cs [] = some [] := by
  unfold yo_tsw at h
  match SA, h, hs with
  | (ka, X) :: r, h, hs =>
    dsimp only at h
    have hN := (ybif (x := true) h).1
    obtain ⟨hka, hN⟩ := xand hN
    obtain ⟨hd0, hN⟩ := xand hN
    obtain ⟨hlo, hN⟩ := xand hN
    obtain ⟨hhi, hall⟩ := xand hN
    have hka : ka = 0 := xbeq hka
    subst hka
    obtain ⟨x, t, rfl, h1, h2⟩ := yR_c (c := 0) hs.2.1
    obtain ⟨gx, -, vx⟩ := yg_int h1
    unfold xo_tsw
    dsimp only
    rw [gx, show Nat.beq 0 0 = true from rfl, cond_true]
    by_cases hc : xs32 (x / 8) < lo ∨ hi < xs32 (x / 8)
    · rw [if_pos hc, if_pos (of_decide_eq_true hd0), xF_eq]
      rcases hc with hc | hc
      · obtain ⟨e', k1, k2, k3⟩ := yTry_ok hlo hs.2.2.2.1 hs.2.2.2.2.1 (by
          intro F hF'
          rcases List.mem_cons.mp hF' with rfl | hF'
          · rw [ySub_eq, yK_eq]; omega
          · cases hF')
        exact hKc _ _ _ _ (hK _ _ _ _ _ _ k1 τ L t Wd ⟨hs.1, h2, hs.2.2.1, k2, k3, hs.2.2.2.2.2⟩)
      · obtain ⟨e', k1, k2, k3⟩ := yTry_ok hhi hs.2.2.2.1 hs.2.2.2.2.1 (by
          intro F hF'
          rcases List.mem_cons.mp hF' with rfl | hF'
          · rw [ySub_eq, yK_eq]; omega
          · cases hF')
        exact hKc _ _ _ _ (hK _ _ _ _ _ _ k1 τ L t Wd ⟨hs.1, h2, hs.2.2.1, k2, k3, hs.2.2.2.2.2⟩)
    · rw [if_neg hc]
      have hz := yAllN_ok hall (xs32 (x / 8) - lo).toNat (by omega)
      cases ho : offs[(xs32 (x / 8) - lo).toNat]? with
      | none => rw [ho] at hz; cases hz
      | some off =>
        rw [ho] at hz
        dsimp only at hz ⊢
        obtain ⟨z1, z2⟩ := xand hz
        obtain ⟨e', f', k1, k2, k3⟩ := yAtE_ok z2 hs.2.2.2.1 hs.2.2.2.2.1 (by rw [← vx]; omega)
        rw [if_pos (of_decide_eq_true z1), xF_eq]
        exact hKc _ _ _ _ (hK _ _ _ _ _ _ k1 τ L t Wd ⟨hs.1, h2, hs.2.2.1, k2, k3, hs.2.2.2.2.2⟩)
  | [], h, _ => cases h
end YHR
