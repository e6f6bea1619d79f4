/-! bits of a long -/
def zbt (v : Int) (i : Nat) : Int := if v.toNat.testBit i then 1 else 0
theorem zbt_01 (v : Int) (i : Nat) : zbt v i = 0 ∨ zbt v i = 1 := by
  unfold zbt
  split
  · exact Or.inr rfl
  · exact Or.inl rfl
def zso (v : Int) (s : Nat) : Int := ((v.toNat ||| 2 ^ s : Nat) : Int)
def ztg (v : Int) (s : Nat) : Int := ((v.toNat ^^^ 2 ^ s : Nat) : Int)
theorem zbt_so (v : Int) (s i : Nat) : zbt (zso v s) i = if i = s then 1 else zbt v i := by
  unfold zbt zso
  rw [Int.toNat_natCast, Nat.testBit_or, Nat.testBit_two_pow]
  by_cases h : i = s
  · rw [if_pos h]; simp [h]
  · rw [if_neg h]
    have : decide (s = i) = false := by simp; omega
    rw [this, Bool.or_false]
theorem zbt_tg (v : Int) (s i : Nat) : zbt (ztg v s) i = if i = s then 1 - zbt v i else zbt v i := by
  unfold zbt ztg
  rw [Int.toNat_natCast, Nat.testBit_xor, Nat.testBit_two_pow]
  by_cases h : i = s
  · rw [if_pos h]
    subst h
    cases hb : v.toNat.testBit i <;> simp
  · rw [if_neg h]
    have : decide (s = i) = false := by simp; omega
    rw [this, Bool.xor_false]
theorem zso_lt {v : Int} {s n : Nat} (hv : v < 2 ^ n) (hs : s < n) (h0 : 0 ≤ v) : 0 ≤ zso v s ∧ zso v s < 2 ^ n := by
  unfold zso
  have h1 : v.toNat < 2 ^ n := by
    have : ((2 ^ n : Nat) : Int) = 2 ^ n := by push_cast; rfl
    omega
  have h2 := Nat.or_lt_two_pow h1 (Nat.pow_lt_pow_right (by decide) hs)
  have : ((2 ^ n : Nat) : Int) = 2 ^ n := by push_cast; rfl
  omega
theorem ztg_lt {v : Int} {s n : Nat} (hv : v < 2 ^ n) (hs : s < n) (h0 : 0 ≤ v) : 0 ≤ ztg v s ∧ ztg v s < 2 ^ n := by
  unfold ztg
  have h1 : v.toNat < 2 ^ n := by
    have : ((2 ^ n : Nat) : Int) = 2 ^ n := by push_cast; rfl
    omega
  have h2 := Nat.xor_lt_two_pow h1 (Nat.pow_lt_pow_right (by decide) hs)
  have : ((2 ^ n : Nat) : Int) = 2 ^ n := by push_cast; rfl
  omega
theorem zl_nn {x : Int64} {n : Nat} (h : x.toBitVec.toNat = n) (hn : n < 9223372036854775808) : x.toInt = n := by
  show x.toBitVec.toInt = n
  rw [BitVec.toInt_eq_toNat_of_lt (by omega), h]
theorem zl_bv {v : Int} (h0 : 0 ≤ v) (h1 : v < 9223372036854775808) : (Int64.ofInt v).toBitVec.toNat = v.toNat := by
  show (BitVec.ofInt 64 v).toNat = v.toNat
  rw [BitVec.toNat_ofInt]
  omega
theorem zand64 {x y : Int} (hx : 0 ≤ x ∧ x < 9223372036854775808) (hy : 0 ≤ y ∧ y < 9223372036854775808) : (Int64.ofInt x &&& Int64.ofInt y).toInt = ((x.toNat &&& y.toNat : Nat) : Int) := by
  refine zl_nn ?_ ?_
  · rw [Int64.toBitVec_and, BitVec.toNat_and, zl_bv hx.1 hx.2, zl_bv hy.1 hy.2]
  · exact Nat.lt_of_le_of_lt Nat.and_le_left (by omega)
theorem zor64 {x y : Int} (hx : 0 ≤ x ∧ x < 9223372036854775808) (hy : 0 ≤ y ∧ y < 9223372036854775808) : (Int64.ofInt x ||| Int64.ofInt y).toInt = ((x.toNat ||| y.toNat : Nat) : Int) := by
  refine zl_nn ?_ ?_
  · rw [Int64.toBitVec_or, BitVec.toNat_or, zl_bv hx.1 hx.2, zl_bv hy.1 hy.2]
  · exact Nat.or_lt_two_pow (n := 63) (by omega) (by omega)
theorem zxor64 {x y : Int} (hx : 0 ≤ x ∧ x < 9223372036854775808) (hy : 0 ≤ y ∧ y < 9223372036854775808) : (Int64.ofInt x ^^^ Int64.ofInt y).toInt = ((x.toNat ^^^ y.toNat : Nat) : Int) := by
  refine zl_nn ?_ ?_
  · rw [Int64.toBitVec_xor, BitVec.toNat_xor, zl_bv hx.1 hx.2, zl_bv hy.1 hy.2]
  · exact Nat.xor_lt_two_pow (n := 63) (by omega) (by omega)
theorem zsh_c : ∀ s : Fin 62, (Int64.ofInt 1 <<< ((Int32.ofInt (s.val : Int)).toInt64 &&& 63)).toInt = 2 ^ s.val := by decide +kernel
theorem zsh_r : ∀ s : Fin 62, ((((Int32.ofInt (s.val : Int)).toInt64 &&& 63).toBitVec).smod 64).toNat = s.val := by decide +kernel
theorem zshr64 {x s : Int} (hx : 0 ≤ x ∧ x < 9223372036854775808) (hs : 0 ≤ s ∧ s < 62) : (Int64.ofInt x >>> ((Int32.ofInt s).toInt64 &&& 63)).toInt = ((x.toNat / 2 ^ s.toNat : Nat) : Int) := by
  have h := zsh_r ⟨s.toNat, by omega⟩
  dsimp only at h
  rw [show ((s.toNat : Nat) : Int) = s by omega] at h
  show (BitVec.sshiftRight' (Int64.ofInt x).toBitVec (((Int32.ofInt s).toInt64 &&& 63).toBitVec.smod 64)).toInt = _
  unfold BitVec.sshiftRight'
  rw [h, BitVec.toInt_sshiftRight]
  have e : (Int64.ofInt x).toBitVec.toInt = x := by
    rw [BitVec.toInt_eq_toNat_of_lt (by rw [zl_bv hx.1 hx.2]; omega), zl_bv hx.1 hx.2]
    omega
  rw [e, Int.shiftRight_eq_div_pow, Int.natCast_ediv, show ((x.toNat : Nat) : Int) = x by omega]
theorem zand_pow (x s : Nat) : x &&& 2 ^ s = if x.testBit s then 2 ^ s else 0 := by
  apply Nat.eq_of_testBit_eq
  intro i
  rw [Nat.testBit_and, Nat.testBit_two_pow]
  by_cases h : s = i
  · subst h
    cases hb : x.testBit s
    · simp
    · simp [Nat.testBit_two_pow]
  · have : decide (s = i) = false := by simp; omega
    rw [this, Bool.and_false]
    cases hb : x.testBit s
    · simp
    · simp [Nat.testBit_two_pow, this]
theorem zw_33p {E : zE} {d k pc q a1 a2 : Nat} {L S : List zV} {m : zM} {Q : zV → zM → Prop} {i : Instr} {s : Int} (h : zRow xM k pc = some (33, i, q, a1, a2)) (hs : 0 ≤ s ∧ s < 62) (n : ∀ r : Int, r = 2 ^ s.toNat → 1 ≤ r → r ≤ 2305843009213693952 → zW E d k q L ((1, r) :: S) m Q) : zW E d k pc L ((0, s) :: (1, 1) :: S) m Q := by
  have e := zsh_c ⟨s.toNat, by omega⟩
  dsimp only at e
  rw [show ((s.toNat : Nat) : Int) = s by omega] at e
  have h1 : 2 ^ s.toNat ≤ 2 ^ 61 := Nat.pow_le_pow_right (by decide) (by omega)
  have h2 : 1 ≤ 2 ^ s.toNat := Nat.one_le_two_pow
  have h3 : (((2 ^ s.toNat : Nat)) : Int) = 2 ^ s.toNat := by push_cast; rfl
  exact zw_p h (by decide) (by decide) rfl (n _ e (by rw [e]; omega) (by rw [e]; omega))
theorem zw_30p {E : zE} {d k pc q a1 a2 : Nat} {L S : List zV} {m : zM} {Q : zV → zM → Prop} {i : Instr} {x y s : Int} (h : zRow xM k pc = some (30, i, q, a1, a2)) (hy : y = 2 ^ s.toNat) (hs : 0 ≤ s ∧ s < 62) (hx : 0 ≤ x ∧ x ≤ 1152921504606846975) (n : ∀ r : Int, ((zbt x s.toNat = 1 ∧ r = y) ∨ (zbt x s.toNat = 0 ∧ r = 0)) → zW E d k q L ((1, r) :: S) m Q) : zW E d k pc L ((1, y) :: (1, x) :: S) m Q := by
  have h1 : 2 ^ s.toNat ≤ 2 ^ 61 := Nat.pow_le_pow_right (by decide) (by omega)
  have h2 : 1 ≤ 2 ^ s.toNat := Nat.one_le_two_pow
  have h3 : (((2 ^ s.toNat : Nat)) : Int) = 2 ^ s.toNat := by push_cast; rfl
  have e := zand64 (x := x) (y := y) (by omega) (by omega)
  refine zw_p h (by decide) (by decide) rfl (n _ ?_)
  dsimp only
  rw [e, show y.toNat = 2 ^ s.toNat by omega, zand_pow]
  unfold zbt
  cases hb : x.toNat.testBit s.toNat
  · refine Or.inr ⟨rfl, ?_⟩
    simp
  · refine Or.inl ⟨rfl, ?_⟩
    simp
    omega
theorem zw_30o {E : zE} {d k pc q a1 a2 : Nat} {L S : List zV} {m : zM} {Q : zV → zM → Prop} {i : Instr} {x : Int} (h : zRow xM k pc = some (30, i, q, a1, a2)) (hx : 0 ≤ x ∧ x ≤ 9223372036854775807) (n : zW E d k q L ((1, x % 2) :: S) m Q) : zW E d k pc L ((1, 1) :: (1, x) :: S) m Q := by
  have e := zand64 (x := x) (y := 1) (by omega) (by omega)
  have e2 : (Int64.ofInt x &&& Int64.ofInt 1).toInt = x % 2 := by
    rw [e, show (1 : Int).toNat = 1 from rfl, Nat.and_one_is_mod]
    omega
  refine zw_p h (by decide) (by decide) ?_ n
  show some (q, L, (1, (Int64.ofInt x &&& Int64.ofInt 1).toInt) :: S, m) = _
  rw [e2]
theorem zw_31p {E : zE} {d k pc q a1 a2 : Nat} {L S : List zV} {m : zM} {Q : zV → zM → Prop} {i : Instr} {x y s : Int} (h : zRow xM k pc = some (31, i, q, a1, a2)) (hy : y = 2 ^ s.toNat) (hs : 0 ≤ s ∧ s < 60) (hx : 0 ≤ x ∧ x ≤ 1152921504606846975) (n : ∀ r : Int, r = zso x s.toNat → 0 ≤ r → r ≤ 1152921504606846975 → zW E d k q L ((1, r) :: S) m Q) : zW E d k pc L ((1, y) :: (1, x) :: S) m Q := by
  have h1 : 2 ^ s.toNat ≤ 2 ^ 61 := Nat.pow_le_pow_right (by decide) (by omega)
  have h2 : 1 ≤ 2 ^ s.toNat := Nat.one_le_two_pow
  have h3 : (((2 ^ s.toNat : Nat)) : Int) = 2 ^ s.toNat := by push_cast; rfl
  have e := zor64 (x := x) (y := y) (by omega) (by omega)
  rw [show y.toNat = 2 ^ s.toNat by omega] at e
  have hb := zso_lt (v := x) (s := s.toNat) (n := 60) (by omega) (by omega) hx.1
  have e : (Int64.ofInt x ||| Int64.ofInt y).toInt = zso x s.toNat := e
  exact zw_p h (by decide) (by decide) rfl (n _ e (by rw [e]; exact hb.1) (by rw [e]; omega))
theorem zw_32p {E : zE} {d k pc q a1 a2 : Nat} {L S : List zV} {m : zM} {Q : zV → zM → Prop} {i : Instr} {x y s : Int} (h : zRow xM k pc = some (32, i, q, a1, a2)) (hy : y = 2 ^ s.toNat) (hs : 0 ≤ s ∧ s < 60) (hx : 0 ≤ x ∧ x ≤ 1152921504606846975) (n : ∀ r : Int, r = ztg x s.toNat → 0 ≤ r → r ≤ 1152921504606846975 → zW E d k q L ((1, r) :: S) m Q) : zW E d k pc L ((1, y) :: (1, x) :: S) m Q := by
  have h1 : 2 ^ s.toNat ≤ 2 ^ 61 := Nat.pow_le_pow_right (by decide) (by omega)
  have h2 : 1 ≤ 2 ^ s.toNat := Nat.one_le_two_pow
  have h3 : (((2 ^ s.toNat : Nat)) : Int) = 2 ^ s.toNat := by push_cast; rfl
  have e := zxor64 (x := x) (y := y) (by omega) (by omega)
  rw [show y.toNat = 2 ^ s.toNat by omega] at e
  have hb := ztg_lt (v := x) (s := s.toNat) (n := 60) (by omega) (by omega) hx.1
  have e : (Int64.ofInt x ^^^ Int64.ofInt y).toInt = ztg x s.toNat := e
  exact zw_p h (by decide) (by decide) rfl (n _ e (by rw [e]; exact hb.1) (by rw [e]; omega))
theorem zw_34p {E : zE} {d k pc q a1 a2 : Nat} {L S : List zV} {m : zM} {Q : zV → zM → Prop} {i : Instr} {x s : Int} (h : zRow xM k pc = some (34, i, q, a1, a2)) (hs : 0 ≤ s ∧ s < 62) (hx : 0 ≤ x ∧ x ≤ 9223372036854775807) (n : ∀ r : Int, r % 2 = zbt x s.toNat → 0 ≤ r → r ≤ 9223372036854775807 → zW E d k q L ((1, r) :: S) m Q) : zW E d k pc L ((0, s) :: (1, x) :: S) m Q := by
  have e := zshr64 (x := x) (s := s) (by omega) hs
  have hb : x.toNat / 2 ^ s.toNat ≤ x.toNat := Nat.div_le_self _ _
  have hz : zbt x s.toNat = if decide (x.toNat / 2 ^ s.toNat % 2 = 1) then 1 else 0 := by unfold zbt; rw [Nat.testBit_eq_decide_div_mod_eq]
  generalize x.toNat / 2 ^ s.toNat = w at e hb hz
  refine zw_p h (by decide) (by decide) rfl (n _ ?_ (by rw [e]; omega) (by rw [e]; omega))
  rw [e, hz]
  by_cases hq : w % 2 = 1
  · rw [decide_eq_true hq, if_pos rfl]; omega
  · rw [decide_eq_false hq, if_neg (by decide)]; omega
