/-! the plain machine against the executor: numbers, cells, locals -/
theorem zU_lt (v : Int) : zU v < 4294967296 := by unfold zU; omega
theorem zUL_lt (v : Int) : zUL v < 18446744073709551616 := by unfold zUL; omega
theorem zU_ofInt (v : Int) : nI (zU v) = Int32.ofInt v := by
  apply Int32.toInt_inj.mp
  rw [xs32_eq, Int32.toInt_ofInt, show Int32.size = 4294967296 from rfl]
  unfold xs32 xb32 zU
  simp only [Int.bmod]
  split <;> omega
theorem zUL_ofInt (v : Int) : lN (zUL v) = Int64.ofInt v := by
  apply Int64.toInt_inj.mp
  rw [xs64_eq, Int64.toInt_ofInt, show Int64.size = 18446744073709551616 from rfl]
  unfold xs64 xb64 zUL
  simp only [Int.bmod]
  split <;> omega
theorem zxs32 {v : Int} (h : zIn v) : xs32 (zU v) = v := by
  unfold zIn at h
  unfold xs32 xb32 zU
  omega
theorem zxs64 {v : Int} (h : zInL v) : xs64 (zUL v) = v := by
  unfold zInL at h
  unfold xs64 xb64 zUL
  omega
theorem zN32_lt (x : Int32) : xN32 x < 4294967296 := x.toBitVec.isLt
theorem zN64_lt (x : Int64) : xN64 x < 18446744073709551616 := x.toBitVec.isLt
theorem zU_N (x : Int32) : zU x.toInt = xN32 x := by
  have h := xs32_eq (xN32 x)
  rw [xN32_eq] at h
  have h2 := zN32_lt x
  rw [h]
  unfold xs32 xb32 zU
  omega
theorem zUL_N (x : Int64) : zUL x.toInt = xN64 x := by
  have h := xs64_eq (xN64 x)
  rw [xN64_eq] at h
  have h2 := zN64_lt x
  rw [h]
  unfold xs64 xb64 zUL
  omega
theorem zToInt (x : Int32) : zIn x.toInt := by
  have h := xs32_eq (xN32 x)
  rw [xN32_eq] at h
  rw [h]
  unfold zIn xs32 xb32
  omega
theorem zToIntL (x : Int64) : zInL x.toInt := by
  have h := xs64_eq (xN64 x)
  rw [xN64_eq] at h
  rw [h]
  unfold zInL xs64 xb64
  omega
theorem zN_n {n : Nat} (h : n < 4294967296) : xN32 (nI n) = n := by
  have h1 := xs32_eq (xN32 (nI n))
  rw [xN32_eq, xs32_eq] at h1
  have h2 := zN32_lt (nI n)
  unfold xs32 xb32 at h1
  omega
theorem zNL_n {n : Nat} (h : n < 18446744073709551616) : xN64 (lN n) = n := by
  have h1 := xs64_eq (xN64 (lN n))
  rw [xN64_eq, xs64_eq] at h1
  have h2 := zN64_lt (lN n)
  unfold xs64 xb64 at h1
  omega
theorem zb0 (n : Nat) : Nat.beq (n * 8 % 8) 0 = true := by rw [Nat.mul_mod_left]; rfl
theorem zb04 (n : Nat) : Nat.beq (n * 8 % 8) 4 = false := by rw [Nat.mul_mod_left]; rfl
theorem zm1 (n : Nat) : (n * 8 + 1) % 8 = 1 := by omega
theorem zm2 (n : Nat) : (n * 8 + 2) % 8 = 2 := by omega
theorem zd0 (n : Nat) : n * 8 / 8 = n := by omega
theorem zd1 (n : Nat) : (n * 8 + 1) / 8 = n := by omega
theorem zd2 (n : Nat) : (n * 8 + 2) / 8 = n := by omega
theorem zb1 (n : Nat) : Nat.beq ((n * 8 + 1) % 8) 1 = true := by rw [zm1]; rfl
theorem zb2 (n : Nat) : Nat.beq ((n * 8 + 2) % 8) 2 = true := by rw [zm2]; rfl
theorem zblt {a b : Nat} (h : a < b) : Nat.blt a b = true := Nat.ble_eq_true_of_le h
theorem zble {a b : Nat} (h : a ≤ b) : Nat.ble a b = true := Nat.ble_eq_true_of_le h
theorem zbeq {a b : Nat} (h : a = b) : Nat.beq a b = true := by subst h; exact Nat.beq_refl a
theorem zbne {a b : Nat} (h : a ≠ b) : Nat.beq a b = false := by
  cases hq : Nat.beq a b with
  | false => rfl
  | true => exact absurd (xbeq hq) h
/-- tags of codes -/
theorem ztag (q : zV) : xIsL (zc q) = decide (q.1 = 1) := by
  obtain ⟨t, v⟩ := q
  match t with
  | 0 =>
    show xIsL (zU v * 8) = false
    unfold xIsL
    rw [show zU v * 8 % 8 = 0 from Nat.mul_mod_left _ _]
    rfl
  | 1 =>
    show xIsL (zUL v * 8 + 1) = true
    unfold xIsL
    rw [zm1]
    rfl
  | 2 =>
    show xIsL (v.toNat * 8 + 2) = false
    unfold xIsL
    rw [zm2]
    rfl
  | 3 => rfl
  | 4 => simp [zc, xIsL]; decide
  | 5 => simp [zc, xIsL]; decide
  | 6 => rfl
  | t + 7 =>
    show xIsL 11 = decide (t + 7 = 1)
    exact (decide_eq_false (by omega)).symm
theorem zcat (q : zV) : xCat (zc q) = zCat q := by
  unfold xCat zCat
  rw [ztag]
  by_cases h : q.1 = 1
  · rw [if_pos h, decide_eq_true h]; rfl
  · rw [if_neg h, decide_eq_false h]; rfl
theorem zcats (l : List zV) : xCats (l.map zc) = zCats l := by
  induction l with
  | nil => rfl
  | cons a t ih => rw [List.map_cons, xCats_cons, zcat, ih]; rfl
theorem zget {L : List zV} {i : Nat} (h : (zG L i).1 ≠ 9) : i < L.length ∧ xGet (L.map zc) i = zc (zG L i) ∧ zG L i ∈ L := by
  unfold zG at h ⊢
  rw [List.getD_eq_getElem?_getD] at h ⊢
  cases hq : L[i]? with
  | none => rw [hq] at h; exact absurd rfl h
  | some a =>
    have hl := (List.getElem?_eq_some_iff.mp hq).1
    refine ⟨hl, ?_, List.mem_of_getElem? hq⟩
    rw [xGet_eq, List.getD_eq_getElem?_getD, List.getElem?_map, hq]
    rfl
theorem zgetL (L : List zV) (i : Nat) : xIsL (xGet (L.map zc) i) = decide ((zG L i).1 = 1) := by
  by_cases h : (zG L i).1 = 9
  · by_cases hl : i < L.length
    · have e : xGet (L.map zc) i = zc (zG L i) := by
        unfold zG
        rw [xGet_eq, List.getD_eq_getElem?_getD, List.getD_eq_getElem?_getD, List.getElem?_map, List.getElem?_eq_getElem hl]
        rfl
      rw [e, ztag]
    · rw [xGet_eq, List.getD_eq_getElem?_getD, List.getElem?_eq_none (by rw [List.length_map]; omega), h]
      rfl
  · rw [(zget h).2.1, ztag]
theorem zput {α : Type} (L : List zV) (i : Nat) (v : zV) (k : List Nat → xRes) : xStL (L.map zc) i (zc v) k = k ((zPut L i v).map zc) := by
  cases i with
  | zero => unfold xStL zPut; rw [xSet_eq, List.map_set]
  | succ j =>
    unfold xStL zPut
    dsimp only
    rw [zgetL]
    by_cases h : (zG L j).1 = 1
    · rw [decide_eq_true h, if_pos h, cond_true, xSet_eq, xSet_eq, List.map_set, List.map_set]
      rfl
    · rw [decide_eq_false h, if_neg h, cond_false, xSet_eq, List.map_set]
theorem zput_len (L : List zV) (i : Nat) (v : zV) : (zPut L i v).length = L.length := by
  unfold zPut
  cases i with
  | zero => rw [List.length_set]
  | succ j =>
    dsimp only
    split
    · rw [List.length_set, List.length_set]
    · rw [List.length_set]
theorem zset_rs {L : List zV} {i : Nat} {v : zV} (hL : zRs L) (hv : zR v) : zRs (L.set i v) := by
  intro q hq
  rcases List.mem_or_eq_of_mem_set hq with h | h
  · exact hL q h
  · rw [h]; exact hv
theorem zput_rs {L : List zV} {i : Nat} {v : zV} (hL : zRs L) (hv : zR v) : zRs (zPut L i v) := by
  unfold zPut
  cases i with
  | zero => exact zset_rs hL hv
  | succ j =>
    dsimp only
    split
    · exact zset_rs (zset_rs hL trivial) hv
    · exact zset_rs hL hv
theorem zrs_cons {q : zV} {t : List zV} (h1 : zR q) (h2 : zRs t) : zRs (q :: t) := by
  intro a ha
  rcases List.mem_cons.mp ha with h | h
  · rw [h]; exact h1
  · exact h2 a h
theorem zrs_tl {q : zV} {t : List zV} (h : zRs (q :: t)) : zRs t := fun a ha => h a (List.mem_cons_of_mem _ ha)
theorem zrs_hd {q : zV} {t : List zV} (h : zRs (q :: t)) : zR q := h q List.mem_cons_self
theorem zent (as : List zV) : ∀ n, xEntL (as.map zc) n = (zEnt as n).map zc := by
  induction as with
  | nil => intro n; show List.replicate n 11 = _; unfold zEnt; rw [List.map_replicate]; rfl
  | cons a t ih =>
    intro n
    rw [List.map_cons]
    unfold xEntL zEnt
    rw [ztag]
    by_cases h : a.1 = 1
    · rw [decide_eq_true h, if_pos h, cond_true, ih]; rfl
    · rw [decide_eq_false h, if_neg h, cond_false, ih]; rfl
theorem zent_rs {as : List zV} (h : zRs as) : ∀ n, zRs (zEnt as n) := by
  induction as with
  | nil => intro n q hq; rw [List.eq_of_mem_replicate hq]; trivial
  | cons a t ih =>
    intro n
    unfold zEnt
    split
    · exact zrs_cons (zrs_hd h) (zrs_cons trivial (ih (zrs_tl h) _))
    · exact zrs_cons (zrs_hd h) (ih (zrs_tl h) _)
theorem xTk_app {α : Type} (bs : List Nat) : ∀ (r acc : List Nat) (k : List Nat → List Nat → α) (z : α), xTk bs.length (bs ++ r) acc k z = k (bs.reverse ++ acc) r := by
  induction bs with
  | nil => intro r acc k z; rfl
  | cons a t ih =>
    intro r acc k z
    show xTk t.length (t ++ r) (a :: acc) k z = _
    rw [ih]
    rw [List.reverse_cons, List.append_assoc]
    rfl
/-! cells -/
theorem zHd_lt {r : Nat} (h : zHd r ≠ 0) : r < zN := by
  by_cases hl : r < zN
  · exact hl
  · exfalso
    apply h
    unfold zHd
    rw [List.getD_eq_getElem?_getD, List.getElem?_eq_none (by have : zHdT.length = zN := rfl; omega)]
    rfl
theorem zRel.at {m : zM} {Wd : List Nat} (h : zRel m Wd) {r : Nat} (hr : zHd r ≠ 0) : Wd[r]? = some (xGet Wd r) ∧ xGet Wd r % 18446744073709551616 = zHd r ∧ ∀ k, (zKd r k).1 ≠ 7 → xDn (xGet Wd r) k 1 = zDig (zKd r k) (m r k) ∧ zRg (zKd r k) (m r k) := by
  have h1 := xGet_lt (l := Wd) (i := r) (by rw [h.1]; exact zHd_lt hr)
  exact ⟨h1, (h.2 r _ h1).1, (h.2 r _ h1).2⟩
theorem zRel.at8 {m : zM} {Wd : List Nat} (h : zRel m Wd) {r : Nat} (hr : zHd r ≠ 0) : xGet Wd r % 8 = zHd r % 8 := by
  rw [← x8, (h.at hr).2.1]
theorem zDig_lt {kd : Nat × Nat} (hk : kd.1 = 0 ∨ kd.1 = 1 ∨ kd.1 = 4) (v : Int) : zDig kd v < 4722366482869645213696 := by
  have h1 := zU_lt v
  have h2 := zUL_lt v
  obtain ⟨a, b⟩ := kd
  dsimp only at hk
  rcases hk with rfl | rfl | rfl
  · show zU v * 8 < _; omega
  · show zUL v * 8 + 1 < _; omega
  · show zUL v < _; omega
theorem zRel.up {m : zM} {Wd : List Nat} (h : zRel m Wd) {r k : Nat} {v : Int} (hr : zHd r ≠ 0) (hk : (zKd r k).1 = 0 ∨ (zKd r k).1 = 1 ∨ (zKd r k).1 = 4) (hv : zRg (zKd r k) v) : zRel (zUp m r k v) (Wd.set r (xPn (xGet Wd r) k 1 (zDig (zKd r k) v))) := by
  refine ⟨by rw [List.length_set]; exact h.1, fun r' c' hc => ?_⟩
  by_cases hrr : r = r'
  · subst hrr
    rw [List.getElem?_set_self (by rw [h.1]; exact zHd_lt hr)] at hc
    cases hc
    obtain ⟨g1, g2, g3⟩ := h.at hr
    refine ⟨by rw [xPn_hdr]; exact g2, fun j hj => ?_⟩
    rw [xPn_one (zDig_lt hk v)]
    unfold zUp
    by_cases hjk : j = k
    · subst hjk
      rw [if_pos rfl, if_pos ⟨rfl, rfl⟩]
      exact ⟨rfl, hv⟩
    · rw [if_neg hjk, if_neg (fun q => hjk q.2)]
      exact g3 j hj
  · rw [List.getElem?_set_ne hrr] at hc
    have := h.2 r' c' hc
    unfold zUp
    refine ⟨this.1, fun j hj => ?_⟩
    rw [if_neg (fun q => hrr q.1.symm)]
    exact this.2 j hj
theorem zRel.cp {m : zM} {Wd : List Nat} (h : zRel m Wd) {dst dp src sp n : Nat} (hd : zHd dst % 8 = 1) (hs : zHd src % 8 = 1) (h1 : dp + n ≤ zLen dst) (h2 : sp + n ≤ zLen src) : zRel (zCp m dst dp src sp n) (Wd.set dst (xPn (xGet Wd dst) dp n (xDn (xGet Wd src) sp n))) := by
  have hd0 : zHd dst ≠ 0 := fun q => by rw [q] at hd; cases hd
  have hs0 : zHd src ≠ 0 := fun q => by rw [q] at hs; cases hs
  refine ⟨by rw [List.length_set]; exact h.1, fun r' c' hc => ?_⟩
  by_cases hrr : dst = r'
  · subst hrr
    rw [List.getElem?_set_self (by rw [h.1]; exact zHd_lt hd0)] at hc
    cases hc
    obtain ⟨g1, g2, g3⟩ := h.at hd0
    obtain ⟨f1, f2, f3⟩ := h.at hs0
    refine ⟨by rw [xPn_hdr]; exact g2, fun j hj => ?_⟩
    have hv : xDn (xGet Wd src) sp n < 2 ^ (72 * n) := Nat.mod_lt _ (Nat.two_pow_pos _)
    rw [xPn_dig hv]
    unfold zCp
    by_cases hjk : dp ≤ j ∧ j < dp + n
    · rw [if_pos hjk, if_pos ⟨rfl, hjk⟩, xDn_sub (by omega)]
      have e1 : zKd dst j = (0, 0) := by unfold zKd; rw [hd]; exact if_pos (by omega)
      have e2 : zKd src (sp + (j - dp)) = (0, 0) := by unfold zKd; rw [hs]; exact if_pos (by omega)
      have := f3 (sp + (j - dp)) (by rw [e2]; decide)
      rw [e2] at this
      rw [e1]
      exact this
    · rw [if_neg hjk, if_neg (fun q => hjk q.2)]
      exact g3 j hj
  · rw [List.getElem?_set_ne hrr] at hc
    have := h.2 r' c' hc
    unfold zCp
    refine ⟨this.1, fun j hj => ?_⟩
    rw [if_neg (fun q => hrr q.1.symm)]
    exact this.2 j hj
