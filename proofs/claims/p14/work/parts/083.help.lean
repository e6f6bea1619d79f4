theorem zRetB {v : Int} (h : v = 0 ∨ v = 1) : zRet (some .boolean) 108 [(0, v)] = some (0, v) := if_pos h
theorem zlsw_df {ps : Array (Int × Int)} {df x : Int} (h : ∀ q ∈ ps.toList.map Prod.fst, q ≠ x) : Op.lookupswitch.offset ps.toList df x = df := by
  generalize ps.toList = l at h
  induction l with
  | nil => rfl
  | cons a t ih =>
    obtain ⟨a1, a2⟩ := a
    rw [Op.lookupswitch.offset_cons, if_neg (h a1 (by simp))]
    exact ih (fun q hq => h q (by simp at hq ⊢; exact Or.inr hq))
theorem zw_15h {E : zE} {d k pc q a1 a2 : Nat} {L S : List zV} {L' : Int → List zV} {m : zM} {Q : zV → zM → Prop} {i : Instr} {v : Int} (h : zRow xM k pc = some (15, i, q, a1, a2)) (hg : zG L a1 = (0, v)) (hp : ∀ r, zPut L a1 (0, r) = L' r) (n : ∀ r : Int, -2147483648 ≤ r → r ≤ 2147483647 → zW E d k q (L' r) S m Q) : zW E d k pc L S m Q := by
  refine zw_p h (by decide) (by decide) ?_ (n (Int32.ofInt v + nI a2).toInt (zToInt _).1 (zToInt _).2)
  show zo_iinc q a1 a2 L S m = _
  unfold zo_iinc
  rw [hg]
  dsimp only
  rw [if_pos rfl, hp]
theorem zCp_ne {m : zM} {dst dp src sp n c k : Nat} (h : c ≠ dst) : zCp m dst dp src sp n c k = m c k := if_neg (fun q => h q.1)
theorem zInv.cp {m : zM} (h : zInv m) {dst dp src sp n l1 l2 : Nat} (h1 : ∀ k lo hi, dp ≤ k → k < dp + n → zBd dst k = some (lo, hi) → lo ≤ m src (sp + (k - dp)) ∧ m src (sp + (k - dp)) ≤ hi) (hs : zHd src = 8 * l2 + 1) (hl : sp + n ≤ l2) (h2 : dst ≠ 71) (h3 : dst ≠ 72) : zInv (zCp m dst dp src sp n) := by
  refine ⟨fun r k lo hi hb => ?_, fun j hj hm k lo hi hb => ?_, fun r k => ?_⟩
  · unfold zCp
    split
    · next hc =>
      obtain ⟨rfl, hc1, hc2⟩ := hc
      exact h1 k lo hi hc1 hc2 hb
    · exact h.1 r k lo hi hb
  · rw [zCp_ne h3.symm] at hm
    rw [zCp_ne h2.symm]
    exact h.2.1 j hj hm k lo hi hb
  · unfold zCp
    split
    · next hc => exact zRg_i (h.ra hs (by omega))
    · exact h.2.2 r k
theorem zInv.cp0 {m : zM} (h : zInv m) {dst dp src sp n l2 : Nat} (h1 : ∀ k, zBd dst k = none) (hs : zHd src = 8 * l2 + 1) (hl : sp + n ≤ l2) (h2 : dst ≠ 71) (h3 : dst ≠ 72) : zInv (zCp m dst dp src sp n) := h.cp (l1 := 0) (fun k lo hi _ _ hb => by rw [h1] at hb; cases hb) hs hl h2 h3
theorem zInv.cpS {m : zM} (h : zInv m) {dst src n l2 : Nat} (h1 : ∀ k, zBd dst k = zBd src k) (hs : zHd src = 8 * l2 + 1) (hl : 0 + n ≤ l2) (h2 : dst ≠ 71) (h3 : dst ≠ 72) : zInv (zCp m dst 0 src 0 n) := h.cp (l1 := 0) (fun k lo hi _ _ hb => by
  rw [Nat.zero_add, Nat.sub_zero]
  exact h.1 src k lo hi (by rw [← h1]; exact hb)) hs hl h2 h3
theorem zInv.cpT {m : zM} (h : zInv m) {sp n : Nat} (hs : sp + n ≤ 200) : zInv (zCp m 47 0 11 sp n) := h.cp (l1 := 0) (l2 := 200) (fun k lo hi h1 h2 hb => by
  have hb : (if k < 50 then some ((0 : Int), (127 : Int)) else none) = some (lo, hi) := hb
  split at hb
  · cases hb; exact ib_11 h (by omega)
  · cases hb) rfl hs (by decide) (by decide)
theorem zw_48k {E : zE} {d k pc q a1 a2 : Nat} {L S : List zV} {m : zM} {Q : zV → zM → Prop} {i : Instr} {r x v : Int} {c len kx : Nat} (h : zRow xM k pc = some (48, i, q, a1, a2)) (hc : r.toNat = c) (hh : zHd c = 8 * len + 1) (h0 : 0 ≤ x) (h1 : x < len) (hx : x.toNat = kx) (he : m c kx = v) (n : zW E d k q L ((0, v) :: S) m Q) : zW E d k pc L ((0, x) :: (2, r) :: S) m Q := zw_48 h hc hh h0 h1 (fun w hw => by rw [hw, hx, he]; exact n)
theorem zw_50k {E : zE} {d k pc q a1 a2 : Nat} {L S : List zV} {m : zM} {Q : zV → zM → Prop} {i : Instr} {r x v : Int} {c len kx : Nat} (h : zRow xM k pc = some (50, i, q, a1, a2)) (hc : r.toNat = c) (hh : zHd c = 8 * len + 3) (h0 : 0 ≤ x) (h1 : x < len) (hx : x.toNat = kx) (he : m c kx = v) (n : zW E d k q L ((1, v) :: S) m Q) : zW E d k pc L ((0, x) :: (2, r) :: S) m Q := zw_50 h hc hh h0 h1 (fun w hw => by rw [hw, hx, he]; exact n)
theorem zw_52k {E : zE} {d k pc q a1 a2 : Nat} {L S : List zV} {m : zM} {Q : zV → zM → Prop} {i : Instr} {r x v : Int} {c len kx : Nat} (h : zRow xM k pc = some (52, i, q, a1, a2)) (hc : r.toNat = c) (hh : zHd c = 8 * len + 5) (h0 : 0 ≤ x) (h1 : x < len) (hx : x.toNat = kx) (he : m c kx = v) (n : zW E d k q L ((0, v) :: S) m Q) : zW E d k pc L ((0, x) :: (2, r) :: S) m Q := zw_52 h hc hh h0 h1 (fun w hw => by rw [hw, hx, he]; exact n)
theorem zcg (f : Nat → Int) (a b : Nat) : a ≠ b ∨ f a = f b := by
  by_cases h : a = b
  · exact Or.inr (by rw [h])
  · exact Or.inl h
theorem zUp_w (m : zM) (r p k : Nat) (v : Int) : (p = k ∧ zUp m r k v r p = v) ∨ (p ≠ k ∧ zUp m r k v r p = m r p) := by
  by_cases h : p = k
  · subst h
    exact Or.inl ⟨rfl, zUp_eq _ _ _ _⟩
  · exact Or.inr ⟨h, zUp_ne (fun q => h q.2)⟩
theorem zw_29p {E : zE} {d k pc q a1 a2 : Nat} {L S : List zV} {m : zM} {Q : zV → zM → Prop} {i : Instr} {x y A B : Int} (h : zRow xM k pc = some (29, i, q, a1, a2)) (hx : 1 ≤ x) (hx2 : x ≤ A) (hy : 1 ≤ y) (hy2 : y ≤ B) (hab : A * B ≤ 9223372036854775807) (n : ∀ r : Int, 1 ≤ r → r ≤ A * B → zW E d k q L ((1, r) :: S) m Q) : zW E d k pc L ((1, y) :: (1, x) :: S) m Q := by
  have h1 : x * y ≤ A * B := Int.mul_le_mul hx2 hy2 (by omega) (by omega)
  have h2 : 1 * 1 ≤ x * y := Int.mul_le_mul hx hy (by omega) (by omega)
  exact zw_29 h ⟨by omega, by omega⟩ (n _ (by omega) h1)
theorem zrem64 {x y : Int} (hx : -9223372036854775808 ≤ x ∧ x ≤ 9223372036854775807) (hy : -9223372036854775808 ≤ y ∧ y ≤ 9223372036854775807) (hne : y ≠ 0) : (Int64.ofInt x - Int64.ofInt x / Int64.ofInt y * Int64.ofInt y).toInt = x.tmod y ∧ ((0 < y ∧ -y < x.tmod y ∧ x.tmod y < y) ∨ (y < 0 ∧ y < x.tmod y ∧ x.tmod y < -y)) := by
  have e1 : Int64.ofInt x / Int64.ofInt y = Int64.ofInt (x.tdiv y) := by
    apply Int64.toInt_inj.mp
    rw [Int64.toInt_div, zL_of hx, zL_of hy, Int64.toInt_ofInt]
  have e2 : x - x.tdiv y * y = x.tmod y := by
    have := Int.mul_tdiv_add_tmod x y
    rw [Int.mul_comm (x.tdiv y) y]
    omega
  have hb : (0 < y ∧ -y < x.tmod y ∧ x.tmod y < y) ∨ (y < 0 ∧ y < x.tmod y ∧ x.tmod y < -y) := by
    by_cases h0 : 0 < y
    · exact Or.inl ⟨h0, tmod_bounds h0⟩
    · have h1 : 0 < -y := by omega
      have h2 := tmod_bounds (a := x) h1
      rw [Int.tmod_neg] at h2
      exact Or.inr ⟨by omega, by omega, h2.2⟩
  refine ⟨?_, hb⟩
  rw [e1, ← Int64.ofInt_mul, ← Int64.ofInt_sub, e2, zL_of (by omega)]
theorem zw_119r {E : zE} {d k pc q a1 a2 : Nat} {L S : List zV} {m : zM} {Q : zV → zM → Prop} {i : Instr} {x y : Int} (h : zRow xM k pc = some (119, i, q, a1, a2)) (hne : y ≠ 0) (hx : -9223372036854775808 ≤ x ∧ x ≤ 9223372036854775807) (hy : -9223372036854775808 ≤ y ∧ y ≤ 9223372036854775807) (n : ∀ r : Int, -9223372036854775808 ≤ r → r ≤ 9223372036854775807 → ((0 < y ∧ -y < r ∧ r < y) ∨ (y < 0 ∧ y < r ∧ r < -y)) → zW E d k q L ((1, r) :: S) m Q) : zW E d k pc L ((1, y) :: (1, x) :: S) m Q := by
  obtain ⟨e, hb⟩ := zrem64 hx hy hne
  refine zw_p h (by decide) (by decide) ?_ (n (x.tmod y) (by omega) (by omega) hb)
  show (if y = 0 then none else some (q, L, (1, (Int64.ofInt x - Int64.ofInt x / Int64.ofInt y * Int64.ofInt y).toInt) :: S, m)) = _
  rw [if_neg hne, e]
theorem zw_101n {E : zE} {d k pc q a1 a2 : Nat} {L S : List zV} {m : zM} {Q : zV → zM → Prop} {i : Instr} {w n1 : Int} (h : zRow xM k pc = some (101, i, q, a1, a2)) (hk : k = 0) (hl : E.1 < 2147483648) (hn : (E.1 : Int) = n1) (n : zW E d k q L ((0, n1) :: S) m Q) : zW E d k pc L ((6, w) :: S) m Q := zw_101s h hk hl (by rw [hn]; exact n)
