/-! what holds of the cells between calls -/
def zb (n : Nat) (lo hi : Int) (k : Nat) : Option (Int × Int) := if k < n then some (lo, hi) else none
/-- the reference's record -/
def zbN (k : Nat) : Option (Int × Int) := if k < 10 then some (-60, 99) else if k < 90 then some (0, 99) else if k < 450 then (if (k - 90) % 6 = 0 then some (0, 99) else if (k - 90) % 6 ≤ 2 then some (0, 9) else if (k - 90) % 6 = 3 then some (0, 2) else some (0, 1)) else if k < 658 then (if (k - 450) % 52 = 0 then some (0, 9999) else if (k - 450) % 52 = 1 then some (0, 50) else some (0, 127)) else if k < 818 then some (-500, 500) else if k < 822 then some (1, 9) else if k = 822 then some (0, 10) else if k = 823 then some (0, 60) else if k = 824 then some (1, 1000) else if k = 825 then some (0, 500) else none
def zbO1 (k : Nat) : Option (Int × Int) := match k with
  | 0 => some (0, 10)
  | 1 => some (0, 60)
  | 2 => some (0, 1152921504606846975)
  | 3 => some (0, 1152921504606846975)
  | 4 => some (1, 1000)
  | 5 => some (0, 500)
  | _ => none
def zbO15 (k : Nat) : Option (Int × Int) := match k with
  | 0 => some (0, 10)
  | 1 => some (0, 60)
  | 2 => some (0, 1152921504606846975)
  | 3 => some (0, 1152921504606846975)
  | 4 => some (1, 1000)
  | 5 => some (0, 500)
  | _ => none
def zbO28 (k : Nat) : Option (Int × Int) := match k with
  | 0 => some (0, 10)
  | 1 => some (0, 60)
  | 2 => some (0, 1152921504606846975)
  | 3 => some (0, 1152921504606846975)
  | 4 => some (1, 1000)
  | 5 => some (0, 500)
  | _ => none
def zbO45 (k : Nat) : Option (Int × Int) := match k with
  | 5 => some (0, 50)
  | 6 => some (0, 50)
  | 7 => some (0, 8)
  | 8 => some (0, 50)
  | 9 => some (0, 50)
  | _ => none
def zbO52 (k : Nat) : Option (Int × Int) := match k with
  | 0 => some (-1, 9)
  | _ => none
def zbO69 (k : Nat) : Option (Int × Int) := match k with
  | 5 => some (0, 3)
  | 6 => some (0, 50)
  | 9 => some (0, 64)
  | 11 => some (0, 128)
  | 23 => some (0, 100)
  | _ => none
def zBd (r k : Nat) : Option (Int × Int) := match r with
  | 1 => zbO1 k
  | 2 => zb 10 (-60) 99 k
  | 3 => zb 40 (0) 99 k
  | 4 => zb 40 (0) 99 k
  | 5 => zb 60 (0) 99 k
  | 6 => zb 60 (0) 9 k
  | 7 => zb 60 (0) 9 k
  | 8 => zb 60 (0) 2 k
  | 9 => zb 4 (0) 9999 k
  | 10 => zb 4 (0) 50 k
  | 11 => zb 200 (0) 127 k
  | 12 => zb 160 (-500) 500 k
  | 13 => zb 4 (1) 9 k
  | 15 => zbO15 k
  | 16 => zb 10 (-60) 99 k
  | 17 => zb 40 (0) 99 k
  | 18 => zb 40 (0) 99 k
  | 19 => zb 60 (0) 99 k
  | 20 => zb 60 (0) 9 k
  | 21 => zb 60 (0) 9 k
  | 22 => zb 60 (0) 2 k
  | 23 => zb 4 (0) 9999 k
  | 24 => zb 4 (0) 50 k
  | 25 => zb 200 (0) 127 k
  | 26 => zb 160 (-500) 500 k
  | 27 => zb 4 (1) 9 k
  | 28 => zbO28 k
  | 29 => zb 10 (-60) 99 k
  | 30 => zb 40 (0) 99 k
  | 31 => zb 40 (0) 99 k
  | 32 => zb 60 (0) 99 k
  | 33 => zb 60 (0) 9 k
  | 34 => zb 60 (0) 9 k
  | 35 => zb 60 (0) 2 k
  | 36 => zb 4 (0) 9999 k
  | 37 => zb 4 (0) 50 k
  | 38 => zb 200 (0) 127 k
  | 39 => zb 160 (-500) 500 k
  | 40 => zb 4 (1) 9 k
  | 41 => zb 2 (0) 1 k
  | 45 => zbO45 k
  | 47 => zb 50 (0) 127 k
  | 48 => zb 50 (-127) 999999 k
  | 51 => zb 10 (0) 99 k
  | 52 => zbO52 k
  | 54 => zb 10 (0) 60 k
  | 59 => zb 10 (-1) 59 k
  | 66 => zb 10 (0) 2 k
  | 69 => zbO69 k
  | 70 => zbN k
  | 72 => zb 2 (0) 1 k
  | 74 => zb 128 (0) 1002 k
  | 78 => zb 10 (-1) 99 k
  | 81 => zb 10 (0) 100000000 k
  | _ => none
def zIk (m : zM) : Prop := ∀ j, j < 2 → m 72 j ≠ 0 → ∀ k lo hi, zbN k = some (lo, hi) → lo ≤ m 71 (826 * j + k) ∧ m 71 (826 * j + k) ≤ hi
def zInv (m : zM) : Prop := (∀ r k lo hi, zBd r k = some (lo, hi) → lo ≤ m r k ∧ m r k ≤ hi) ∧ zIk m ∧ ∀ r k, zRg (zKd r k) (m r k)
theorem zUp_eq (m : zM) (r k : Nat) (v : Int) : zUp m r k v r k = v := if_pos ⟨rfl, rfl⟩
theorem zUp_ne {m : zM} {r k : Nat} {v : Int} {r' k' : Nat} (h : ¬ (r' = r ∧ k' = k)) : zUp m r k v r' k' = m r' k' := if_neg h
theorem zRg_i {kd : Nat × Nat} {v : Int} (h : -2147483648 ≤ v ∧ v ≤ 2147483647) : zRg kd v := by
  obtain ⟨a, b⟩ := kd
  unfold zRg
  dsimp only
  split
  · exact h
  · show _ ∧ _; omega
  · show _ ∧ _; omega
  · trivial
theorem zRg_l {kd : Nat × Nat} {v : Int} (hk : kd.1 ≠ 0) (h : -9223372036854775808 ≤ v ∧ v ≤ 9223372036854775807) : zRg kd v := by
  obtain ⟨a, b⟩ := kd
  unfold zRg
  dsimp only at hk ⊢
  split
  · exact absurd rfl hk
  · exact h
  · exact h
  · trivial
theorem zK3 {c k : Nat} (h : zHd c % 8 = 3) : (zKd c k).1 ≠ 0 := by
  unfold zKd
  rw [h]
  show (if k < zLen c then (4, 0) else (7, 0) : Nat × Nat).1 ≠ 0
  split <;> decide
theorem zInv.up {m : zM} (h : zInv m) {r k : Nat} {v : Int} (h1 : ∀ lo hi, zBd r k = some (lo, hi) → lo ≤ v ∧ v ≤ hi) (h4 : zRg (zKd r k) v) (h2 : r ≠ 71) (h3 : r ≠ 72) : zInv (zUp m r k v) := by
  refine ⟨fun r' k' lo hi hb => ?_, fun j hj hm k' lo hi hb => ?_, fun r' k' => ?_⟩
  · by_cases hc : r' = r ∧ k' = k
    · obtain ⟨rfl, rfl⟩ := hc
      rw [zUp_eq]
      exact h1 lo hi hb
    · rw [zUp_ne hc]
      exact h.1 r' k' lo hi hb
  · rw [zUp_ne (fun q => h3 q.1.symm)] at hm
    rw [zUp_ne (fun q => h2 q.1.symm)]
    exact h.2.1 j hj hm k' lo hi hb
  · by_cases hc : r' = r ∧ k' = k
    · obtain ⟨rfl, rfl⟩ := hc
      rw [zUp_eq]
      exact h4
    · rw [zUp_ne hc]
      exact h.2.2 r' k'
/-- a cell of no bounds -/
theorem zInv.any {m : zM} (h : zInv m) {r k : Nat} {v : Int} (hv : -2147483648 ≤ v ∧ v ≤ 2147483647) (h1 : zBd r k = none) (h2 : r ≠ 71) (h3 : r ≠ 72) : zInv (zUp m r k v) := h.up (fun lo hi q => by rw [h1] at q; cases q) (zRg_i hv) h2 h3
theorem zInv.anyl {m : zM} (h : zInv m) {r k : Nat} {v : Int} (hv : -9223372036854775808 ≤ v ∧ v ≤ 9223372036854775807) (hk : (zKd r k).1 ≠ 0) (h1 : zBd r k = none) (h2 : r ≠ 71) (h3 : r ≠ 72) : zInv (zUp m r k v) := h.up (fun lo hi q => by rw [h1] at q; cases q) (zRg_l hk hv) h2 h3
theorem zInv.bd {m : zM} (h : zInv m) {r k : Nat} {v lo hi : Int} (h1 : zBd r k = some (lo, hi)) (hv : lo ≤ v ∧ v ≤ hi) (h4 : -2147483648 ≤ lo ∧ hi ≤ 2147483647) (h2 : r ≠ 71) (h3 : r ≠ 72) : zInv (zUp m r k v) := h.up (fun lo' hi' q => by rw [h1] at q; cases q; exact hv) (zRg_i (by omega)) h2 h3
theorem zInv.bdl {m : zM} (h : zInv m) {r k : Nat} {v lo hi : Int} (h1 : zBd r k = some (lo, hi)) (hv : lo ≤ v ∧ v ≤ hi) (h4 : -9223372036854775808 ≤ lo ∧ hi ≤ 9223372036854775807) (hk : (zKd r k).1 ≠ 0) (h2 : r ≠ 71) (h3 : r ≠ 72) : zInv (zUp m r k v) := h.up (fun lo' hi' q => by rw [h1] at q; cases q; exact hv) (zRg_l hk (by omega)) h2 h3
theorem zInv.ra {m : zM} (h : zInv m) {c len k : Nat} (hh : zHd c = 8 * len + 1) (hk : k < len) : -2147483648 ≤ m c k ∧ m c k ≤ 2147483647 := by
  have := h.2.2 c k
  rw [zKi (by omega) (by unfold zLen; omega)] at this
  exact this
theorem zInv.rl {m : zM} (h : zInv m) {c len k : Nat} (hh : zHd c = 8 * len + 3) (hk : k < len) : -9223372036854775808 ≤ m c k ∧ m c k ≤ 9223372036854775807 := by
  have := h.2.2 c k
  rw [zKl (by omega) (by unfold zLen; omega)] at this
  exact this
theorem zInv.fi {m : zM} (h : zInv m) {c k : Nat} (hk : zKd c k = (0, 0)) : -2147483648 ≤ m c k ∧ m c k ≤ 2147483647 := by
  have := h.2.2 c k
  rw [hk] at this
  exact this
theorem zInv.fl {m : zM} (h : zInv m) {c k : Nat} (hk : zKd c k = (1, 0)) : -9223372036854775808 ≤ m c k ∧ m c k ≤ 9223372036854775807 := by
  have := h.2.2 c k
  rw [hk] at this
  exact this
/-! frames: (c, 1000) the whole cell c, (c, k) its place k -/
def zOut (W : List (Nat × Nat)) (c k : Nat) : Bool := W.all (fun q => !(Nat.beq q.1 c && (Nat.beq q.2 1000 || Nat.beq q.2 k)))
def zFr (W : List (Nat × Nat)) (m m' : zM) : Prop := ∀ c k, zOut W c k = true → m' c k = m c k
def zSub (W V : List (Nat × Nat)) : Bool := W.all (fun q => V.any (fun p => Nat.beq p.1 q.1 && (Nat.beq p.2 1000 || Nat.beq p.2 q.2)))
theorem zFr.rfl {W : List (Nat × Nat)} {m : zM} : zFr W m m := fun _ _ _ => Eq.refl _
theorem zSub_out {W V : List (Nat × Nat)} (h : zSub W V = true) {c k : Nat} (ho : zOut V c k = true) : zOut W c k = true := by
  refine List.all_eq_true.mpr fun q hq => ?_
  obtain ⟨p, hp, hpq⟩ := List.any_eq_true.mp (List.all_eq_true.mp h q hq)
  have h1 := List.all_eq_true.mp ho p hp
  obtain ⟨e1, e2⟩ := xand hpq
  have e1 := xbeq e1
  cases hc : (Nat.beq q.1 c && (Nat.beq q.2 1000 || Nat.beq q.2 k)) with
  | false => rfl
  | true =>
    obtain ⟨f1, f2⟩ := xand hc
    exfalso
    rw [e1, f1] at h1
    have h1' : (!(Nat.beq p.2 1000 || Nat.beq p.2 k)) = true := h1
    cases g1 : Nat.beq p.2 1000 with
    | true => rw [g1] at h1'; cases h1'
    | false =>
      rw [g1] at h1' e2
      have e3 := xbeq (show Nat.beq p.2 q.2 = true from e2)
      rw [e3] at h1' g1
      rw [g1] at f2
      rw [show Nat.beq q.2 k = true from f2] at h1'
      cases h1'
theorem zFr.trans {W V : List (Nat × Nat)} {m m1 m2 : zM} (h1 : zFr V m m1) (h2 : zFr W m1 m2) (h : zSub W V = true) : zFr V m m2 := fun c k ho => (h2 c k (zSub_out h ho)).trans (h1 c k ho)
theorem zFr.up {V : List (Nat × Nat)} {m m1 : zM} (h1 : zFr V m m1) {r k : Nat} {v : Int} (h : zOut V r k = false) : zFr V m (zUp m1 r k v) := by
  intro c j ho
  rw [zUp_ne (fun q => by rw [q.1, q.2, h] at ho; cases ho)]
  exact h1 c j ho
theorem zFr.any {V : List (Nat × Nat)} {m m1 : zM} (h1 : zFr V m m1) {r k : Nat} {v : Int} (h : zSub [(r, 1000)] V = true) : zFr V m (zUp m1 r k v) := by
  refine h1.up ?_
  cases hq : zOut V r k with
  | false => exact Eq.refl _
  | true =>
    have := zSub_out h hq
    simp [zOut] at this
theorem zFr.cp {V : List (Nat × Nat)} {m m1 : zM} (h1 : zFr V m m1) {dst dp src sp n : Nat} (h : zSub [(dst, 1000)] V = true) : zFr V m (zCp m1 dst dp src sp n) := by
  intro c j ho
  have hne : c ≠ dst := by
    intro q
    subst q
    have := zSub_out h ho
    simp [zOut] at this
  show (if c = dst ∧ dp ≤ j ∧ j < dp + n then _ else m1 c j) = _
  rw [if_neg (fun q => hne q.1)]
  exact h1 c j ho
/-! bounds, cell by cell -/
theorem ib_1_0 {m : zM} (h : zInv m) : 0 ≤ m 1 0 ∧ m 1 0 ≤ 10 := h.1 1 0 (0) 10 rfl
theorem ib_1_1 {m : zM} (h : zInv m) : 0 ≤ m 1 1 ∧ m 1 1 ≤ 60 := h.1 1 1 (0) 60 rfl
theorem ib_1_2 {m : zM} (h : zInv m) : 0 ≤ m 1 2 ∧ m 1 2 ≤ 1152921504606846975 := h.1 1 2 (0) 1152921504606846975 rfl
theorem ib_1_3 {m : zM} (h : zInv m) : 0 ≤ m 1 3 ∧ m 1 3 ≤ 1152921504606846975 := h.1 1 3 (0) 1152921504606846975 rfl
theorem ib_1_4 {m : zM} (h : zInv m) : 1 ≤ m 1 4 ∧ m 1 4 ≤ 1000 := h.1 1 4 (1) 1000 rfl
theorem ib_1_5 {m : zM} (h : zInv m) : 0 ≤ m 1 5 ∧ m 1 5 ≤ 500 := h.1 1 5 (0) 500 rfl
theorem ib_2 {m : zM} (h : zInv m) {k : Nat} (hk : k < 10) : -60 ≤ m 2 k ∧ m 2 k ≤ 99 := h.1 2 k (-60) 99 (if_pos hk)
theorem iu_2 {m : zM} (h : zInv m) {k : Nat} {v : Int} (hv : -60 ≤ v ∧ v ≤ 99) : zInv (zUp m 2 k v) := h.up (fun lo hi q => by
  have q : (if k < 10 then some (((-60 : Int)), ((99 : Int))) else none) = some (lo, hi) := q
  split at q
  · cases q; exact hv
  · cases q) (zRg_i (by omega)) (by decide) (by decide)
theorem ib_3 {m : zM} (h : zInv m) {k : Nat} (hk : k < 40) : 0 ≤ m 3 k ∧ m 3 k ≤ 99 := h.1 3 k (0) 99 (if_pos hk)
theorem iu_3 {m : zM} (h : zInv m) {k : Nat} {v : Int} (hv : 0 ≤ v ∧ v ≤ 99) : zInv (zUp m 3 k v) := h.up (fun lo hi q => by
  have q : (if k < 40 then some (((0 : Int)), ((99 : Int))) else none) = some (lo, hi) := q
  split at q
  · cases q; exact hv
  · cases q) (zRg_i (by omega)) (by decide) (by decide)
theorem ib_4 {m : zM} (h : zInv m) {k : Nat} (hk : k < 40) : 0 ≤ m 4 k ∧ m 4 k ≤ 99 := h.1 4 k (0) 99 (if_pos hk)
theorem iu_4 {m : zM} (h : zInv m) {k : Nat} {v : Int} (hv : 0 ≤ v ∧ v ≤ 99) : zInv (zUp m 4 k v) := h.up (fun lo hi q => by
  have q : (if k < 40 then some (((0 : Int)), ((99 : Int))) else none) = some (lo, hi) := q
  split at q
  · cases q; exact hv
  · cases q) (zRg_i (by omega)) (by decide) (by decide)
theorem ib_5 {m : zM} (h : zInv m) {k : Nat} (hk : k < 60) : 0 ≤ m 5 k ∧ m 5 k ≤ 99 := h.1 5 k (0) 99 (if_pos hk)
theorem iu_5 {m : zM} (h : zInv m) {k : Nat} {v : Int} (hv : 0 ≤ v ∧ v ≤ 99) : zInv (zUp m 5 k v) := h.up (fun lo hi q => by
  have q : (if k < 60 then some (((0 : Int)), ((99 : Int))) else none) = some (lo, hi) := q
  split at q
  · cases q; exact hv
  · cases q) (zRg_i (by omega)) (by decide) (by decide)
theorem ib_6 {m : zM} (h : zInv m) {k : Nat} (hk : k < 60) : 0 ≤ m 6 k ∧ m 6 k ≤ 9 := h.1 6 k (0) 9 (if_pos hk)
theorem iu_6 {m : zM} (h : zInv m) {k : Nat} {v : Int} (hv : 0 ≤ v ∧ v ≤ 9) : zInv (zUp m 6 k v) := h.up (fun lo hi q => by
  have q : (if k < 60 then some (((0 : Int)), ((9 : Int))) else none) = some (lo, hi) := q
  split at q
  · cases q; exact hv
  · cases q) (zRg_i (by omega)) (by decide) (by decide)
theorem ib_7 {m : zM} (h : zInv m) {k : Nat} (hk : k < 60) : 0 ≤ m 7 k ∧ m 7 k ≤ 9 := h.1 7 k (0) 9 (if_pos hk)
theorem iu_7 {m : zM} (h : zInv m) {k : Nat} {v : Int} (hv : 0 ≤ v ∧ v ≤ 9) : zInv (zUp m 7 k v) := h.up (fun lo hi q => by
  have q : (if k < 60 then some (((0 : Int)), ((9 : Int))) else none) = some (lo, hi) := q
  split at q
  · cases q; exact hv
  · cases q) (zRg_i (by omega)) (by decide) (by decide)
theorem ib_8 {m : zM} (h : zInv m) {k : Nat} (hk : k < 60) : 0 ≤ m 8 k ∧ m 8 k ≤ 2 := h.1 8 k (0) 2 (if_pos hk)
theorem iu_8 {m : zM} (h : zInv m) {k : Nat} {v : Int} (hv : 0 ≤ v ∧ v ≤ 2) : zInv (zUp m 8 k v) := h.up (fun lo hi q => by
  have q : (if k < 60 then some (((0 : Int)), ((2 : Int))) else none) = some (lo, hi) := q
  split at q
  · cases q; exact hv
  · cases q) (zRg_i (by omega)) (by decide) (by decide)
theorem ib_9 {m : zM} (h : zInv m) {k : Nat} (hk : k < 4) : 0 ≤ m 9 k ∧ m 9 k ≤ 9999 := h.1 9 k (0) 9999 (if_pos hk)
theorem iu_9 {m : zM} (h : zInv m) {k : Nat} {v : Int} (hv : 0 ≤ v ∧ v ≤ 9999) : zInv (zUp m 9 k v) := h.up (fun lo hi q => by
  have q : (if k < 4 then some (((0 : Int)), ((9999 : Int))) else none) = some (lo, hi) := q
  split at q
  · cases q; exact hv
  · cases q) (zRg_i (by omega)) (by decide) (by decide)
theorem ib_10 {m : zM} (h : zInv m) {k : Nat} (hk : k < 4) : 0 ≤ m 10 k ∧ m 10 k ≤ 50 := h.1 10 k (0) 50 (if_pos hk)
theorem iu_10 {m : zM} (h : zInv m) {k : Nat} {v : Int} (hv : 0 ≤ v ∧ v ≤ 50) : zInv (zUp m 10 k v) := h.up (fun lo hi q => by
  have q : (if k < 4 then some (((0 : Int)), ((50 : Int))) else none) = some (lo, hi) := q
  split at q
  · cases q; exact hv
  · cases q) (zRg_i (by omega)) (by decide) (by decide)
theorem ib_11 {m : zM} (h : zInv m) {k : Nat} (hk : k < 200) : 0 ≤ m 11 k ∧ m 11 k ≤ 127 := h.1 11 k (0) 127 (if_pos hk)
theorem iu_11 {m : zM} (h : zInv m) {k : Nat} {v : Int} (hv : 0 ≤ v ∧ v ≤ 127) : zInv (zUp m 11 k v) := h.up (fun lo hi q => by
  have q : (if k < 200 then some (((0 : Int)), ((127 : Int))) else none) = some (lo, hi) := q
  split at q
  · cases q; exact hv
  · cases q) (zRg_i (by omega)) (by decide) (by decide)
theorem ib_12 {m : zM} (h : zInv m) {k : Nat} (hk : k < 160) : -500 ≤ m 12 k ∧ m 12 k ≤ 500 := h.1 12 k (-500) 500 (if_pos hk)
theorem iu_12 {m : zM} (h : zInv m) {k : Nat} {v : Int} (hv : -500 ≤ v ∧ v ≤ 500) : zInv (zUp m 12 k v) := h.up (fun lo hi q => by
  have q : (if k < 160 then some (((-500 : Int)), ((500 : Int))) else none) = some (lo, hi) := q
  split at q
  · cases q; exact hv
  · cases q) (zRg_i (by omega)) (by decide) (by decide)
theorem ib_13 {m : zM} (h : zInv m) {k : Nat} (hk : k < 4) : 1 ≤ m 13 k ∧ m 13 k ≤ 9 := h.1 13 k (1) 9 (if_pos hk)
theorem iu_13 {m : zM} (h : zInv m) {k : Nat} {v : Int} (hv : 1 ≤ v ∧ v ≤ 9) : zInv (zUp m 13 k v) := h.up (fun lo hi q => by
  have q : (if k < 4 then some (((1 : Int)), ((9 : Int))) else none) = some (lo, hi) := q
  split at q
  · cases q; exact hv
  · cases q) (zRg_i (by omega)) (by decide) (by decide)
theorem ib_15_0 {m : zM} (h : zInv m) : 0 ≤ m 15 0 ∧ m 15 0 ≤ 10 := h.1 15 0 (0) 10 rfl
theorem ib_15_1 {m : zM} (h : zInv m) : 0 ≤ m 15 1 ∧ m 15 1 ≤ 60 := h.1 15 1 (0) 60 rfl
theorem ib_15_2 {m : zM} (h : zInv m) : 0 ≤ m 15 2 ∧ m 15 2 ≤ 1152921504606846975 := h.1 15 2 (0) 1152921504606846975 rfl
theorem ib_15_3 {m : zM} (h : zInv m) : 0 ≤ m 15 3 ∧ m 15 3 ≤ 1152921504606846975 := h.1 15 3 (0) 1152921504606846975 rfl
theorem ib_15_4 {m : zM} (h : zInv m) : 1 ≤ m 15 4 ∧ m 15 4 ≤ 1000 := h.1 15 4 (1) 1000 rfl
theorem ib_15_5 {m : zM} (h : zInv m) : 0 ≤ m 15 5 ∧ m 15 5 ≤ 500 := h.1 15 5 (0) 500 rfl
theorem ib_16 {m : zM} (h : zInv m) {k : Nat} (hk : k < 10) : -60 ≤ m 16 k ∧ m 16 k ≤ 99 := h.1 16 k (-60) 99 (if_pos hk)
theorem iu_16 {m : zM} (h : zInv m) {k : Nat} {v : Int} (hv : -60 ≤ v ∧ v ≤ 99) : zInv (zUp m 16 k v) := h.up (fun lo hi q => by
  have q : (if k < 10 then some (((-60 : Int)), ((99 : Int))) else none) = some (lo, hi) := q
  split at q
  · cases q; exact hv
  · cases q) (zRg_i (by omega)) (by decide) (by decide)
theorem ib_17 {m : zM} (h : zInv m) {k : Nat} (hk : k < 40) : 0 ≤ m 17 k ∧ m 17 k ≤ 99 := h.1 17 k (0) 99 (if_pos hk)
theorem iu_17 {m : zM} (h : zInv m) {k : Nat} {v : Int} (hv : 0 ≤ v ∧ v ≤ 99) : zInv (zUp m 17 k v) := h.up (fun lo hi q => by
  have q : (if k < 40 then some (((0 : Int)), ((99 : Int))) else none) = some (lo, hi) := q
  split at q
  · cases q; exact hv
  · cases q) (zRg_i (by omega)) (by decide) (by decide)
theorem ib_18 {m : zM} (h : zInv m) {k : Nat} (hk : k < 40) : 0 ≤ m 18 k ∧ m 18 k ≤ 99 := h.1 18 k (0) 99 (if_pos hk)
theorem iu_18 {m : zM} (h : zInv m) {k : Nat} {v : Int} (hv : 0 ≤ v ∧ v ≤ 99) : zInv (zUp m 18 k v) := h.up (fun lo hi q => by
  have q : (if k < 40 then some (((0 : Int)), ((99 : Int))) else none) = some (lo, hi) := q
  split at q
  · cases q; exact hv
  · cases q) (zRg_i (by omega)) (by decide) (by decide)
theorem ib_19 {m : zM} (h : zInv m) {k : Nat} (hk : k < 60) : 0 ≤ m 19 k ∧ m 19 k ≤ 99 := h.1 19 k (0) 99 (if_pos hk)
theorem iu_19 {m : zM} (h : zInv m) {k : Nat} {v : Int} (hv : 0 ≤ v ∧ v ≤ 99) : zInv (zUp m 19 k v) := h.up (fun lo hi q => by
  have q : (if k < 60 then some (((0 : Int)), ((99 : Int))) else none) = some (lo, hi) := q
  split at q
  · cases q; exact hv
  · cases q) (zRg_i (by omega)) (by decide) (by decide)
theorem ib_20 {m : zM} (h : zInv m) {k : Nat} (hk : k < 60) : 0 ≤ m 20 k ∧ m 20 k ≤ 9 := h.1 20 k (0) 9 (if_pos hk)
theorem iu_20 {m : zM} (h : zInv m) {k : Nat} {v : Int} (hv : 0 ≤ v ∧ v ≤ 9) : zInv (zUp m 20 k v) := h.up (fun lo hi q => by
  have q : (if k < 60 then some (((0 : Int)), ((9 : Int))) else none) = some (lo, hi) := q
  split at q
  · cases q; exact hv
  · cases q) (zRg_i (by omega)) (by decide) (by decide)
theorem ib_21 {m : zM} (h : zInv m) {k : Nat} (hk : k < 60) : 0 ≤ m 21 k ∧ m 21 k ≤ 9 := h.1 21 k (0) 9 (if_pos hk)
theorem iu_21 {m : zM} (h : zInv m) {k : Nat} {v : Int} (hv : 0 ≤ v ∧ v ≤ 9) : zInv (zUp m 21 k v) := h.up (fun lo hi q => by
  have q : (if k < 60 then some (((0 : Int)), ((9 : Int))) else none) = some (lo, hi) := q
  split at q
  · cases q; exact hv
  · cases q) (zRg_i (by omega)) (by decide) (by decide)
theorem ib_22 {m : zM} (h : zInv m) {k : Nat} (hk : k < 60) : 0 ≤ m 22 k ∧ m 22 k ≤ 2 := h.1 22 k (0) 2 (if_pos hk)
theorem iu_22 {m : zM} (h : zInv m) {k : Nat} {v : Int} (hv : 0 ≤ v ∧ v ≤ 2) : zInv (zUp m 22 k v) := h.up (fun lo hi q => by
  have q : (if k < 60 then some (((0 : Int)), ((2 : Int))) else none) = some (lo, hi) := q
  split at q
  · cases q; exact hv
  · cases q) (zRg_i (by omega)) (by decide) (by decide)
theorem ib_23 {m : zM} (h : zInv m) {k : Nat} (hk : k < 4) : 0 ≤ m 23 k ∧ m 23 k ≤ 9999 := h.1 23 k (0) 9999 (if_pos hk)
theorem iu_23 {m : zM} (h : zInv m) {k : Nat} {v : Int} (hv : 0 ≤ v ∧ v ≤ 9999) : zInv (zUp m 23 k v) := h.up (fun lo hi q => by
  have q : (if k < 4 then some (((0 : Int)), ((9999 : Int))) else none) = some (lo, hi) := q
  split at q
  · cases q; exact hv
  · cases q) (zRg_i (by omega)) (by decide) (by decide)
theorem ib_24 {m : zM} (h : zInv m) {k : Nat} (hk : k < 4) : 0 ≤ m 24 k ∧ m 24 k ≤ 50 := h.1 24 k (0) 50 (if_pos hk)
theorem iu_24 {m : zM} (h : zInv m) {k : Nat} {v : Int} (hv : 0 ≤ v ∧ v ≤ 50) : zInv (zUp m 24 k v) := h.up (fun lo hi q => by
  have q : (if k < 4 then some (((0 : Int)), ((50 : Int))) else none) = some (lo, hi) := q
  split at q
  · cases q; exact hv
  · cases q) (zRg_i (by omega)) (by decide) (by decide)
theorem ib_25 {m : zM} (h : zInv m) {k : Nat} (hk : k < 200) : 0 ≤ m 25 k ∧ m 25 k ≤ 127 := h.1 25 k (0) 127 (if_pos hk)
theorem iu_25 {m : zM} (h : zInv m) {k : Nat} {v : Int} (hv : 0 ≤ v ∧ v ≤ 127) : zInv (zUp m 25 k v) := h.up (fun lo hi q => by
  have q : (if k < 200 then some (((0 : Int)), ((127 : Int))) else none) = some (lo, hi) := q
  split at q
  · cases q; exact hv
  · cases q) (zRg_i (by omega)) (by decide) (by decide)
theorem ib_26 {m : zM} (h : zInv m) {k : Nat} (hk : k < 160) : -500 ≤ m 26 k ∧ m 26 k ≤ 500 := h.1 26 k (-500) 500 (if_pos hk)
theorem iu_26 {m : zM} (h : zInv m) {k : Nat} {v : Int} (hv : -500 ≤ v ∧ v ≤ 500) : zInv (zUp m 26 k v) := h.up (fun lo hi q => by
  have q : (if k < 160 then some (((-500 : Int)), ((500 : Int))) else none) = some (lo, hi) := q
  split at q
  · cases q; exact hv
  · cases q) (zRg_i (by omega)) (by decide) (by decide)
theorem ib_27 {m : zM} (h : zInv m) {k : Nat} (hk : k < 4) : 1 ≤ m 27 k ∧ m 27 k ≤ 9 := h.1 27 k (1) 9 (if_pos hk)
theorem iu_27 {m : zM} (h : zInv m) {k : Nat} {v : Int} (hv : 1 ≤ v ∧ v ≤ 9) : zInv (zUp m 27 k v) := h.up (fun lo hi q => by
  have q : (if k < 4 then some (((1 : Int)), ((9 : Int))) else none) = some (lo, hi) := q
  split at q
  · cases q; exact hv
  · cases q) (zRg_i (by omega)) (by decide) (by decide)
theorem ib_28_0 {m : zM} (h : zInv m) : 0 ≤ m 28 0 ∧ m 28 0 ≤ 10 := h.1 28 0 (0) 10 rfl
theorem ib_28_1 {m : zM} (h : zInv m) : 0 ≤ m 28 1 ∧ m 28 1 ≤ 60 := h.1 28 1 (0) 60 rfl
theorem ib_28_2 {m : zM} (h : zInv m) : 0 ≤ m 28 2 ∧ m 28 2 ≤ 1152921504606846975 := h.1 28 2 (0) 1152921504606846975 rfl
theorem ib_28_3 {m : zM} (h : zInv m) : 0 ≤ m 28 3 ∧ m 28 3 ≤ 1152921504606846975 := h.1 28 3 (0) 1152921504606846975 rfl
theorem ib_28_4 {m : zM} (h : zInv m) : 1 ≤ m 28 4 ∧ m 28 4 ≤ 1000 := h.1 28 4 (1) 1000 rfl
theorem ib_28_5 {m : zM} (h : zInv m) : 0 ≤ m 28 5 ∧ m 28 5 ≤ 500 := h.1 28 5 (0) 500 rfl
theorem ib_29 {m : zM} (h : zInv m) {k : Nat} (hk : k < 10) : -60 ≤ m 29 k ∧ m 29 k ≤ 99 := h.1 29 k (-60) 99 (if_pos hk)
theorem iu_29 {m : zM} (h : zInv m) {k : Nat} {v : Int} (hv : -60 ≤ v ∧ v ≤ 99) : zInv (zUp m 29 k v) := h.up (fun lo hi q => by
  have q : (if k < 10 then some (((-60 : Int)), ((99 : Int))) else none) = some (lo, hi) := q
  split at q
  · cases q; exact hv
  · cases q) (zRg_i (by omega)) (by decide) (by decide)
theorem ib_30 {m : zM} (h : zInv m) {k : Nat} (hk : k < 40) : 0 ≤ m 30 k ∧ m 30 k ≤ 99 := h.1 30 k (0) 99 (if_pos hk)
theorem iu_30 {m : zM} (h : zInv m) {k : Nat} {v : Int} (hv : 0 ≤ v ∧ v ≤ 99) : zInv (zUp m 30 k v) := h.up (fun lo hi q => by
  have q : (if k < 40 then some (((0 : Int)), ((99 : Int))) else none) = some (lo, hi) := q
  split at q
  · cases q; exact hv
  · cases q) (zRg_i (by omega)) (by decide) (by decide)
theorem ib_31 {m : zM} (h : zInv m) {k : Nat} (hk : k < 40) : 0 ≤ m 31 k ∧ m 31 k ≤ 99 := h.1 31 k (0) 99 (if_pos hk)
theorem iu_31 {m : zM} (h : zInv m) {k : Nat} {v : Int} (hv : 0 ≤ v ∧ v ≤ 99) : zInv (zUp m 31 k v) := h.up (fun lo hi q => by
  have q : (if k < 40 then some (((0 : Int)), ((99 : Int))) else none) = some (lo, hi) := q
  split at q
  · cases q; exact hv
  · cases q) (zRg_i (by omega)) (by decide) (by decide)
theorem ib_32 {m : zM} (h : zInv m) {k : Nat} (hk : k < 60) : 0 ≤ m 32 k ∧ m 32 k ≤ 99 := h.1 32 k (0) 99 (if_pos hk)
theorem iu_32 {m : zM} (h : zInv m) {k : Nat} {v : Int} (hv : 0 ≤ v ∧ v ≤ 99) : zInv (zUp m 32 k v) := h.up (fun lo hi q => by
  have q : (if k < 60 then some (((0 : Int)), ((99 : Int))) else none) = some (lo, hi) := q
  split at q
  · cases q; exact hv
  · cases q) (zRg_i (by omega)) (by decide) (by decide)
theorem ib_33 {m : zM} (h : zInv m) {k : Nat} (hk : k < 60) : 0 ≤ m 33 k ∧ m 33 k ≤ 9 := h.1 33 k (0) 9 (if_pos hk)
theorem iu_33 {m : zM} (h : zInv m) {k : Nat} {v : Int} (hv : 0 ≤ v ∧ v ≤ 9) : zInv (zUp m 33 k v) := h.up (fun lo hi q => by
  have q : (if k < 60 then some (((0 : Int)), ((9 : Int))) else none) = some (lo, hi) := q
  split at q
  · cases q; exact hv
  · cases q) (zRg_i (by omega)) (by decide) (by decide)
theorem ib_34 {m : zM} (h : zInv m) {k : Nat} (hk : k < 60) : 0 ≤ m 34 k ∧ m 34 k ≤ 9 := h.1 34 k (0) 9 (if_pos hk)
theorem iu_34 {m : zM} (h : zInv m) {k : Nat} {v : Int} (hv : 0 ≤ v ∧ v ≤ 9) : zInv (zUp m 34 k v) := h.up (fun lo hi q => by
  have q : (if k < 60 then some (((0 : Int)), ((9 : Int))) else none) = some (lo, hi) := q
  split at q
  · cases q; exact hv
  · cases q) (zRg_i (by omega)) (by decide) (by decide)
theorem ib_35 {m : zM} (h : zInv m) {k : Nat} (hk : k < 60) : 0 ≤ m 35 k ∧ m 35 k ≤ 2 := h.1 35 k (0) 2 (if_pos hk)
theorem iu_35 {m : zM} (h : zInv m) {k : Nat} {v : Int} (hv : 0 ≤ v ∧ v ≤ 2) : zInv (zUp m 35 k v) := h.up (fun lo hi q => by
  have q : (if k < 60 then some (((0 : Int)), ((2 : Int))) else none) = some (lo, hi) := q
  split at q
  · cases q; exact hv
  · cases q) (zRg_i (by omega)) (by decide) (by decide)
theorem ib_36 {m : zM} (h : zInv m) {k : Nat} (hk : k < 4) : 0 ≤ m 36 k ∧ m 36 k ≤ 9999 := h.1 36 k (0) 9999 (if_pos hk)
theorem iu_36 {m : zM} (h : zInv m) {k : Nat} {v : Int} (hv : 0 ≤ v ∧ v ≤ 9999) : zInv (zUp m 36 k v) := h.up (fun lo hi q => by
  have q : (if k < 4 then some (((0 : Int)), ((9999 : Int))) else none) = some (lo, hi) := q
  split at q
  · cases q; exact hv
  · cases q) (zRg_i (by omega)) (by decide) (by decide)
theorem ib_37 {m : zM} (h : zInv m) {k : Nat} (hk : k < 4) : 0 ≤ m 37 k ∧ m 37 k ≤ 50 := h.1 37 k (0) 50 (if_pos hk)
theorem iu_37 {m : zM} (h : zInv m) {k : Nat} {v : Int} (hv : 0 ≤ v ∧ v ≤ 50) : zInv (zUp m 37 k v) := h.up (fun lo hi q => by
  have q : (if k < 4 then some (((0 : Int)), ((50 : Int))) else none) = some (lo, hi) := q
  split at q
  · cases q; exact hv
  · cases q) (zRg_i (by omega)) (by decide) (by decide)
theorem ib_38 {m : zM} (h : zInv m) {k : Nat} (hk : k < 200) : 0 ≤ m 38 k ∧ m 38 k ≤ 127 := h.1 38 k (0) 127 (if_pos hk)
theorem iu_38 {m : zM} (h : zInv m) {k : Nat} {v : Int} (hv : 0 ≤ v ∧ v ≤ 127) : zInv (zUp m 38 k v) := h.up (fun lo hi q => by
  have q : (if k < 200 then some (((0 : Int)), ((127 : Int))) else none) = some (lo, hi) := q
  split at q
  · cases q; exact hv
  · cases q) (zRg_i (by omega)) (by decide) (by decide)
theorem ib_39 {m : zM} (h : zInv m) {k : Nat} (hk : k < 160) : -500 ≤ m 39 k ∧ m 39 k ≤ 500 := h.1 39 k (-500) 500 (if_pos hk)
theorem iu_39 {m : zM} (h : zInv m) {k : Nat} {v : Int} (hv : -500 ≤ v ∧ v ≤ 500) : zInv (zUp m 39 k v) := h.up (fun lo hi q => by
  have q : (if k < 160 then some (((-500 : Int)), ((500 : Int))) else none) = some (lo, hi) := q
  split at q
  · cases q; exact hv
  · cases q) (zRg_i (by omega)) (by decide) (by decide)
theorem ib_40 {m : zM} (h : zInv m) {k : Nat} (hk : k < 4) : 1 ≤ m 40 k ∧ m 40 k ≤ 9 := h.1 40 k (1) 9 (if_pos hk)
theorem iu_40 {m : zM} (h : zInv m) {k : Nat} {v : Int} (hv : 1 ≤ v ∧ v ≤ 9) : zInv (zUp m 40 k v) := h.up (fun lo hi q => by
  have q : (if k < 4 then some (((1 : Int)), ((9 : Int))) else none) = some (lo, hi) := q
  split at q
  · cases q; exact hv
  · cases q) (zRg_i (by omega)) (by decide) (by decide)
theorem ib_41 {m : zM} (h : zInv m) {k : Nat} (hk : k < 2) : 0 ≤ m 41 k ∧ m 41 k ≤ 1 := h.1 41 k (0) 1 (if_pos hk)
theorem iu_41 {m : zM} (h : zInv m) {k : Nat} {v : Int} (hv : 0 ≤ v ∧ v ≤ 1) : zInv (zUp m 41 k v) := h.up (fun lo hi q => by
  have q : (if k < 2 then some (((0 : Int)), ((1 : Int))) else none) = some (lo, hi) := q
  split at q
  · cases q; exact hv
  · cases q) (zRg_i (by omega)) (by decide) (by decide)
theorem ib_45_5 {m : zM} (h : zInv m) : 0 ≤ m 45 5 ∧ m 45 5 ≤ 50 := h.1 45 5 (0) 50 rfl
theorem ib_45_6 {m : zM} (h : zInv m) : 0 ≤ m 45 6 ∧ m 45 6 ≤ 50 := h.1 45 6 (0) 50 rfl
theorem ib_45_7 {m : zM} (h : zInv m) : 0 ≤ m 45 7 ∧ m 45 7 ≤ 8 := h.1 45 7 (0) 8 rfl
theorem ib_45_8 {m : zM} (h : zInv m) : 0 ≤ m 45 8 ∧ m 45 8 ≤ 50 := h.1 45 8 (0) 50 rfl
theorem ib_45_9 {m : zM} (h : zInv m) : 0 ≤ m 45 9 ∧ m 45 9 ≤ 50 := h.1 45 9 (0) 50 rfl
theorem ib_47 {m : zM} (h : zInv m) {k : Nat} (hk : k < 50) : 0 ≤ m 47 k ∧ m 47 k ≤ 127 := h.1 47 k (0) 127 (if_pos hk)
theorem iu_47 {m : zM} (h : zInv m) {k : Nat} {v : Int} (hv : 0 ≤ v ∧ v ≤ 127) : zInv (zUp m 47 k v) := h.up (fun lo hi q => by
  have q : (if k < 50 then some (((0 : Int)), ((127 : Int))) else none) = some (lo, hi) := q
  split at q
  · cases q; exact hv
  · cases q) (zRg_i (by omega)) (by decide) (by decide)
theorem ib_48 {m : zM} (h : zInv m) {k : Nat} (hk : k < 50) : -127 ≤ m 48 k ∧ m 48 k ≤ 999999 := h.1 48 k (-127) 999999 (if_pos hk)
theorem iu_48 {m : zM} (h : zInv m) {k : Nat} {v : Int} (hv : -127 ≤ v ∧ v ≤ 999999) : zInv (zUp m 48 k v) := h.up (fun lo hi q => by
  have q : (if k < 50 then some (((-127 : Int)), ((999999 : Int))) else none) = some (lo, hi) := q
  split at q
  · cases q; exact hv
  · cases q) (zRg_i (by omega)) (by decide) (by decide)
theorem ib_51 {m : zM} (h : zInv m) {k : Nat} (hk : k < 10) : 0 ≤ m 51 k ∧ m 51 k ≤ 99 := h.1 51 k (0) 99 (if_pos hk)
theorem iu_51 {m : zM} (h : zInv m) {k : Nat} {v : Int} (hv : 0 ≤ v ∧ v ≤ 99) : zInv (zUp m 51 k v) := h.up (fun lo hi q => by
  have q : (if k < 10 then some (((0 : Int)), ((99 : Int))) else none) = some (lo, hi) := q
  split at q
  · cases q; exact hv
  · cases q) (zRg_i (by omega)) (by decide) (by decide)
theorem ib_52_0 {m : zM} (h : zInv m) : -1 ≤ m 52 0 ∧ m 52 0 ≤ 9 := h.1 52 0 (-1) 9 rfl
theorem ib_54 {m : zM} (h : zInv m) {k : Nat} (hk : k < 10) : 0 ≤ m 54 k ∧ m 54 k ≤ 60 := h.1 54 k (0) 60 (if_pos hk)
theorem iu_54 {m : zM} (h : zInv m) {k : Nat} {v : Int} (hv : 0 ≤ v ∧ v ≤ 60) : zInv (zUp m 54 k v) := h.up (fun lo hi q => by
  have q : (if k < 10 then some (((0 : Int)), ((60 : Int))) else none) = some (lo, hi) := q
  split at q
  · cases q; exact hv
  · cases q) (zRg_i (by omega)) (by decide) (by decide)
theorem ib_59 {m : zM} (h : zInv m) {k : Nat} (hk : k < 10) : -1 ≤ m 59 k ∧ m 59 k ≤ 59 := h.1 59 k (-1) 59 (if_pos hk)
theorem iu_59 {m : zM} (h : zInv m) {k : Nat} {v : Int} (hv : -1 ≤ v ∧ v ≤ 59) : zInv (zUp m 59 k v) := h.up (fun lo hi q => by
  have q : (if k < 10 then some (((-1 : Int)), ((59 : Int))) else none) = some (lo, hi) := q
  split at q
  · cases q; exact hv
  · cases q) (zRg_i (by omega)) (by decide) (by decide)
theorem ib_66 {m : zM} (h : zInv m) {k : Nat} (hk : k < 10) : 0 ≤ m 66 k ∧ m 66 k ≤ 2 := h.1 66 k (0) 2 (if_pos hk)
theorem iu_66 {m : zM} (h : zInv m) {k : Nat} {v : Int} (hv : 0 ≤ v ∧ v ≤ 2) : zInv (zUp m 66 k v) := h.up (fun lo hi q => by
  have q : (if k < 10 then some (((0 : Int)), ((2 : Int))) else none) = some (lo, hi) := q
  split at q
  · cases q; exact hv
  · cases q) (zRg_i (by omega)) (by decide) (by decide)
theorem ib_69_5 {m : zM} (h : zInv m) : 0 ≤ m 69 5 ∧ m 69 5 ≤ 3 := h.1 69 5 (0) 3 rfl
theorem ib_69_6 {m : zM} (h : zInv m) : 0 ≤ m 69 6 ∧ m 69 6 ≤ 50 := h.1 69 6 (0) 50 rfl
theorem ib_69_9 {m : zM} (h : zInv m) : 0 ≤ m 69 9 ∧ m 69 9 ≤ 64 := h.1 69 9 (0) 64 rfl
theorem ib_69_11 {m : zM} (h : zInv m) : 0 ≤ m 69 11 ∧ m 69 11 ≤ 128 := h.1 69 11 (0) 128 rfl
theorem ib_69_23 {m : zM} (h : zInv m) : 0 ≤ m 69 23 ∧ m 69 23 ≤ 100 := h.1 69 23 (0) 100 rfl
theorem ib_72 {m : zM} (h : zInv m) {k : Nat} (hk : k < 2) : 0 ≤ m 72 k ∧ m 72 k ≤ 1 := h.1 72 k (0) 1 (if_pos hk)
theorem ib_74 {m : zM} (h : zInv m) {k : Nat} (hk : k < 128) : 0 ≤ m 74 k ∧ m 74 k ≤ 1002 := h.1 74 k (0) 1002 (if_pos hk)
theorem iu_74 {m : zM} (h : zInv m) {k : Nat} {v : Int} (hv : 0 ≤ v ∧ v ≤ 1002) : zInv (zUp m 74 k v) := h.up (fun lo hi q => by
  have q : (if k < 128 then some (((0 : Int)), ((1002 : Int))) else none) = some (lo, hi) := q
  split at q
  · cases q; exact hv
  · cases q) (zRg_i (by omega)) (by decide) (by decide)
theorem ib_78 {m : zM} (h : zInv m) {k : Nat} (hk : k < 10) : -1 ≤ m 78 k ∧ m 78 k ≤ 99 := h.1 78 k (-1) 99 (if_pos hk)
theorem iu_78 {m : zM} (h : zInv m) {k : Nat} {v : Int} (hv : -1 ≤ v ∧ v ≤ 99) : zInv (zUp m 78 k v) := h.up (fun lo hi q => by
  have q : (if k < 10 then some (((-1 : Int)), ((99 : Int))) else none) = some (lo, hi) := q
  split at q
  · cases q; exact hv
  · cases q) (zRg_i (by omega)) (by decide) (by decide)
theorem ib_81 {m : zM} (h : zInv m) {k : Nat} (hk : k < 10) : 0 ≤ m 81 k ∧ m 81 k ≤ 100000000 := h.1 81 k (0) 100000000 (if_pos hk)
theorem iu_81 {m : zM} (h : zInv m) {k : Nat} {v : Int} (hv : 0 ≤ v ∧ v ≤ 100000000) : zInv (zUp m 81 k v) := h.up (fun lo hi q => by
  have q : (if k < 10 then some (((0 : Int)), ((100000000 : Int))) else none) = some (lo, hi) := q
  split at q
  · cases q; exact hv
  · cases q) (zRg_i (by omega)) (by decide) (by decide)
theorem zn_born {k : Nat} (h : k < 10) : zbN k = some (-60, 99) := by
  unfold zbN
  repeat (first | rw [if_pos (by omega)] | rw [if_neg (by omega)])
theorem ib_70_born {m : zM} (h : zInv m) {k : Nat} (hk : k < 10) : -60 ≤ m 70 k ∧ m 70 k ≤ 99 := h.1 70 k (-60) 99 (zn_born hk)
theorem iu_70_born {m : zM} (h : zInv m) {k : Nat} (hk : k < 10) {v : Int} (hv : -60 ≤ v ∧ v ≤ 99) : zInv (zUp m 70 k v) := h.bd (zn_born hk) hv (by decide) (by decide) (by decide)
theorem zn_moves {k : Nat} (h : 10 ≤ k ∧ k < 90) : zbN k = some (0, 99) := by
  unfold zbN
  repeat (first | rw [if_pos (by omega)] | rw [if_neg (by omega)])
theorem ib_70_moves {m : zM} (h : zInv m) {k : Nat} (hk : 10 ≤ k ∧ k < 90) : 0 ≤ m 70 k ∧ m 70 k ≤ 99 := h.1 70 k (0) 99 (zn_moves hk)
theorem iu_70_moves {m : zM} (h : zInv m) {k : Nat} (hk : 10 ≤ k ∧ k < 90) {v : Int} (hv : 0 ≤ v ∧ v ≤ 99) : zInv (zUp m 70 k v) := h.bd (zn_moves hk) hv (by decide) (by decide) (by decide)
theorem zn_m0 {k : Nat} (h : 90 ≤ k ∧ k < 450 ∧ (k - 90) % 6 = 0) : zbN k = some (0, 99) := by
  unfold zbN
  repeat (first | rw [if_pos (by omega)] | rw [if_neg (by omega)])
theorem ib_70_m0 {m : zM} (h : zInv m) {k : Nat} (hk : 90 ≤ k ∧ k < 450 ∧ (k - 90) % 6 = 0) : 0 ≤ m 70 k ∧ m 70 k ≤ 99 := h.1 70 k (0) 99 (zn_m0 hk)
theorem iu_70_m0 {m : zM} (h : zInv m) {k : Nat} (hk : 90 ≤ k ∧ k < 450 ∧ (k - 90) % 6 = 0) {v : Int} (hv : 0 ≤ v ∧ v ≤ 99) : zInv (zUp m 70 k v) := h.bd (zn_m0 hk) hv (by decide) (by decide) (by decide)
theorem zn_m1 {k : Nat} (h : 90 ≤ k ∧ k < 450 ∧ (k - 90) % 6 = 1) : zbN k = some (0, 9) := by
  unfold zbN
  repeat (first | rw [if_pos (by omega)] | rw [if_neg (by omega)])
theorem ib_70_m1 {m : zM} (h : zInv m) {k : Nat} (hk : 90 ≤ k ∧ k < 450 ∧ (k - 90) % 6 = 1) : 0 ≤ m 70 k ∧ m 70 k ≤ 9 := h.1 70 k (0) 9 (zn_m1 hk)
theorem iu_70_m1 {m : zM} (h : zInv m) {k : Nat} (hk : 90 ≤ k ∧ k < 450 ∧ (k - 90) % 6 = 1) {v : Int} (hv : 0 ≤ v ∧ v ≤ 9) : zInv (zUp m 70 k v) := h.bd (zn_m1 hk) hv (by decide) (by decide) (by decide)
theorem zn_m2 {k : Nat} (h : 90 ≤ k ∧ k < 450 ∧ (k - 90) % 6 = 2) : zbN k = some (0, 9) := by
  unfold zbN
  repeat (first | rw [if_pos (by omega)] | rw [if_neg (by omega)])
theorem ib_70_m2 {m : zM} (h : zInv m) {k : Nat} (hk : 90 ≤ k ∧ k < 450 ∧ (k - 90) % 6 = 2) : 0 ≤ m 70 k ∧ m 70 k ≤ 9 := h.1 70 k (0) 9 (zn_m2 hk)
theorem iu_70_m2 {m : zM} (h : zInv m) {k : Nat} (hk : 90 ≤ k ∧ k < 450 ∧ (k - 90) % 6 = 2) {v : Int} (hv : 0 ≤ v ∧ v ≤ 9) : zInv (zUp m 70 k v) := h.bd (zn_m2 hk) hv (by decide) (by decide) (by decide)
theorem zn_m3 {k : Nat} (h : 90 ≤ k ∧ k < 450 ∧ (k - 90) % 6 = 3) : zbN k = some (0, 2) := by
  unfold zbN
  repeat (first | rw [if_pos (by omega)] | rw [if_neg (by omega)])
theorem ib_70_m3 {m : zM} (h : zInv m) {k : Nat} (hk : 90 ≤ k ∧ k < 450 ∧ (k - 90) % 6 = 3) : 0 ≤ m 70 k ∧ m 70 k ≤ 2 := h.1 70 k (0) 2 (zn_m3 hk)
theorem iu_70_m3 {m : zM} (h : zInv m) {k : Nat} (hk : 90 ≤ k ∧ k < 450 ∧ (k - 90) % 6 = 3) {v : Int} (hv : 0 ≤ v ∧ v ≤ 2) : zInv (zUp m 70 k v) := h.bd (zn_m3 hk) hv (by decide) (by decide) (by decide)
theorem zn_m4 {k : Nat} (h : 90 ≤ k ∧ k < 450 ∧ (k - 90) % 6 = 4) : zbN k = some (0, 1) := by
  unfold zbN
  repeat (first | rw [if_pos (by omega)] | rw [if_neg (by omega)])
theorem ib_70_m4 {m : zM} (h : zInv m) {k : Nat} (hk : 90 ≤ k ∧ k < 450 ∧ (k - 90) % 6 = 4) : 0 ≤ m 70 k ∧ m 70 k ≤ 1 := h.1 70 k (0) 1 (zn_m4 hk)
theorem iu_70_m4 {m : zM} (h : zInv m) {k : Nat} (hk : 90 ≤ k ∧ k < 450 ∧ (k - 90) % 6 = 4) {v : Int} (hv : 0 ≤ v ∧ v ≤ 1) : zInv (zUp m 70 k v) := h.bd (zn_m4 hk) hv (by decide) (by decide) (by decide)
theorem zn_m5 {k : Nat} (h : 90 ≤ k ∧ k < 450 ∧ (k - 90) % 6 = 5) : zbN k = some (0, 1) := by
  unfold zbN
  repeat (first | rw [if_pos (by omega)] | rw [if_neg (by omega)])
theorem ib_70_m5 {m : zM} (h : zInv m) {k : Nat} (hk : 90 ≤ k ∧ k < 450 ∧ (k - 90) % 6 = 5) : 0 ≤ m 70 k ∧ m 70 k ≤ 1 := h.1 70 k (0) 1 (zn_m5 hk)
theorem iu_70_m5 {m : zM} (h : zInv m) {k : Nat} (hk : 90 ≤ k ∧ k < 450 ∧ (k - 90) % 6 = 5) {v : Int} (hv : 0 ≤ v ∧ v ≤ 1) : zInv (zUp m 70 k v) := h.bd (zn_m5 hk) hv (by decide) (by decide) (by decide)
theorem zn_m45 {k : Nat} (h : 90 ≤ k ∧ k < 450 ∧ 4 ≤ (k - 90) % 6) : zbN k = some (0, 1) := by
  unfold zbN
  repeat (first | rw [if_pos (by omega)] | rw [if_neg (by omega)])
theorem ib_70_m45 {m : zM} (h : zInv m) {k : Nat} (hk : 90 ≤ k ∧ k < 450 ∧ 4 ≤ (k - 90) % 6) : 0 ≤ m 70 k ∧ m 70 k ≤ 1 := h.1 70 k (0) 1 (zn_m45 hk)
theorem iu_70_m45 {m : zM} (h : zInv m) {k : Nat} (hk : 90 ≤ k ∧ k < 450 ∧ 4 ≤ (k - 90) % 6) {v : Int} (hv : 0 ≤ v ∧ v ≤ 1) : zInv (zUp m 70 k v) := h.bd (zn_m45 hk) hv (by decide) (by decide) (by decide)
theorem zn_s0 {k : Nat} (h : 450 ≤ k ∧ k < 658 ∧ (k - 450) % 52 = 0) : zbN k = some (0, 9999) := by
  unfold zbN
  repeat (first | rw [if_pos (by omega)] | rw [if_neg (by omega)])
theorem ib_70_s0 {m : zM} (h : zInv m) {k : Nat} (hk : 450 ≤ k ∧ k < 658 ∧ (k - 450) % 52 = 0) : 0 ≤ m 70 k ∧ m 70 k ≤ 9999 := h.1 70 k (0) 9999 (zn_s0 hk)
theorem iu_70_s0 {m : zM} (h : zInv m) {k : Nat} (hk : 450 ≤ k ∧ k < 658 ∧ (k - 450) % 52 = 0) {v : Int} (hv : 0 ≤ v ∧ v ≤ 9999) : zInv (zUp m 70 k v) := h.bd (zn_s0 hk) hv (by decide) (by decide) (by decide)
theorem zn_s1 {k : Nat} (h : 450 ≤ k ∧ k < 658 ∧ (k - 450) % 52 = 1) : zbN k = some (0, 50) := by
  unfold zbN
  repeat (first | rw [if_pos (by omega)] | rw [if_neg (by omega)])
theorem ib_70_s1 {m : zM} (h : zInv m) {k : Nat} (hk : 450 ≤ k ∧ k < 658 ∧ (k - 450) % 52 = 1) : 0 ≤ m 70 k ∧ m 70 k ≤ 50 := h.1 70 k (0) 50 (zn_s1 hk)
theorem iu_70_s1 {m : zM} (h : zInv m) {k : Nat} (hk : 450 ≤ k ∧ k < 658 ∧ (k - 450) % 52 = 1) {v : Int} (hv : 0 ≤ v ∧ v ≤ 50) : zInv (zUp m 70 k v) := h.bd (zn_s1 hk) hv (by decide) (by decide) (by decide)
theorem zn_s2 {k : Nat} (h : 450 ≤ k ∧ k < 658 ∧ 2 ≤ (k - 450) % 52) : zbN k = some (0, 127) := by
  unfold zbN
  repeat (first | rw [if_pos (by omega)] | rw [if_neg (by omega)])
theorem ib_70_s2 {m : zM} (h : zInv m) {k : Nat} (hk : 450 ≤ k ∧ k < 658 ∧ 2 ≤ (k - 450) % 52) : 0 ≤ m 70 k ∧ m 70 k ≤ 127 := h.1 70 k (0) 127 (zn_s2 hk)
theorem iu_70_s2 {m : zM} (h : zInv m) {k : Nat} (hk : 450 ≤ k ∧ k < 658 ∧ 2 ≤ (k - 450) % 52) {v : Int} (hv : 0 ≤ v ∧ v ≤ 127) : zInv (zUp m 70 k v) := h.bd (zn_s2 hk) hv (by decide) (by decide) (by decide)
theorem zn_shape {k : Nat} (h : 658 ≤ k ∧ k < 818) : zbN k = some (-500, 500) := by
  unfold zbN
  repeat (first | rw [if_pos (by omega)] | rw [if_neg (by omega)])
theorem ib_70_shape {m : zM} (h : zInv m) {k : Nat} (hk : 658 ≤ k ∧ k < 818) : -500 ≤ m 70 k ∧ m 70 k ≤ 500 := h.1 70 k (-500) 500 (zn_shape hk)
theorem iu_70_shape {m : zM} (h : zInv m) {k : Nat} (hk : 658 ≤ k ∧ k < 818) {v : Int} (hv : -500 ≤ v ∧ v ≤ 500) : zInv (zUp m 70 k v) := h.bd (zn_shape hk) hv (by decide) (by decide) (by decide)
theorem zn_weight {k : Nat} (h : 818 ≤ k ∧ k < 822) : zbN k = some (1, 9) := by
  unfold zbN
  repeat (first | rw [if_pos (by omega)] | rw [if_neg (by omega)])
theorem ib_70_weight {m : zM} (h : zInv m) {k : Nat} (hk : 818 ≤ k ∧ k < 822) : 1 ≤ m 70 k ∧ m 70 k ≤ 9 := h.1 70 k (1) 9 (zn_weight hk)
theorem iu_70_weight {m : zM} (h : zInv m) {k : Nat} (hk : 818 ≤ k ∧ k < 822) {v : Int} (hv : 1 ≤ v ∧ v ≤ 9) : zInv (zUp m 70 k v) := h.bd (zn_weight hk) hv (by decide) (by decide) (by decide)
theorem zn_players {k : Nat} (h : k = 822) : zbN k = some (0, 10) := by
  unfold zbN
  repeat (first | rw [if_pos (by omega)] | rw [if_neg (by omega)])
theorem ib_70_players {m : zM} (h : zInv m) {k : Nat} (hk : k = 822) : 0 ≤ m 70 k ∧ m 70 k ≤ 10 := h.1 70 k (0) 10 (zn_players hk)
theorem iu_70_players {m : zM} (h : zInv m) {k : Nat} (hk : k = 822) {v : Int} (hv : 0 ≤ v ∧ v ≤ 10) : zInv (zUp m 70 k v) := h.bd (zn_players hk) hv (by decide) (by decide) (by decide)
theorem zn_meetings {k : Nat} (h : k = 823) : zbN k = some (0, 60) := by
  unfold zbN
  repeat (first | rw [if_pos (by omega)] | rw [if_neg (by omega)])
theorem ib_70_meetings {m : zM} (h : zInv m) {k : Nat} (hk : k = 823) : 0 ≤ m 70 k ∧ m 70 k ≤ 60 := h.1 70 k (0) 60 (zn_meetings hk)
theorem iu_70_meetings {m : zM} (h : zInv m) {k : Nat} (hk : k = 823) {v : Int} (hv : 0 ≤ v ∧ v ≤ 60) : zInv (zUp m 70 k v) := h.bd (zn_meetings hk) hv (by decide) (by decide) (by decide)
theorem zn_wide {k : Nat} (h : k = 824) : zbN k = some (1, 1000) := by
  unfold zbN
  repeat (first | rw [if_pos (by omega)] | rw [if_neg (by omega)])
theorem ib_70_wide {m : zM} (h : zInv m) {k : Nat} (hk : k = 824) : 1 ≤ m 70 k ∧ m 70 k ≤ 1000 := h.1 70 k (1) 1000 (zn_wide hk)
theorem iu_70_wide {m : zM} (h : zInv m) {k : Nat} (hk : k = 824) {v : Int} (hv : 1 ≤ v ∧ v ≤ 1000) : zInv (zUp m 70 k v) := h.bd (zn_wide hk) hv (by decide) (by decide) (by decide)
theorem zn_even {k : Nat} (h : k = 825) : zbN k = some (0, 500) := by
  unfold zbN
  repeat (first | rw [if_pos (by omega)] | rw [if_neg (by omega)])
theorem ib_70_even {m : zM} (h : zInv m) {k : Nat} (hk : k = 825) : 0 ≤ m 70 k ∧ m 70 k ≤ 500 := h.1 70 k (0) 500 (zn_even hk)
theorem iu_70_even {m : zM} (h : zInv m) {k : Nat} (hk : k = 825) {v : Int} (hv : 0 ≤ v ∧ v ≤ 500) : zInv (zUp m 70 k v) := h.bd (zn_even hk) hv (by decide) (by decide) (by decide)
