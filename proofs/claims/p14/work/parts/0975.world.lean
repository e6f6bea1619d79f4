/-! the world behind the constructors -/
theorem zb_lt {n k : Nat} {lo hi : Int} {q : Int × Int} (h : zb n lo hi k = some q) : k < n := by
  unfold zb at h
  split at h
  · assumption
  · cases h
theorem zbO1_lt {k : Nat} {q : Int × Int} (h : zbO1 k = some q) : k < 30 := by
  by_cases hk : k < 30
  · exact hk
  · exfalso
    unfold zbO1 at h
    split at h
    all_goals first | (cases h; done) | exact hk (by decide)
theorem zbO15_lt {k : Nat} {q : Int × Int} (h : zbO15 k = some q) : k < 30 := by
  by_cases hk : k < 30
  · exact hk
  · exfalso
    unfold zbO15 at h
    split at h
    all_goals first | (cases h; done) | exact hk (by decide)
theorem zbO28_lt {k : Nat} {q : Int × Int} (h : zbO28 k = some q) : k < 30 := by
  by_cases hk : k < 30
  · exact hk
  · exfalso
    unfold zbO28 at h
    split at h
    all_goals first | (cases h; done) | exact hk (by decide)
theorem zbO45_lt {k : Nat} {q : Int × Int} (h : zbO45 k = some q) : k < 30 := by
  by_cases hk : k < 30
  · exact hk
  · exfalso
    unfold zbO45 at h
    split at h
    all_goals first | (cases h; done) | exact hk (by decide)
theorem zbO52_lt {k : Nat} {q : Int × Int} (h : zbO52 k = some q) : k < 30 := by
  by_cases hk : k < 30
  · exact hk
  · exfalso
    unfold zbO52 at h
    split at h
    all_goals first | (cases h; done) | exact hk (by decide)
theorem zbO69_lt {k : Nat} {q : Int × Int} (h : zbO69 k = some q) : k < 30 := by
  by_cases hk : k < 30
  · exact hk
  · exfalso
    unfold zbO69 at h
    split at h
    all_goals first | (cases h; done) | exact hk (by decide)
theorem zBd_lt {r k : Nat} {q : Int × Int} (h : zBd r k = some q) : r < 85 ∧ k < zWlen r := by
  unfold zBd at h
  split at h
  all_goals first
    | exact ⟨by decide, zb_lt h⟩
    | exact ⟨by decide, zbN_lt (lo := q.1) (hi := q.2) h⟩
    | exact ⟨by decide, zbO1_lt h⟩
    | exact ⟨by decide, zbO15_lt h⟩
    | exact ⟨by decide, zbO28_lt h⟩
    | exact ⟨by decide, zbO45_lt h⟩
    | exact ⟨by decide, zbO52_lt h⟩
    | exact ⟨by decide, zbO69_lt h⟩
    | cases h
theorem zh0 {dg : Nat} (h1 : dg % 8 = 0) (h2 : dg / 8 < 4294967296) : dg = zU (xs32 (dg / 8)) * 8 ∧ zIn (xs32 (dg / 8)) := by
  unfold zIn zU xs32 xb32
  omega
theorem zh1 {dg : Nat} (h1 : dg % 8 = 1) (h2 : dg / 8 < 18446744073709551616) : dg = zUL (xs64 (dg / 8)) * 8 + 1 ∧ zInL (xs64 (dg / 8)) := by
  unfold zInL zUL xs64 xb64
  omega
theorem zh4 {dg : Nat} (h2 : dg < 18446744073709551616) : dg = zUL (xs64 dg) ∧ zInL (xs64 dg) := by
  unfold zInL zUL xs64 xb64
  omega
theorem zd_0 (k2 dg : Nat) : zDec (0, k2) dg = xs32 (dg / 8) := by simp only [zDec]
theorem zd_1 (k2 dg : Nat) : zDec (1, k2) dg = xs64 (dg / 8) := by simp only [zDec]
theorem zd_4 (k2 dg : Nat) : zDec (4, k2) dg = xs64 dg := by simp only [zDec]
theorem zg_0 (k2 : Nat) (v : Int) : zDig (0, k2) v = zU v * 8 := rfl
theorem zg_1 (k2 : Nat) (v : Int) : zDig (1, k2) v = zUL v * 8 + 1 := rfl
theorem zg_4 (k2 : Nat) (v : Int) : zDig (4, k2) v = zUL v := rfl
theorem zg_2 (k2 : Nat) (v : Int) : zDig (2, k2) v = k2 * 8 + 2 := rfl
theorem zg_5 (k2 : Nat) (v : Int) : zDig (5, k2) v = k2 + 1 := rfl
theorem zj_0 (k2 : Nat) (v : Int) : zRg (0, k2) v = zIn v := rfl
theorem zj_1 (k2 : Nat) (v : Int) : zRg (1, k2) v = zInL v := rfl
theorem zj_4 (k2 : Nat) (v : Int) : zRg (4, k2) v = zInL v := rfl
theorem zj_2 (k2 : Nat) (v : Int) : zRg (2, k2) v := trivial
theorem zj_5 (k2 : Nat) (v : Int) : zRg (5, k2) v := trivial
theorem zhr {kd : Nat × Nat} {dg : Nat} (hq : zCkd kd dg = true) (hk : kd.1 ≠ 7) : dg = zDig kd (zDec kd dg) ∧ zRg kd (zDec kd dg) := by
  obtain ⟨k1, k2⟩ := kd
  unfold zCkd at hq
  dsimp only at hq hk
  split at hq
  · obtain ⟨q1, q2⟩ := xand hq
    rw [zd_0, zg_0, zj_0]
    exact zh0 (xbeq q1) (xblt q2)
  · obtain ⟨q1, q2⟩ := xand hq
    rw [zd_1, zg_1, zj_1]
    exact zh1 (xbeq q1) (xblt q2)
  · rw [zg_2]
    exact ⟨xbeq hq, zj_2 _ _⟩
  · rw [zd_4, zg_4, zj_4]
    exact zh4 (xblt hq)
  · rw [zg_5]
    exact ⟨xbeq hq, zj_5 _ _⟩
  · exact absurd rfl hk
  · cases hq
theorem zK_hz : ∀ r, r < 85 → zHd r % 8 ≠ 2 → ∀ k, k < 3 → ¬ k < zHd r / 8 → (zKd r k).1 = 7 := by decide +kernel
theorem zK_hz2 : ∀ r, r < 85 → zHd r % 8 ≠ 2 → (zHd r % 8 = 1 ∨ zHd r % 8 = 3 ∨ zHd r % 8 = 5 ∨ (zHd r % 8 = 7 ∧ (zKT.getD r []).length ≤ 2)) := by decide +kernel
theorem zCk_ok0 {Wd : List Nat} (h : zCk0 Wd = true) : (zRel (zMem Wd) Wd ∧ zInv (zMem Wd)) ∧ ∀ r, r < 85 → xGet Wd r / 2 ^ (64 + 72 * zWlen r) = 0 := by
  obtain ⟨h1, h⟩ := xand h
  obtain ⟨h2, h3⟩ := xand h
  obtain ⟨h4, h5⟩ := xand h3
  have hlen : Wd.length = 85 := by rw [← xLen_eq]; exact xbeq h1
  have hc : ∀ r, r < 85 → (xGet Wd r % 18446744073709551616 = zHd r ∧ ∀ k, k < zWlen r → zCk1 (xGet Wd r) r k = true ∧ zCk2 Wd r k = true) ∧ xGet Wd r / 2 ^ (64 + 72 * zWlen r) = 0 := by
    intro r hr
    have hq := List.all_eq_true.mp h2 r (List.mem_range.mpr hr)
    obtain ⟨q1, q2⟩ := xand hq
    obtain ⟨q3, q4⟩ := xand q2
    exact ⟨⟨xbeq q1, fun k hk => xand (List.all_eq_true.mp q4 k (List.mem_range.mpr hk))⟩, xbeq q3⟩
  have hkd : ∀ r k, (zKd r k).1 ≠ 7 → r < 85 ∧ k < zWlen r := by
    intro r k hk
    have hr : zHd r ≠ 0 := by
      intro q
      apply hk
      unfold zKd
      rw [q]
      rfl
    have hr85 : r < 85 := zHd_lt hr
    refine ⟨hr85, ?_⟩
    unfold zWlen
    cases hb : Nat.beq (zHd r % 8) 2 with
    | true =>
      show k < 30
      have h8 := xbeq hb
      by_cases hl : k < 30
      · exact hl
      · exfalso
        apply hk
        unfold zKd
        rw [h8]
        show ((zKT.getD r []).getD k (7, 0)).1 = 7
        have := zKlen r hr85 h8
        rw [List.getD_eq_getElem?_getD, List.getElem?_eq_none (by omega)]
        rfl
    | false =>
      show k < zHd r / 8
      by_cases hl : k < zHd r / 8
      · exact hl
      · exfalso
        apply hk
        have h8 : zHd r % 8 ≠ 2 := fun q => by rw [q] at hb; cases hb
        by_cases hk3 : k < 3
        · exact zK_hz r hr85 h8 k hk3 hl
        · have hz2 := zK_hz2
          unfold zKd
          rcases hz2 r hr85 h8 with q | q | q | ⟨q, q2⟩
          · rw [q]; show (if k < zLen r then (0, 0) else (7, 0) : Nat × Nat).1 = 7; rw [if_neg (show ¬ k < zLen r from hl)]
          · rw [q]; show (if k < zLen r then (4, 0) else (7, 0) : Nat × Nat).1 = 7; rw [if_neg (show ¬ k < zLen r from hl)]
          · rw [q]; show (if k < zLen r then (0, 0) else (7, 0) : Nat × Nat).1 = 7; rw [if_neg (show ¬ k < zLen r from hl)]
          · rw [q]
            show ((zKT.getD r []).getD k (7, 0)).1 = 7
            rw [List.getD_eq_getElem?_getD, List.getElem?_eq_none (by omega)]
            rfl
  have hrel : ∀ r k, (zKd r k).1 ≠ 7 → xDn (xGet Wd r) k 1 = zDig (zKd r k) (zMem Wd r k) ∧ zRg (zKd r k) (zMem Wd r k) := by
    intro r k hk
    obtain ⟨hr, hk2⟩ := hkd r k hk
    exact zhr ((hc r hr).1.2 k hk2).1 hk
  refine ⟨⟨⟨hlen, fun r c hrc => ?_⟩, fun r k lo hi hb => ?_, ?_, fun r k => ?_⟩, fun r hr => (hc r hr).2⟩
  · have hr : r < 85 := by rw [← hlen]; exact (List.getElem?_eq_some_iff.mp hrc).1
    have e : xGet Wd r = c := by rw [xGet_eq, List.getD_eq_getElem?_getD, hrc]; rfl
    subst e
    exact ⟨(hc r hr).1.1, fun k hk => hrel r k hk⟩
  · obtain ⟨hr, hk⟩ := zBd_lt hb
    have hq := ((hc r hr).1.2 k hk).2
    unfold zCk2 at hq
    rw [hb] at hq
    obtain ⟨q1, q2⟩ := xand hq
    exact ⟨of_decide_eq_true q1, of_decide_eq_true q2⟩
  · intro j hj hm
    have h4' : zMem Wd 72 0 = 0 := of_decide_eq_true h4
    have h5' : zMem Wd 72 1 = 0 := of_decide_eq_true h5
    have hj2 : j = 0 ∨ j = 1 := by omega
    rcases hj2 with q | q
    · rw [q] at hm; exact absurd h4' hm
    · rw [q] at hm; exact absurd h5' hm
  · by_cases hk : (zKd r k).1 = 7
    · generalize zKd r k = kd at hk ⊢
      obtain ⟨k1, k2⟩ := kd
      dsimp only at hk
      subst hk
      trivial
    · exact (hrel r k hk).2
theorem zCk_ok {Wd : List Nat} (h : zCk Wd = true) : (zRel (zMem Wd) Wd ∧ zInv (zMem Wd)) ∧ ∀ r, r < 85 → xGet Wd r / 2 ^ (64 + 72 * zWlen r) = 0 := zCk_ok0 (xand h).1
theorem qCk_ok {Wd : List Nat} (h : zCk Wd = true) : qK (zMem Wd) := by
  have h := (xand h).2
  unfold qCk at h
  obtain ⟨k0, h⟩ := xand h
  obtain ⟨k1, h⟩ := xand h
  obtain ⟨k2, h⟩ := xand h
  obtain ⟨k3, h⟩ := xand h
  obtain ⟨k4, h⟩ := xand h
  obtain ⟨k5, h⟩ := xand h
  obtain ⟨k6, h⟩ := xand h
  obtain ⟨k7, h⟩ := xand h
  obtain ⟨k8, h⟩ := xand h
  obtain ⟨k9, h⟩ := xand h
  obtain ⟨k10, h⟩ := xand h
  obtain ⟨k11, h⟩ := xand h
  obtain ⟨k12, h⟩ := xand h
  obtain ⟨k13, h⟩ := xand h
  obtain ⟨k14, h⟩ := xand h
  obtain ⟨k15, h⟩ := xand h
  obtain ⟨k16, h⟩ := xand h
  obtain ⟨k17, h⟩ := xand h
  obtain ⟨k18, h⟩ := xand h
  obtain ⟨k19, h⟩ := xand h
  obtain ⟨k20, h⟩ := xand h
  obtain ⟨k21, h⟩ := xand h
  have k22 := h
  have e0 : zMem Wd 41 0 = 0 := of_decide_eq_true k19
  have e1 : zMem Wd 41 1 = 0 := of_decide_eq_true k20
  have e2 : zMem Wd 72 0 = 0 := of_decide_eq_true k21
  have e3 : zMem Wd 72 1 = 0 := of_decide_eq_true k22
  exact ⟨⟨of_decide_eq_true k0, of_decide_eq_true k1, of_decide_eq_true k2, of_decide_eq_true k3, fun i hi => of_decide_eq_true (List.all_eq_true.mp k4 i (List.mem_range.mpr hi)), fun i hi => of_decide_eq_true (List.all_eq_true.mp k5 i (List.mem_range.mpr hi)), fun i hi => of_decide_eq_true (List.all_eq_true.mp k6 i (List.mem_range.mpr hi)), fun i hi => of_decide_eq_true (List.all_eq_true.mp k7 i (List.mem_range.mpr hi)), fun i hi => of_decide_eq_true (List.all_eq_true.mp k8 i (List.mem_range.mpr hi)), fun i hi => of_decide_eq_true (List.all_eq_true.mp k9 i (List.mem_range.mpr hi)), fun i hi => of_decide_eq_true (List.all_eq_true.mp k10 i (List.mem_range.mpr hi)), fun i hi => of_decide_eq_true (List.all_eq_true.mp k11 i (List.mem_range.mpr hi)), fun i hi => of_decide_eq_true (List.all_eq_true.mp k12 i (List.mem_range.mpr hi)), fun i hi j hj => of_decide_eq_true (List.all_eq_true.mp (List.all_eq_true.mp k13 i (List.mem_range.mpr hi)) j (List.mem_range.mpr hj)), fun i hi => of_decide_eq_true (List.all_eq_true.mp k14 i (List.mem_range.mpr hi)), fun i hi => of_decide_eq_true (List.all_eq_true.mp k15 i (List.mem_range.mpr hi)), fun i hi => of_decide_eq_true (List.all_eq_true.mp k16 i (List.mem_range.mpr hi)), fun i hi => of_decide_eq_true (List.all_eq_true.mp k17 i (List.mem_range.mpr hi)), fun i hi _ => of_decide_eq_true (List.all_eq_true.mp k18 i (List.mem_range.mpr hi))⟩, e0.trans e2.symm, e1.trans e3.symm, fun q => absurd e2 q, fun q => absurd e3 q⟩
