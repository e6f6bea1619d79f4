/-! the world behind the constructors -/
theorem zb_lt {n k : Nat} {lo hi : Int} {q : Int × Int} (h : zb n lo hi k = some q) : k < n := by
  unfold zb at h
  split at h
  · assumption
  · cases h
theorem zbO1_lt {k : Nat} {q : Int × Int} (h : zbO1 k = some q) : k < 30 := by
  by_cases hk : k < 30
  · exact hk
  · exfalso
    unfold zbO1 at h
    split at h
    all_goals first | (cases h; done) | exact hk (by decide)
theorem zbO15_lt {k : Nat} {q : Int × Int} (h : zbO15 k = some q) : k < 30 := by
  by_cases hk : k < 30
  · exact hk
  · exfalso
    unfold zbO15 at h
    split at h
    all_goals first | (cases h; done) | exact hk (by decide)
theorem zbO28_lt {k : Nat} {q : Int × Int} (h : zbO28 k = some q) : k < 30 := by
  by_cases hk : k < 30
  · exact hk
  · exfalso
    unfold zbO28 at h
    split at h
    all_goals first | (cases h; done) | exact hk (by decide)
theorem zbO45_lt {k : Nat} {q : Int × Int} (h : zbO45 k = some q) : k < 30 := by
  by_cases hk : k < 30
  · exact hk
  · exfalso
    unfold zbO45 at h
    split at h
    all_goals first | (cases h; done) | exact hk (by decide)
theorem zbO52_lt {k : Nat} {q : Int × Int} (h : zbO52 k = some q) : k < 30 := by
  by_cases hk : k < 30
  · exact hk
  · exfalso
    unfold zbO52 at h
    split at h
    all_goals first | (cases h; done) | exact hk (by decide)
theorem zbO69_lt {k : Nat} {q : Int × Int} (h : zbO69 k = some q) : k < 30 := by
  by_cases hk : k < 30
  · exact hk
  · exfalso
    unfold zbO69 at h
    split at h
    all_goals first | (cases h; done) | exact hk (by decide)
theorem zBd_lt {r k : Nat} {q : Int × Int} (h : zBd r k = some q) : r < 85 ∧ k < zWlen r := by
  unfold zBd at h
  split at h
  all_goals first
    | exact ⟨by decide, zb_lt h⟩
    | exact ⟨by decide, zbN_lt (lo := q.1) (hi := q.2) h⟩
    | exact ⟨by decide, zbO1_lt h⟩
    | exact ⟨by decide, zbO15_lt h⟩
    | exact ⟨by decide, zbO28_lt h⟩
    | exact ⟨by decide, zbO45_lt h⟩
    | exact ⟨by decide, zbO52_lt h⟩
    | exact ⟨by decide, zbO69_lt h⟩
    | cases h
theorem zK_hz : ∀ r, r < 85 → zHd r % 8 ≠ 2 → ∀ k, k < 3 → ¬ k < zHd r / 8 → (zKd r k).1 = 7 := by decide +kernel
theorem zK_hz2 : ∀ r, r < 85 → zHd r % 8 ≠ 2 → (zHd r % 8 = 1 ∨ zHd r % 8 = 3 ∨ zHd r % 8 = 5 ∨ (zHd r % 8 = 7 ∧ (zKT.getD r []).length ≤ 2)) := by decide +kernel
theorem zCk_ok {Wd : List Nat} (h : zCk Wd = true) : zRel (zMem Wd) Wd ∧ zInv (zMem Wd) := by
  obtain ⟨h1, h⟩ := xand h
  obtain ⟨h2, h3⟩ := xand h
  obtain ⟨h4, h5⟩ := xand h3
  have hlen : Wd.length = 85 := by rw [← xLen_eq]; exact xbeq h1
  have hc : ∀ r, r < 85 → xGet Wd r % 18446744073709551616 = zHd r ∧ ∀ k, k < zWlen r → zCk1 (xGet Wd r) r k = true ∧ zCk2 Wd r k = true := by
    intro r hr
    have hq := List.all_eq_true.mp h2 r (List.mem_range.mpr hr)
    obtain ⟨q1, q2⟩ := xand hq
    exact ⟨xbeq q1, fun k hk => xand (List.all_eq_true.mp q2 k (List.mem_range.mpr hk))⟩
  have hkd : ∀ r k, (zKd r k).1 ≠ 7 → r < 85 ∧ k < zWlen r := by
    intro r k hk
    have hr : zHd r ≠ 0 := by
      intro q
      apply hk
      unfold zKd
      rw [q]
    have hr85 : r < 85 := zHd_lt hr
    refine ⟨hr85, ?_⟩
    unfold zWlen
    cases hb : Nat.beq (zHd r % 8) 2 with
    | true =>
      show k < 30
      have h8 := xbeq hb
      by_cases hl : k < 30
      · exact hl
      · exfalso
        apply hk
        unfold zKd
        rw [h8]
        show ((zKT.getD r []).getD k (7, 0)).1 = 7
        have := zKlen r hr85 h8
        rw [List.getD_eq_getElem?_getD, List.getElem?_eq_none (by omega)]
        rfl
    | false =>
      show k < zHd r / 8
      by_cases hl : k < zHd r / 8
      · exact hl
      · exfalso
        apply hk
        have h8 : zHd r % 8 ≠ 2 := fun q => by rw [q] at hb; cases hb
        by_cases hk3 : k < 3
        · exact zK_hz r hr85 h8 k hk3 hl
        · have hz2 := zK_hz2
          unfold zKd
          rcases hz2 r hr85 h8 with q | q | q | ⟨q, q2⟩
          · rw [q]; show (if k < zLen r then (0, 0) else (7, 0) : Nat × Nat).1 = 7; rw [if_neg hl]
          · rw [q]; show (if k < zLen r then (4, 0) else (7, 0) : Nat × Nat).1 = 7; rw [if_neg hl]
          · rw [q]; show (if k < zLen r then (0, 0) else (7, 0) : Nat × Nat).1 = 7; rw [if_neg hl]
          · rw [q]
            show ((zKT.getD r []).getD k (7, 0)).1 = 7
            rw [List.getD_eq_getElem?_getD, List.getElem?_eq_none (by omega)]
            rfl
  have hrel : ∀ r k, (zKd r k).1 ≠ 7 → xDn (xGet Wd r) k 1 = zDig (zKd r k) (zMem Wd r k) ∧ zRg (zKd r k) (zMem Wd r k) := by
    intro r k hk
    obtain ⟨hr, hk2⟩ := hkd r k hk
    have hq := ((hc r hr).2 k hk2).1
    unfold zCk1 at hq
    unfold zMem
    generalize xDn (xGet Wd r) k 1 = dg at hq ⊢
    generalize zKd r k = kd at hq hk ⊢
    obtain ⟨k1, k2⟩ := kd
    match k1, hk, hq with
    | 0, _, hq =>
      obtain ⟨q1, q2⟩ := xand hq
      have q1 := xbeq q1
      have q2 := xblt q2
      refine ⟨?_, ?_⟩
      · show dg = zU (xs32 (dg / 8)) * 8
        unfold zU xs32 xb32
        omega
      · show zIn (xs32 (dg / 8))
        unfold zIn xs32 xb32
        omega
    | 1, _, hq =>
      obtain ⟨q1, q2⟩ := xand hq
      have q1 := xbeq q1
      have q2 := xblt q2
      refine ⟨?_, ?_⟩
      · show dg = zUL (xs64 (dg / 8)) * 8 + 1
        unfold zUL xs64 xb64
        omega
      · show zInL (xs64 (dg / 8))
        unfold zInL xs64 xb64
        omega
    | 2, _, hq => exact ⟨xbeq hq, trivial⟩
    | 3, _, hq => cases hq
    | 4, _, hq =>
      have q2 := xblt hq
      refine ⟨?_, ?_⟩
      · show dg = zUL (xs64 dg)
        unfold zUL xs64 xb64
        omega
      · show zInL (xs64 dg)
        unfold zInL xs64 xb64
        omega
    | 5, _, hq => exact ⟨xbeq hq, trivial⟩
    | 6, _, hq => cases hq
    | 7, hk, hq => exact absurd rfl hk
    | n + 8, _, hq => cases hq
  refine ⟨⟨hlen, fun r c hrc => ?_⟩, fun r k lo hi hb => ?_, ?_, fun r k => ?_⟩
  · have hr : r < 85 := by rw [← hlen]; exact (List.getElem?_eq_some_iff.mp hrc).1
    have e : xGet Wd r = c := by rw [xGet_eq, List.getD_eq_getElem?_getD, hrc]; rfl
    subst e
    exact ⟨(hc r hr).1, fun k hk => hrel r k hk⟩
  · obtain ⟨hr, hk⟩ := zBd_lt hb
    have hq := ((hc r hr).2 k hk).2
    unfold zCk2 at hq
    rw [hb] at hq
    obtain ⟨q1, q2⟩ := xand hq
    exact ⟨of_decide_eq_true q1, of_decide_eq_true q2⟩
  · intro j hj hm
    exfalso
    apply hm
    match j, hj with
    | 0, _ => exact of_decide_eq_true h4
    | 1, _ => exact of_decide_eq_true h5
  · by_cases hk : (zKd r k).1 = 7
    · generalize zKd r k = kd at hk ⊢
      obtain ⟨k1, k2⟩ := kd
      dsimp only at hk
      subst hk
      trivial
    · exact (hrel r k hk).2
