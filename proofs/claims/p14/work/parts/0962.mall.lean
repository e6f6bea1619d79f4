theorem xMbif {c : Bool} {x : Option xMt} {o : xMt} (h : (bif c then x else none) = some o) : c = true ∧ x = some o := by
  cases c with
  | true => exact ⟨rfl, h⟩
  | false => cases h
def xMok (k : Nat) (mt : xMt) : Prop := match mt with
  | (own, y, bb, maxL, rt, na, _, _, code) => (∀ (pc : Nat) (row : xRow), code pc = some row → xChk xM own y.name bb pc row = true) ∧ (k ≠ 0 → xMg own y bb maxL rt ∧ ((∃ n, xNp y = some n ∧ na = n ∧ Jvm.Cond.static y ∈ xTb) ∨ (∃ n, xNp y = some n ∧ na = n + 1 ∧ Jvm.Cond.instanceMethod y ∈ xTb ∧ (y.name = "<init>" ∨ Jvm.Cond.selects y.cls y y ∈ xTb))))
theorem xMo_0 {k : Nat} {mt : xMt} (h : xM_0 k = some mt) : xMok k mt := by
  unfold xM_0 at h
  cases hA : Nat.blt k 4 with
  | true =>
    rw [hA, cond_true] at h
    cases hA : Nat.blt k 2 with
    | true =>
      rw [hA, cond_true] at h
      cases hA : Nat.blt k 1 with
      | true =>
        rw [hA, cond_true] at h
        obtain ⟨hj, h⟩ := xMbif h
        have hj := xbeq hj
        subst hj
        cases h
        exact ⟨xrows_of xk_L_law, fun q => absurd rfl q⟩
      | false =>
        rw [hA, cond_false] at h
        obtain ⟨hj, h⟩ := xMbif h
        have hj := xbeq hj
        subst hj
        cases h
        exact ⟨xrows_of xk_X0_power, fun _ => xm_X0_power⟩
    | false =>
      rw [hA, cond_false] at h
      cases hA : Nat.blt k 3 with
      | true =>
        rw [hA, cond_true] at h
        obtain ⟨hj, h⟩ := xMbif h
        have hj := xbeq hj
        subst hj
        cases h
        exact ⟨xrows_of xk_X0_cases, fun _ => xm_X0_cases⟩
      | false =>
        rw [hA, cond_false] at h
        obtain ⟨hj, h⟩ := xMbif h
        have hj := xbeq hj
        subst hj
        cases h
        exact ⟨xrows_of xk_X1_init, fun _ => xm_X1_init⟩
  | false =>
    rw [hA, cond_false] at h
    cases hA : Nat.blt k 6 with
    | true =>
      rw [hA, cond_true] at h
      cases hA : Nat.blt k 5 with
      | true =>
        rw [hA, cond_true] at h
        obtain ⟨hj, h⟩ := xMbif h
        have hj := xbeq hj
        subst hj
        cases h
        exact ⟨xrows_of xk_J7_fill_53178, fun _ => xm_J7_fill_53178⟩
      | false =>
        rw [hA, cond_false] at h
        obtain ⟨hj, h⟩ := xMbif h
        have hj := xbeq hj
        subst hj
        cases h
        exact ⟨xrows_of xk_X2_fail, fun _ => xm_X2_fail⟩
    | false =>
      rw [hA, cond_false] at h
      cases hA : Nat.blt k 7 with
      | true =>
        rw [hA, cond_true] at h
        obtain ⟨hj, h⟩ := xMbif h
        have hj := xbeq hj
        subst hj
        cases h
        exact ⟨xrows_of xk_X2_next, fun _ => xm_X2_next⟩
      | false =>
        rw [hA, cond_false] at h
        obtain ⟨hj, h⟩ := xMbif h
        have hj := xbeq hj
        subst hj
        cases h
        exact ⟨xrows_of xk_X2_levelOf, fun _ => xm_X2_levelOf⟩
theorem xMo_1 {k : Nat} {mt : xMt} (h : xM_1 k = some mt) : xMok k mt := by
  unfold xM_1 at h
  cases hA : Nat.blt k 12 with
  | true =>
    rw [hA, cond_true] at h
    cases hA : Nat.blt k 10 with
    | true =>
      rw [hA, cond_true] at h
      cases hA : Nat.blt k 9 with
      | true =>
        rw [hA, cond_true] at h
        obtain ⟨hj, h⟩ := xMbif h
        have hj := xbeq hj
        subst hj
        cases h
        exact ⟨xrows_of xk_X2_add, fun _ => xm_X2_add⟩
      | false =>
        rw [hA, cond_false] at h
        obtain ⟨hj, h⟩ := xMbif h
        have hj := xbeq hj
        subst hj
        cases h
        exact ⟨xrows_of xk_X2_readDigits, fun _ => xm_X2_readDigits⟩
    | false =>
      rw [hA, cond_false] at h
      cases hA : Nat.blt k 11 with
      | true =>
        rw [hA, cond_true] at h
        obtain ⟨hj, h⟩ := xMbif h
        have hj := xbeq hj
        subst hj
        cases h
        exact ⟨xrows_of xk_X2_letterOf, fun _ => xm_X2_letterOf⟩
      | false =>
        rw [hA, cond_false] at h
        obtain ⟨hj, h⟩ := xMbif h
        have hj := xbeq hj
        subst hj
        cases h
        exact ⟨xrows_of xk_X2_addAheadSigns, fun _ => xm_X2_addAheadSigns⟩
  | false =>
    rw [hA, cond_false] at h
    cases hA : Nat.blt k 14 with
    | true =>
      rw [hA, cond_true] at h
      cases hA : Nat.blt k 13 with
      | true =>
        rw [hA, cond_true] at h
        obtain ⟨hj, h⟩ := xMbif h
        have hj := xbeq hj
        subst hj
        cases h
        exact ⟨xrows_of xk_X2_readBrackets, fun _ => xm_X2_readBrackets⟩
      | false =>
        rw [hA, cond_false] at h
        obtain ⟨hj, h⟩ := xMbif h
        have hj := xbeq hj
        subst hj
        cases h
        exact ⟨xrows_of xk_X2_readLevel, fun _ => xm_X2_readLevel⟩
    | false =>
      rw [hA, cond_false] at h
      cases hA : Nat.blt k 15 with
      | true =>
        rw [hA, cond_true] at h
        obtain ⟨hj, h⟩ := xMbif h
        have hj := xbeq hj
        subst hj
        cases h
        exact ⟨xrows_of xk_X2_readUnit, fun _ => xm_X2_readUnit⟩
      | false =>
        rw [hA, cond_false] at h
        obtain ⟨hj, h⟩ := xMbif h
        have hj := xbeq hj
        subst hj
        cases h
        exact ⟨xrows_of xk_X2_read, fun _ => xm_X2_read⟩
theorem xMo_2 {k : Nat} {mt : xMt} (h : xM_2 k = some mt) : xMok k mt := by
  unfold xM_2 at h
  cases hA : Nat.blt k 20 with
  | true =>
    rw [hA, cond_true] at h
    cases hA : Nat.blt k 18 with
    | true =>
      rw [hA, cond_true] at h
      cases hA : Nat.blt k 17 with
      | true =>
        rw [hA, cond_true] at h
        obtain ⟨hj, h⟩ := xMbif h
        have hj := xbeq hj
        subst hj
        cases h
        exact ⟨xrows_of xk_X4_begin, fun _ => xm_X4_begin⟩
      | false =>
        rw [hA, cond_false] at h
        obtain ⟨hj, h⟩ := xMbif h
        have hj := xbeq hj
        subst hj
        cases h
        exact ⟨xrows_of xk_X4_isFlawed, fun _ => xm_X4_isFlawed⟩
    | false =>
      rw [hA, cond_false] at h
      cases hA : Nat.blt k 19 with
      | true =>
        rw [hA, cond_true] at h
        obtain ⟨hj, h⟩ := xMbif h
        have hj := xbeq hj
        subst hj
        cases h
        exact ⟨xrows_of xk_X5_isGiven, fun _ => xm_X5_isGiven⟩
      | false =>
        rw [hA, cond_false] at h
        obtain ⟨hj, h⟩ := xMbif h
        have hj := xbeq hj
        subst hj
        cases h
        exact ⟨xrows_of xk_X2_push, fun _ => xm_X2_push⟩
  | false =>
    rw [hA, cond_false] at h
    cases hA : Nat.blt k 22 with
    | true =>
      rw [hA, cond_true] at h
      cases hA : Nat.blt k 21 with
      | true =>
        rw [hA, cond_true] at h
        obtain ⟨hj, h⟩ := xMbif h
        have hj := xbeq hj
        subst hj
        cases h
        exact ⟨xrows_of xk_X2_pop, fun _ => xm_X2_pop⟩
      | false =>
        rw [hA, cond_false] at h
        obtain ⟨hj, h⟩ := xMbif h
        have hj := xbeq hj
        subst hj
        cases h
        exact ⟨xrows_of xk_X2_between, fun _ => xm_X2_between⟩
    | false =>
      rw [hA, cond_false] at h
      cases hA : Nat.blt k 23 with
      | true =>
        rw [hA, cond_true] at h
        obtain ⟨hj, h⟩ := xMbif h
        have hj := xbeq hj
        subst hj
        cases h
        exact ⟨xrows_of xk_X2_work, fun _ => xm_X2_work⟩
      | false =>
        rw [hA, cond_false] at h
        obtain ⟨hj, h⟩ := xMbif h
        have hj := xbeq hj
        subst hj
        cases h
        exact ⟨xrows_of xk_X2_worth, fun _ => xm_X2_worth⟩
theorem xMo_3 {k : Nat} {mt : xMt} (h : xM_3 k = some mt) : xMok k mt := by
  unfold xM_3 at h
  cases hA : Nat.blt k 28 with
  | true =>
    rw [hA, cond_true] at h
    cases hA : Nat.blt k 26 with
    | true =>
      rw [hA, cond_true] at h
      cases hA : Nat.blt k 25 with
      | true =>
        rw [hA, cond_true] at h
        obtain ⟨hj, h⟩ := xMbif h
        have hj := xbeq hj
        subst hj
        cases h
        exact ⟨xrows_of xk_X4_changeOf, fun _ => xm_X4_changeOf⟩
      | false =>
        rw [hA, cond_false] at h
        obtain ⟨hj, h⟩ := xMbif h
        have hj := xbeq hj
        subst hj
        cases h
        exact ⟨xrows_of xk_X4_settle, fun _ => xm_X4_settle⟩
    | false =>
      rw [hA, cond_false] at h
      cases hA : Nat.blt k 27 with
      | true =>
        rw [hA, cond_true] at h
        obtain ⟨hj, h⟩ := xMbif h
        have hj := xbeq hj
        subst hj
        cases h
        exact ⟨xrows_of xk_X4_play, fun _ => xm_X4_play⟩
      | false =>
        rw [hA, cond_false] at h
        obtain ⟨hj, h⟩ := xMbif h
        have hj := xbeq hj
        subst hj
        cases h
        exact ⟨xrows_of xk_X5_pairBits, fun _ => xm_X5_pairBits⟩
  | false =>
    rw [hA, cond_false] at h
    cases hA : Nat.blt k 30 with
    | true =>
      rw [hA, cond_true] at h
      cases hA : Nat.blt k 29 with
      | true =>
        rw [hA, cond_true] at h
        obtain ⟨hj, h⟩ := xMbif h
        have hj := xbeq hj
        subst hj
        cases h
        exact ⟨xrows_of xk_X5_endsYear, fun _ => xm_X5_endsYear⟩
      | false =>
        rw [hA, cond_false] at h
        obtain ⟨hj, h⟩ := xMbif h
        have hj := xbeq hj
        subst hj
        cases h
        exact ⟨xrows_of xk_J6_bitCount_0f7a4, fun _ => xm_J6_bitCount_0f7a4⟩
    | false =>
      rw [hA, cond_false] at h
      cases hA : Nat.blt k 31 with
      | true =>
        rw [hA, cond_true] at h
        obtain ⟨hj, h⟩ := xMbif h
        have hj := xbeq hj
        subst hj
        cases h
        exact ⟨xrows_of xk_X4_sumOf, fun _ => xm_X4_sumOf⟩
      | false =>
        rw [hA, cond_false] at h
        obtain ⟨hj, h⟩ := xMbif h
        have hj := xbeq hj
        subst hj
        cases h
        exact ⟨xrows_of xk_X1_offer, fun _ => xm_X1_offer⟩
theorem xMo_4 {k : Nat} {mt : xMt} (h : xM_4 k = some mt) : xMok k mt := by
  unfold xM_4 at h
  cases hA : Nat.blt k 36 with
  | true =>
    rw [hA, cond_true] at h
    cases hA : Nat.blt k 34 with
    | true =>
      rw [hA, cond_true] at h
      cases hA : Nat.blt k 33 with
      | true =>
        rw [hA, cond_true] at h
        obtain ⟨hj, h⟩ := xMbif h
        have hj := xbeq hj
        subst hj
        cases h
        exact ⟨xrows_of xk_X1_judgeRow, fun _ => xm_X1_judgeRow⟩
      | false =>
        rw [hA, cond_false] at h
        obtain ⟨hj, h⟩ := xMbif h
        have hj := xbeq hj
        subst hj
        cases h
        exact ⟨xrows_of xk_X1_judgeYear, fun _ => xm_X1_judgeYear⟩
    | false =>
      rw [hA, cond_false] at h
      cases hA : Nat.blt k 35 with
      | true =>
        rw [hA, cond_true] at h
        obtain ⟨hj, h⟩ := xMbif h
        have hj := xbeq hj
        subst hj
        cases h
        exact ⟨xrows_of xk_X1_ask, fun _ => xm_X1_ask⟩
      | false =>
        rw [hA, cond_false] at h
        obtain ⟨hj, h⟩ := xMbif h
        have hj := xbeq hj
        subst hj
        cases h
        exact ⟨xrows_of xk_X2_init, fun _ => xm_X2_init⟩
  | false =>
    rw [hA, cond_false] at h
    cases hA : Nat.blt k 38 with
    | true =>
      rw [hA, cond_true] at h
      cases hA : Nat.blt k 37 with
      | true =>
        rw [hA, cond_true] at h
        obtain ⟨hj, h⟩ := xMbif h
        have hj := xbeq hj
        subst hj
        cases h
        exact ⟨xrows_of xk_X3_init, fun _ => xm_X3_init⟩
      | false =>
        rw [hA, cond_false] at h
        obtain ⟨hj, h⟩ := xMbif h
        have hj := xbeq hj
        subst hj
        cases h
        exact ⟨xrows_of xk_X3_divisor, fun _ => xm_X3_divisor⟩
    | false =>
      rw [hA, cond_false] at h
      cases hA : Nat.blt k 39 with
      | true =>
        rw [hA, cond_true] at h
        obtain ⟨hj, h⟩ := xMbif h
        have hj := xbeq hj
        subst hj
        cases h
        exact ⟨xrows_of xk_X3_put, fun _ => xm_X3_put⟩
      | false =>
        rw [hA, cond_false] at h
        obtain ⟨hj, h⟩ := xMbif h
        have hj := xbeq hj
        subst hj
        cases h
        exact ⟨xrows_of xk_X4_init, fun _ => xm_X4_init⟩
theorem xMo_5 {k : Nat} {mt : xMt} (h : xM_5 k = some mt) : xMok k mt := by
  unfold xM_5 at h
  cases hA : Nat.blt k 44 with
  | true =>
    rw [hA, cond_true] at h
    cases hA : Nat.blt k 42 with
    | true =>
      rw [hA, cond_true] at h
      cases hA : Nat.blt k 41 with
      | true =>
        rw [hA, cond_true] at h
        obtain ⟨hj, h⟩ := xMbif h
        have hj := xbeq hj
        subst hj
        cases h
        exact ⟨xrows_of xk_X4_flaw, fun _ => xm_X4_flaw⟩
      | false =>
        rw [hA, cond_false] at h
        obtain ⟨hj, h⟩ := xMbif h
        have hj := xbeq hj
        subst hj
        cases h
        exact ⟨xrows_of xk_X4_playTo, fun _ => xm_X4_playTo⟩
    | false =>
      rw [hA, cond_false] at h
      cases hA : Nat.blt k 43 with
      | true =>
        rw [hA, cond_true] at h
        obtain ⟨hj, h⟩ := xMbif h
        have hj := xbeq hj
        subst hj
        cases h
        exact ⟨xrows_of xk_X4_changesIn, fun _ => xm_X4_changesIn⟩
      | false =>
        rw [hA, cond_false] at h
        obtain ⟨hj, h⟩ := xMbif h
        have hj := xbeq hj
        subst hj
        cases h
        exact ⟨xrows_of xk_X4_rise, fun _ => xm_X4_rise⟩
  | false =>
    rw [hA, cond_false] at h
    cases hA : Nat.blt k 46 with
    | true =>
      rw [hA, cond_true] at h
      cases hA : Nat.blt k 45 with
      | true =>
        rw [hA, cond_true] at h
        obtain ⟨hj, h⟩ := xMbif h
        have hj := xbeq hj
        subst hj
        cases h
        exact ⟨xrows_of xk_X5_isOf, fun _ => xm_X5_isOf⟩
      | false =>
        rw [hA, cond_false] at h
        obtain ⟨hj, h⟩ := xMbif h
        have hj := xbeq hj
        subst hj
        cases h
        exact ⟨xrows_of xk_X4_lastWithout, fun _ => xm_X4_lastWithout⟩
    | false =>
      rw [hA, cond_false] at h
      cases hA : Nat.blt k 47 with
      | true =>
        rw [hA, cond_true] at h
        obtain ⟨hj, h⟩ := xMbif h
        have hj := xbeq hj
        subst hj
        cases h
        exact ⟨xrows_of xk_X4_pointsFor, fun _ => xm_X4_pointsFor⟩
      | false =>
        rw [hA, cond_false] at h
        obtain ⟨hj, h⟩ := xMbif h
        have hj := xbeq hj
        subst hj
        cases h
        exact ⟨xrows_of xk_X4_foresight, fun _ => xm_X4_foresight⟩
theorem xMo_6 {k : Nat} {mt : xMt} (h : xM_6 k = some mt) : xMok k mt := by
  unfold xM_6 at h
  cases hA : Nat.blt k 52 with
  | true =>
    rw [hA, cond_true] at h
    cases hA : Nat.blt k 50 with
    | true =>
      rw [hA, cond_true] at h
      cases hA : Nat.blt k 49 with
      | true =>
        rw [hA, cond_true] at h
        obtain ⟨hj, h⟩ := xMbif h
        have hj := xbeq hj
        subst hj
        cases h
        exact ⟨xrows_of xk_X5_init, fun _ => xm_X5_init⟩
      | false =>
        rw [hA, cond_false] at h
        obtain ⟨hj, h⟩ := xMbif h
        have hj := xbeq hj
        subst hj
        cases h
        exact ⟨xrows_of xk_X5_isPlayer, fun _ => xm_X5_isPlayer⟩
    | false =>
      rw [hA, cond_false] at h
      cases hA : Nat.blt k 51 with
      | true =>
        rw [hA, cond_true] at h
        obtain ⟨hj, h⟩ := xMbif h
        have hj := xbeq hj
        subst hj
        cases h
        exact ⟨xrows_of xk_X5_isPair, fun _ => xm_X5_isPair⟩
      | false =>
        rw [hA, cond_false] at h
        obtain ⟨hj, h⟩ := xMbif h
        have hj := xbeq hj
        subst hj
        cases h
        exact ⟨xrows_of xk_X5_latestYear, fun _ => xm_X5_latestYear⟩
  | false =>
    rw [hA, cond_false] at h
    cases hA : Nat.blt k 54 with
    | true =>
      rw [hA, cond_true] at h
      cases hA : Nat.blt k 53 with
      | true =>
        rw [hA, cond_true] at h
        obtain ⟨hj, h⟩ := xMbif h
        have hj := xbeq hj
        subst hj
        cases h
        exact ⟨xrows_of xk_X5_addMeeting, fun _ => xm_X5_addMeeting⟩
      | false =>
        rw [hA, cond_false] at h
        obtain ⟨hj, h⟩ := xMbif h
        have hj := xbeq hj
        subst hj
        cases h
        exact ⟨xrows_of xk_X5_saying, fun _ => xm_X5_saying⟩
    | false =>
      rw [hA, cond_false] at h
      cases hA : Nat.blt k 55 with
      | true =>
        rw [hA, cond_true] at h
        obtain ⟨hj, h⟩ := xMbif h
        have hj := xbeq hj
        subst hj
        cases h
        exact ⟨xrows_of xk_X5_otherOf, fun _ => xm_X5_otherOf⟩
      | false =>
        rw [hA, cond_false] at h
        obtain ⟨hj, h⟩ := xMbif h
        have hj := xbeq hj
        subst hj
        cases h
        exact ⟨xrows_of xk_X5_whoMet, fun _ => xm_X5_whoMet⟩
theorem xMo_7 {k : Nat} {mt : xMt} (h : xM_7 k = some mt) : xMok k mt := by
  unfold xM_7 at h
  cases hA : Nat.blt k 60 with
  | true =>
    rw [hA, cond_true] at h
    cases hA : Nat.blt k 58 with
    | true =>
      rw [hA, cond_true] at h
      cases hA : Nat.blt k 57 with
      | true =>
        rw [hA, cond_true] at h
        obtain ⟨hj, h⟩ := xMbif h
        have hj := xbeq hj
        subst hj
        cases h
        exact ⟨xrows_of xk_X5_meetingsOf, fun _ => xm_X5_meetingsOf⟩
      | false =>
        rw [hA, cond_false] at h
        obtain ⟨hj, h⟩ := xMbif h
        have hj := xbeq hj
        subst hj
        cases h
        exact ⟨xrows_of xk_X5_evenMeetingsOf, fun _ => xm_X5_evenMeetingsOf⟩
    | false =>
      rw [hA, cond_false] at h
      cases hA : Nat.blt k 59 with
      | true =>
        rw [hA, cond_true] at h
        obtain ⟨hj, h⟩ := xMbif h
        have hj := xbeq hj
        subst hj
        cases h
        exact ⟨xrows_of xk_X5_shapeOf, fun _ => xm_X5_shapeOf⟩
      | false =>
        rw [hA, cond_false] at h
        obtain ⟨hj, h⟩ := xMbif h
        have hj := xbeq hj
        subst hj
        cases h
        exact ⟨xrows_of xk_X5_rightOf, fun _ => xm_X5_rightOf⟩
  | false =>
    rw [hA, cond_false] at h
    cases hA : Nat.blt k 62 with
    | true =>
      rw [hA, cond_true] at h
      cases hA : Nat.blt k 61 with
      | true =>
        rw [hA, cond_true] at h
        obtain ⟨hj, h⟩ := xMbif h
        have hj := xbeq hj
        subst hj
        cases h
        exact ⟨xrows_of xk_X5_movesOf, fun _ => xm_X5_movesOf⟩
      | false =>
        rw [hA, cond_false] at h
        obtain ⟨hj, h⟩ := xMbif h
        have hj := xbeq hj
        subst hj
        cases h
        exact ⟨xrows_of xk_X5_take, fun _ => xm_X5_take⟩
    | false =>
      rw [hA, cond_false] at h
      cases hA : Nat.blt k 63 with
      | true =>
        rw [hA, cond_true] at h
        obtain ⟨hj, h⟩ := xMbif h
        have hj := xbeq hj
        subst hj
        cases h
        exact ⟨xrows_of xk_X5_digestedPlayers, fun _ => xm_X5_digestedPlayers⟩
      | false =>
        rw [hA, cond_false] at h
        obtain ⟨hj, h⟩ := xMbif h
        have hj := xbeq hj
        subst hj
        cases h
        exact ⟨xrows_of xk_X5_digestedMeetings, fun _ => xm_X5_digestedMeetings⟩
theorem xMo_8 {k : Nat} {mt : xMt} (h : xM_8 k = some mt) : xMok k mt := by
  unfold xM_8 at h
  cases hA : Nat.blt k 68 with
  | true =>
    rw [hA, cond_true] at h
    cases hA : Nat.blt k 66 with
    | true =>
      rw [hA, cond_true] at h
      cases hA : Nat.blt k 65 with
      | true =>
        rw [hA, cond_true] at h
        obtain ⟨hj, h⟩ := xMbif h
        have hj := xbeq hj
        subst hj
        cases h
        exact ⟨xrows_of xk_X5_digested, fun _ => xm_X5_digested⟩
      | false =>
        rw [hA, cond_false] at h
        obtain ⟨hj, h⟩ := xMbif h
        have hj := xbeq hj
        subst hj
        cases h
        exact ⟨xrows_of xk_X6_init, fun _ => xm_X6_init⟩
    | false =>
      rw [hA, cond_false] at h
      cases hA : Nat.blt k 67 with
      | true =>
        rw [hA, cond_true] at h
        obtain ⟨hj, h⟩ := xMbif h
        have hj := xbeq hj
        subst hj
        cases h
        exact ⟨xrows_of xk_X6_link, fun _ => xm_X6_link⟩
      | false =>
        rw [hA, cond_false] at h
        obtain ⟨hj, h⟩ := xMbif h
        have hj := xbeq hj
        subst hj
        cases h
        exact ⟨xrows_of xk_X6_measure, fun _ => xm_X6_measure⟩
  | false =>
    rw [hA, cond_false] at h
    cases hA : Nat.blt k 70 with
    | true =>
      rw [hA, cond_true] at h
      cases hA : Nat.blt k 69 with
      | true =>
        rw [hA, cond_true] at h
        obtain ⟨hj, h⟩ := xMbif h
        have hj := xbeq hj
        subst hj
        cases h
        exact ⟨xrows_of xk_X6_areJoined, fun _ => xm_X6_areJoined⟩
      | false =>
        rw [hA, cond_false] at h
        obtain ⟨hj, h⟩ := xMbif h
        have hj := xbeq hj
        subst hj
        cases h
        exact ⟨xrows_of xk_X6_leastMeasured, fun _ => xm_X6_leastMeasured⟩
    | false =>
      rw [hA, cond_false] at h
      cases hA : Nat.blt k 71 with
      | true =>
        rw [hA, cond_true] at h
        obtain ⟨hj, h⟩ := xMbif h
        have hj := xbeq hj
        subst hj
        cases h
        exact ⟨xrows_of xk_X6_islands, fun _ => xm_X6_islands⟩
      | false =>
        rw [hA, cond_false] at h
        obtain ⟨hj, h⟩ := xMbif h
        have hj := xbeq hj
        subst hj
        cases h
        exact ⟨xrows_of xk_X6_leastOf, fun _ => xm_X6_leastOf⟩
theorem xMo_9 {k : Nat} {mt : xMt} (h : xM_9 k = some mt) : xMok k mt := by
  unfold xM_9 at h
  cases hA : Nat.blt k 76 with
  | true =>
    rw [hA, cond_true] at h
    cases hA : Nat.blt k 74 with
    | true =>
      rw [hA, cond_true] at h
      cases hA : Nat.blt k 73 with
      | true =>
        rw [hA, cond_true] at h
        obtain ⟨hj, h⟩ := xMbif h
        have hj := xbeq hj
        subst hj
        cases h
        exact ⟨xrows_of xk_X6_length, fun _ => xm_X6_length⟩
      | false =>
        rw [hA, cond_false] at h
        obtain ⟨hj, h⟩ := xMbif h
        have hj := xbeq hj
        subst hj
        cases h
        exact ⟨xrows_of xk_X6_nearerThan, fun _ => xm_X6_nearerThan⟩
    | false =>
      rw [hA, cond_false] at h
      cases hA : Nat.blt k 75 with
      | true =>
        rw [hA, cond_true] at h
        obtain ⟨hj, h⟩ := xMbif h
        have hj := xbeq hj
        subst hj
        cases h
        exact ⟨xrows_of xk_X6_leastMeeting, fun _ => xm_X6_leastMeeting⟩
      | false =>
        rw [hA, cond_false] at h
        obtain ⟨hj, h⟩ := xMbif h
        have hj := xbeq hj
        subst hj
        cases h
        exact ⟨xrows_of xk_X6_meetingAt, fun _ => xm_X6_meetingAt⟩
  | false =>
    rw [hA, cond_false] at h
    cases hA : Nat.blt k 78 with
    | true =>
      rw [hA, cond_true] at h
      cases hA : Nat.blt k 77 with
      | true =>
        rw [hA, cond_true] at h
        obtain ⟨hj, h⟩ := xMbif h
        have hj := xbeq hj
        subst hj
        cases h
        exact ⟨xrows_of xk_X6_bridgeBits, fun _ => xm_X6_bridgeBits⟩
      | false =>
        rw [hA, cond_false] at h
        obtain ⟨hj, h⟩ := xMbif h
        have hj := xbeq hj
        subst hj
        cases h
        exact ⟨xrows_of xk_X7_init, fun _ => xm_X7_init⟩
    | false =>
      rw [hA, cond_false] at h
      cases hA : Nat.blt k 79 with
      | true =>
        rw [hA, cond_true] at h
        obtain ⟨hj, h⟩ := xMbif h
        have hj := xbeq hj
        subst hj
        cases h
        exact ⟨xrows_of xk_X7_readBounds, fun _ => xm_X7_readBounds⟩
      | false =>
        rw [hA, cond_false] at h
        obtain ⟨hj, h⟩ := xMbif h
        have hj := xbeq hj
        subst hj
        cases h
        exact ⟨xrows_of xk_X7_lower, fun _ => xm_X7_lower⟩
theorem xMo_10 {k : Nat} {mt : xMt} (h : xM_10 k = some mt) : xMok k mt := by
  unfold xM_10 at h
  cases hA : Nat.blt k 84 with
  | true =>
    rw [hA, cond_true] at h
    cases hA : Nat.blt k 82 with
    | true =>
      rw [hA, cond_true] at h
      cases hA : Nat.blt k 81 with
      | true =>
        rw [hA, cond_true] at h
        obtain ⟨hj, h⟩ := xMbif h
        have hj := xbeq hj
        subst hj
        cases h
        exact ⟨xrows_of xk_X7_tighten, fun _ => xm_X7_tighten⟩
      | false =>
        rw [hA, cond_false] at h
        obtain ⟨hj, h⟩ := xMbif h
        have hj := xbeq hj
        subst hj
        cases h
        exact ⟨xrows_of xk_X7_ringThrough, fun _ => xm_X7_ringThrough⟩
    | false =>
      rw [hA, cond_false] at h
      cases hA : Nat.blt k 83 with
      | true =>
        rw [hA, cond_true] at h
        obtain ⟨hj, h⟩ := xMbif h
        have hj := xbeq hj
        subst hj
        cases h
        exact ⟨xrows_of xk_X7_ringOfVias, fun _ => xm_X7_ringOfVias⟩
      | false =>
        rw [hA, cond_false] at h
        obtain ⟨hj, h⟩ := xMbif h
        have hj := xbeq hj
        subst hj
        cases h
        exact ⟨xrows_of xk_X7_ringOf, fun _ => xm_X7_ringOf⟩
  | false =>
    rw [hA, cond_false] at h
    cases hA : Nat.blt k 86 with
    | true =>
      rw [hA, cond_true] at h
      cases hA : Nat.blt k 85 with
      | true =>
        rw [hA, cond_true] at h
        obtain ⟨hj, h⟩ := xMbif h
        have hj := xbeq hj
        subst hj
        cases h
        exact ⟨xrows_of xk_X7_agree, fun _ => xm_X7_agree⟩
      | false =>
        rw [hA, cond_false] at h
        obtain ⟨hj, h⟩ := xMbif h
        have hj := xbeq hj
        subst hj
        cases h
        exact ⟨xrows_of xk_X7_greatest, fun _ => xm_X7_greatest⟩
    | false =>
      rw [hA, cond_false] at h
      cases hA : Nat.blt k 87 with
      | true =>
        rw [hA, cond_true] at h
        obtain ⟨hj, h⟩ := xMbif h
        have hj := xbeq hj
        subst hj
        cases h
        exact ⟨xrows_of xk_X7_ringsApart, fun _ => xm_X7_ringsApart⟩
      | false =>
        rw [hA, cond_false] at h
        obtain ⟨hj, h⟩ := xMbif h
        have hj := xbeq hj
        subst hj
        cases h
        exact ⟨xrows_of xk_X7_leaveOut, fun _ => xm_X7_leaveOut⟩
theorem xMo_11 {k : Nat} {mt : xMt} (h : xM_11 k = some mt) : xMok k mt := by
  unfold xM_11 at h
  cases hA : Nat.blt k 92 with
  | true =>
    rw [hA, cond_true] at h
    cases hA : Nat.blt k 90 with
    | true =>
      rw [hA, cond_true] at h
      cases hA : Nat.blt k 89 with
      | true =>
        rw [hA, cond_true] at h
        obtain ⟨hj, h⟩ := xMbif h
        have hj := xbeq hj
        subst hj
        cases h
        exact ⟨xrows_of xk_X7_leastLeftOut, fun _ => xm_X7_leastLeftOut⟩
      | false =>
        rw [hA, cond_false] at h
        obtain ⟨hj, h⟩ := xMbif h
        have hj := xbeq hj
        subst hj
        cases h
        exact ⟨xrows_of xk_X8_init, fun _ => xm_X8_init⟩
    | false =>
      rw [hA, cond_false] at h
      cases hA : Nat.blt k 91 with
      | true =>
        rw [hA, cond_true] at h
        obtain ⟨hj, h⟩ := xMbif h
        have hj := xbeq hj
        subst hj
        cases h
        exact ⟨xrows_of xk_X8_readWins, fun _ => xm_X8_readWins⟩
      | false =>
        rw [hA, cond_false] at h
        obtain ⟨hj, h⟩ := xMbif h
        have hj := xbeq hj
        subst hj
        cases h
        exact ⟨xrows_of xk_X8_winsOf, fun _ => xm_X8_winsOf⟩
  | false =>
    rw [hA, cond_false] at h
    cases hA : Nat.blt k 94 with
    | true =>
      rw [hA, cond_true] at h
      cases hA : Nat.blt k 93 with
      | true =>
        rw [hA, cond_true] at h
        obtain ⟨hj, h⟩ := xMbif h
        have hj := xbeq hj
        subst hj
        cases h
        exact ⟨xrows_of xk_X8_ring, fun _ => xm_X8_ring⟩
      | false =>
        rw [hA, cond_false] at h
        obtain ⟨hj, h⟩ := xMbif h
        have hj := xbeq hj
        subst hj
        cases h
        exact ⟨xrows_of xk_X8_rings, fun _ => xm_X8_rings⟩
    | false =>
      rw [hA, cond_false] at h
      cases hA : Nat.blt k 95 with
      | true =>
        rw [hA, cond_true] at h
        obtain ⟨hj, h⟩ := xMbif h
        have hj := xbeq hj
        subst hj
        cases h
        exact ⟨xrows_of xk_X8_readRest, fun _ => xm_X8_readRest⟩
      | false =>
        rw [hA, cond_false] at h
        obtain ⟨hj, h⟩ := xMbif h
        have hj := xbeq hj
        subst hj
        cases h
        exact ⟨xrows_of xk_X8_readGain, fun _ => xm_X8_readGain⟩
theorem xMo_12 {k : Nat} {mt : xMt} (h : xM_12 k = some mt) : xMok k mt := by
  unfold xM_12 at h
  cases hA : Nat.blt k 100 with
  | true =>
    rw [hA, cond_true] at h
    cases hA : Nat.blt k 98 with
    | true =>
      rw [hA, cond_true] at h
      cases hA : Nat.blt k 97 with
      | true =>
        rw [hA, cond_true] at h
        obtain ⟨hj, h⟩ := xMbif h
        have hj := xbeq hj
        subst hj
        cases h
        exact ⟨xrows_of xk_X8_giveWay, fun _ => xm_X8_giveWay⟩
      | false =>
        rw [hA, cond_false] at h
        obtain ⟨hj, h⟩ := xMbif h
        have hj := xbeq hj
        subst hj
        cases h
        exact ⟨xrows_of xk_X8_explain, fun _ => xm_X8_explain⟩
    | false =>
      rw [hA, cond_false] at h
      cases hA : Nat.blt k 99 with
      | true =>
        rw [hA, cond_true] at h
        obtain ⟨hj, h⟩ := xMbif h
        have hj := xbeq hj
        subst hj
        cases h
        exact ⟨xrows_of xk_X9_init, fun _ => xm_X9_init⟩
      | false =>
        rw [hA, cond_false] at h
        obtain ⟨hj, h⟩ := xMbif h
        have hj := xbeq hj
        subst hj
        cases h
        exact ⟨xrows_of xk_X9_player, fun _ => xm_X9_player⟩
  | false =>
    rw [hA, cond_false] at h
    cases hA : Nat.blt k 102 with
    | true =>
      rw [hA, cond_true] at h
      cases hA : Nat.blt k 101 with
      | true =>
        rw [hA, cond_true] at h
        obtain ⟨hj, h⟩ := xMbif h
        have hj := xbeq hj
        subst hj
        cases h
        exact ⟨xrows_of xk_X9_within, fun _ => xm_X9_within⟩
      | false =>
        rw [hA, cond_false] at h
        obtain ⟨hj, h⟩ := xMbif h
        have hj := xbeq hj
        subst hj
        cases h
        exact ⟨xrows_of xk_X9_isYear, fun _ => xm_X9_isYear⟩
    | false =>
      rw [hA, cond_false] at h
      cases hA : Nat.blt k 103 with
      | true =>
        rw [hA, cond_true] at h
        obtain ⟨hj, h⟩ := xMbif h
        have hj := xbeq hj
        subst hj
        cases h
        exact ⟨xrows_of xk_X9_meeting, fun _ => xm_X9_meeting⟩
      | false =>
        rw [hA, cond_false] at h
        obtain ⟨hj, h⟩ := xMbif h
        have hj := xbeq hj
        subst hj
        cases h
        exact ⟨xrows_of xk_X9_mark, fun _ => xm_X9_mark⟩
theorem xMo_13 {k : Nat} {mt : xMt} (h : xM_13 k = some mt) : xMok k mt := by
  unfold xM_13 at h
  cases hA : Nat.blt k 108 with
  | true =>
    rw [hA, cond_true] at h
    cases hA : Nat.blt k 106 with
    | true =>
      rw [hA, cond_true] at h
      cases hA : Nat.blt k 105 with
      | true =>
        rw [hA, cond_true] at h
        obtain ⟨hj, h⟩ := xMbif h
        have hj := xbeq hj
        subst hj
        cases h
        exact ⟨xrows_of xk_X9_isSystem, fun _ => xm_X9_isSystem⟩
      | false =>
        rw [hA, cond_false] at h
        obtain ⟨hj, h⟩ := xMbif h
        have hj := xbeq hj
        subst hj
        cases h
        exact ⟨xrows_of xk_X9_first, fun _ => xm_X9_first⟩
    | false =>
      rw [hA, cond_false] at h
      cases hA : Nat.blt k 107 with
      | true =>
        rw [hA, cond_true] at h
        obtain ⟨hj, h⟩ := xMbif h
        have hj := xbeq hj
        subst hj
        cases h
        exact ⟨xrows_of xk_X9_write, fun _ => xm_X9_write⟩
      | false =>
        rw [hA, cond_false] at h
        obtain ⟨hj, h⟩ := xMbif h
        have hj := xbeq hj
        subst hj
        cases h
        exact ⟨xrows_of xk_X9_erase, fun _ => xm_X9_erase⟩
  | false =>
    rw [hA, cond_false] at h
    cases hA : Nat.blt k 110 with
    | true =>
      rw [hA, cond_true] at h
      cases hA : Nat.blt k 109 with
      | true =>
        rw [hA, cond_true] at h
        obtain ⟨hj, h⟩ := xMbif h
        have hj := xbeq hj
        subst hj
        cases h
        exact ⟨xrows_of xk_X9_fault, fun _ => xm_X9_fault⟩
      | false =>
        rw [hA, cond_false] at h
        obtain ⟨hj, h⟩ := xMbif h
        have hj := xbeq hj
        subst hj
        cases h
        exact ⟨xrows_of xk_X9_number, fun _ => xm_X9_number⟩
    | false =>
      rw [hA, cond_false] at h
      cases hA : Nat.blt k 111 with
      | true =>
        rw [hA, cond_true] at h
        obtain ⟨hj, h⟩ := xMbif h
        have hj := xbeq hj
        subst hj
        cases h
        exact ⟨xrows_of xk_X9_paid, fun _ => xm_X9_paid⟩
      | false =>
        rw [hA, cond_false] at h
        obtain ⟨hj, h⟩ := xMbif h
        have hj := xbeq hj
        subst hj
        cases h
        exact ⟨xrows_of xk_X9_creep, fun _ => xm_X9_creep⟩
theorem xMo_14 {k : Nat} {mt : xMt} (h : xM_14 k = some mt) : xMok k mt := by
  unfold xM_14 at h
  cases hA : Nat.blt k 116 with
  | true =>
    rw [hA, cond_true] at h
    cases hA : Nat.blt k 114 with
    | true =>
      rw [hA, cond_true] at h
      cases hA : Nat.blt k 113 with
      | true =>
        rw [hA, cond_true] at h
        obtain ⟨hj, h⟩ := xMbif h
        have hj := xbeq hj
        subst hj
        cases h
        exact ⟨xrows_of xk_X9_hiding, fun _ => xm_X9_hiding⟩
      | false =>
        rw [hA, cond_false] at h
        obtain ⟨hj, h⟩ := xMbif h
        have hj := xbeq hj
        subst hj
        cases h
        exact ⟨xrows_of xk_X9_foretold, fun _ => xm_X9_foretold⟩
    | false =>
      rw [hA, cond_false] at h
      cases hA : Nat.blt k 115 with
      | true =>
        rw [hA, cond_true] at h
        obtain ⟨hj, h⟩ := xMbif h
        have hj := xbeq hj
        subst hj
        cases h
        exact ⟨xrows_of xk_X9_bestSystem, fun _ => xm_X9_bestSystem⟩
      | false =>
        rw [hA, cond_false] at h
        obtain ⟨hj, h⟩ := xMbif h
        have hj := xbeq hj
        subst hj
        cases h
        exact ⟨xrows_of xk_X9_shape, fun _ => xm_X9_shape⟩
  | false =>
    rw [hA, cond_false] at h
    cases hA : Nat.blt k 118 with
    | true =>
      rw [hA, cond_true] at h
      cases hA : Nat.blt k 117 with
      | true =>
        rw [hA, cond_true] at h
        obtain ⟨hj, h⟩ := xMbif h
        have hj := xbeq hj
        subst hj
        cases h
        exact ⟨xrows_of xk_X9_wide, fun _ => xm_X9_wide⟩
      | false =>
        rw [hA, cond_false] at h
        obtain ⟨hj, h⟩ := xMbif h
        have hj := xbeq hj
        subst hj
        cases h
        exact ⟨xrows_of xk_X9_quarrel, fun _ => xm_X9_quarrel⟩
    | false =>
      rw [hA, cond_false] at h
      cases hA : Nat.blt k 119 with
      | true =>
        rw [hA, cond_true] at h
        obtain ⟨hj, h⟩ := xMbif h
        have hj := xbeq hj
        subst hj
        cases h
        exact ⟨xrows_of xk_X9_span, fun _ => xm_X9_span⟩
      | false =>
        rw [hA, cond_false] at h
        obtain ⟨hj, h⟩ := xMbif h
        have hj := xbeq hj
        subst hj
        cases h
        exact ⟨xrows_of xk_X9_fewest, fun _ => xm_X9_fewest⟩
theorem xMo_15 {k : Nat} {mt : xMt} (h : xM_15 k = some mt) : xMok k mt := by
  unfold xM_15 at h
  cases hA : Nat.blt k 124 with
  | true =>
    rw [hA, cond_true] at h
    cases hA : Nat.blt k 122 with
    | true =>
      rw [hA, cond_true] at h
      cases hA : Nat.blt k 121 with
      | true =>
        rw [hA, cond_true] at h
        obtain ⟨hj, h⟩ := xMbif h
        have hj := xbeq hj
        subst hj
        cases h
        exact ⟨xrows_of xk_X9_island, fun _ => xm_X9_island⟩
      | false =>
        rw [hA, cond_false] at h
        obtain ⟨hj, h⟩ := xMbif h
        have hj := xbeq hj
        subst hj
        cases h
        exact ⟨xrows_of xk_X9_rope, fun _ => xm_X9_rope⟩
    | false =>
      rw [hA, cond_false] at h
      cases hA : Nat.blt k 123 with
      | true =>
        rw [hA, cond_true] at h
        obtain ⟨hj, h⟩ := xMbif h
        have hj := xbeq hj
        subst hj
        cases h
        exact ⟨xrows_of xk_X9_bridges, fun _ => xm_X9_bridges⟩
      | false =>
        rw [hA, cond_false] at h
        obtain ⟨hj, h⟩ := xMbif h
        have hj := xbeq hj
        subst hj
        cases h
        exact ⟨xrows_of xk_X9_best, fun _ => xm_X9_best⟩
  | false =>
    rw [hA, cond_false] at h
    cases hA : Nat.blt k 126 with
    | true =>
      rw [hA, cond_true] at h
      cases hA : Nat.blt k 125 with
      | true =>
        rw [hA, cond_true] at h
        obtain ⟨hj, h⟩ := xMbif h
        have hj := xbeq hj
        subst hj
        cases h
        exact ⟨xrows_of xk_X9_rounds, fun _ => xm_X9_rounds⟩
      | false =>
        rw [hA, cond_false] at h
        obtain ⟨hj, h⟩ := xMbif h
        have hj := xbeq hj
        subst hj
        cases h
        exact ⟨xrows_of xk_X9_ways, fun _ => xm_X9_ways⟩
    | false =>
      rw [hA, cond_false] at h
      cases hA : Nat.blt k 127 with
      | true =>
        rw [hA, cond_true] at h
        obtain ⟨hj, h⟩ := xMbif h
        have hj := xbeq hj
        subst hj
        cases h
        exact ⟨xrows_of xk_X9_even, fun _ => xm_X9_even⟩
      | false =>
        rw [hA, cond_false] at h
        obtain ⟨hj, h⟩ := xMbif h
        have hj := xbeq hj
        subst hj
        cases h
        exact ⟨xrows_of xk_X9_looked, fun _ => xm_X9_looked⟩
theorem xMo_16 {k : Nat} {mt : xMt} (h : xM_16 k = some mt) : xMok k mt := by
  unfold xM_16 at h
  cases hA : Nat.blt k 132 with
  | true =>
    rw [hA, cond_true] at h
    cases hA : Nat.blt k 130 with
    | true =>
      rw [hA, cond_true] at h
      cases hA : Nat.blt k 129 with
      | true =>
        rw [hA, cond_true] at h
        obtain ⟨hj, h⟩ := xMbif h
        have hj := xbeq hj
        subst hj
        cases h
        exact ⟨xrows_of xk_X9_isClass, fun _ => xm_X9_isClass⟩
      | false =>
        rw [hA, cond_false] at h
        obtain ⟨hj, h⟩ := xMbif h
        have hj := xbeq hj
        subst hj
        cases h
        exact ⟨xrows_of xk_X9_moves, fun _ => xm_X9_moves⟩
    | false =>
      rw [hA, cond_false] at h
      cases hA : Nat.blt k 131 with
      | true =>
        rw [hA, cond_true] at h
        obtain ⟨hj, h⟩ := xMbif h
        have hj := xbeq hj
        subst hj
        cases h
        exact ⟨xrows_of xk_X9_weight, fun _ => xm_X9_weight⟩
      | false =>
        rw [hA, cond_false] at h
        obtain ⟨hj, h⟩ := xMbif h
        have hj := xbeq hj
        subst hj
        cases h
        exact ⟨xrows_of xk_X9_putRight, fun _ => xm_X9_putRight⟩
  | false =>
    rw [hA, cond_false] at h
    cases hA : Nat.blt k 134 with
    | true =>
      rw [hA, cond_true] at h
      cases hA : Nat.blt k 133 with
      | true =>
        rw [hA, cond_true] at h
        obtain ⟨hj, h⟩ := xMbif h
        have hj := xbeq hj
        subst hj
        cases h
        exact ⟨xrows_of xk_X9_share, fun _ => xm_X9_share⟩
      | false =>
        rw [hA, cond_false] at h
        obtain ⟨hj, h⟩ := xMbif h
        have hj := xbeq hj
        subst hj
        cases h
        exact ⟨xrows_of xk_X9_part, fun _ => xm_X9_part⟩
    | false =>
      rw [hA, cond_false] at h
      cases hA : Nat.blt k 135 with
      | true =>
        rw [hA, cond_true] at h
        obtain ⟨hj, h⟩ := xMbif h
        have hj := xbeq hj
        subst hj
        cases h
        exact ⟨xrows_of xk_X9_image, fun _ => xm_X9_image⟩
      | false =>
        rw [hA, cond_false] at h
        obtain ⟨hj, h⟩ := xMbif h
        have hj := xbeq hj
        subst hj
        cases h
        exact ⟨xrows_of xk_X9_from, fun _ => xm_X9_from⟩
theorem xMo_17 {k : Nat} {mt : xMt} (h : xM_17 k = some mt) : xMok k mt := by
  unfold xM_17 at h
  cases hA : Nat.blt k 140 with
  | true =>
    rw [hA, cond_true] at h
    cases hA : Nat.blt k 138 with
    | true =>
      rw [hA, cond_true] at h
      cases hA : Nat.blt k 137 with
      | true =>
        rw [hA, cond_true] at h
        obtain ⟨hj, h⟩ := xMbif h
        have hj := xbeq hj
        subst hj
        cases h
        exact ⟨xrows_of xk_J13_bitCount_95d88, fun _ => xm_J13_bitCount_95d88⟩
      | false =>
        rw [hA, cond_false] at h
        obtain ⟨hj, h⟩ := xMbif h
        have hj := xbeq hj
        subst hj
        cases h
        exact ⟨xrows_of xk_X9_count, fun _ => xm_X9_count⟩
    | false =>
      rw [hA, cond_false] at h
      cases hA : Nat.blt k 139 with
      | true =>
        rw [hA, cond_true] at h
        obtain ⟨hj, h⟩ := xMbif h
        have hj := xbeq hj
        subst hj
        cases h
        exact ⟨xrows_of xk_X9_digest, fun _ => xm_X9_digest⟩
      | false =>
        rw [hA, cond_false] at h
        obtain ⟨hj, h⟩ := xMbif h
        have hj := xbeq hj
        subst hj
        cases h
        exact ⟨xrows_of xk_X10_init, fun _ => xm_X10_init⟩
  | false =>
    rw [hA, cond_false] at h
    cases hA : Nat.blt k 142 with
    | true =>
      rw [hA, cond_true] at h
      cases hA : Nat.blt k 141 with
      | true =>
        rw [hA, cond_true] at h
        obtain ⟨hj, h⟩ := xMbif h
        have hj := xbeq hj
        subst hj
        cases h
        exact ⟨xrows_of xk_X10_in, fun _ => xm_X10_in⟩
      | false =>
        rw [hA, cond_false] at h
        obtain ⟨hj, h⟩ := xMbif h
        have hj := xbeq hj
        subst hj
        cases h
        exact ⟨xrows_of xk_X10_players, fun _ => xm_X10_players⟩
    | false =>
      rw [hA, cond_false] at h
      cases hA : Nat.blt k 143 with
      | true =>
        rw [hA, cond_true] at h
        obtain ⟨hj, h⟩ := xMbif h
        have hj := xbeq hj
        subst hj
        cases h
        exact ⟨xrows_of xk_X10_meetings, fun _ => xm_X10_meetings⟩
      | false =>
        rw [hA, cond_false] at h
        obtain ⟨hj, h⟩ := xMbif h
        have hj := xbeq hj
        subst hj
        cases h
        exact ⟨xrows_of xk_X10_isPlayer, fun _ => xm_X10_isPlayer⟩
theorem xMo_18 {k : Nat} {mt : xMt} (h : xM_18 k = some mt) : xMok k mt := by
  unfold xM_18 at h
  cases hA : Nat.blt k 148 with
  | true =>
    rw [hA, cond_true] at h
    cases hA : Nat.blt k 146 with
    | true =>
      rw [hA, cond_true] at h
      cases hA : Nat.blt k 145 with
      | true =>
        rw [hA, cond_true] at h
        obtain ⟨hj, h⟩ := xMbif h
        have hj := xbeq hj
        subst hj
        cases h
        exact ⟨xrows_of xk_X10_of, fun _ => xm_X10_of⟩
      | false =>
        rw [hA, cond_false] at h
        obtain ⟨hj, h⟩ := xMbif h
        have hj := xbeq hj
        subst hj
        cases h
        exact ⟨xrows_of xk_X10_player, fun _ => xm_X10_player⟩
    | false =>
      rw [hA, cond_false] at h
      cases hA : Nat.blt k 147 with
      | true =>
        rw [hA, cond_true] at h
        obtain ⟨hj, h⟩ := xMbif h
        have hj := xbeq hj
        subst hj
        cases h
        exact ⟨xrows_of xk_X10_meeting, fun _ => xm_X10_meeting⟩
      | false =>
        rw [hA, cond_false] at h
        obtain ⟨hj, h⟩ := xMbif h
        have hj := xbeq hj
        subst hj
        cases h
        exact ⟨xrows_of xk_X10_mark, fun _ => xm_X10_mark⟩
  | false =>
    rw [hA, cond_false] at h
    cases hA : Nat.blt k 150 with
    | true =>
      rw [hA, cond_true] at h
      cases hA : Nat.blt k 149 with
      | true =>
        rw [hA, cond_true] at h
        obtain ⟨hj, h⟩ := xMbif h
        have hj := xbeq hj
        subst hj
        cases h
        exact ⟨xrows_of xk_X10_isFour, fun _ => xm_X10_isFour⟩
      | false =>
        rw [hA, cond_false] at h
        obtain ⟨hj, h⟩ := xMbif h
        have hj := xbeq hj
        subst hj
        cases h
        exact ⟨xrows_of xk_X10_first, fun _ => xm_X10_first⟩
    | false =>
      rw [hA, cond_false] at h
      cases hA : Nat.blt k 151 with
      | true =>
        rw [hA, cond_true] at h
        obtain ⟨hj, h⟩ := xMbif h
        have hj := xbeq hj
        subst hj
        cases h
        exact ⟨xrows_of xk_X10_write, fun _ => xm_X10_write⟩
      | false =>
        rw [hA, cond_false] at h
        obtain ⟨hj, h⟩ := xMbif h
        have hj := xbeq hj
        subst hj
        cases h
        exact ⟨xrows_of xk_X10_erase, fun _ => xm_X10_erase⟩
theorem xMo_19 {k : Nat} {mt : xMt} (h : xM_19 k = some mt) : xMok k mt := by
  unfold xM_19 at h
  cases hA : Nat.blt k 156 with
  | true =>
    rw [hA, cond_true] at h
    cases hA : Nat.blt k 154 with
    | true =>
      rw [hA, cond_true] at h
      cases hA : Nat.blt k 153 with
      | true =>
        rw [hA, cond_true] at h
        obtain ⟨hj, h⟩ := xMbif h
        have hj := xbeq hj
        subst hj
        cases h
        exact ⟨xrows_of xk_X10_textLong, fun _ => xm_X10_textLong⟩
      | false =>
        rw [hA, cond_false] at h
        obtain ⟨hj, h⟩ := xMbif h
        have hj := xbeq hj
        subst hj
        cases h
        exact ⟨xrows_of xk_X10_charAt, fun _ => xm_X10_charAt⟩
    | false =>
      rw [hA, cond_false] at h
      cases hA : Nat.blt k 155 with
      | true =>
        rw [hA, cond_true] at h
        obtain ⟨hj, h⟩ := xMbif h
        have hj := xbeq hj
        subst hj
        cases h
        exact ⟨xrows_of xk_X10_ahead, fun _ => xm_X10_ahead⟩
      | false =>
        rw [hA, cond_false] at h
        obtain ⟨hj, h⟩ := xMbif h
        have hj := xbeq hj
        subst hj
        cases h
        exact ⟨xrows_of xk_X10_rank, fun _ => xm_X10_rank⟩
  | false =>
    rw [hA, cond_false] at h
    cases hA : Nat.blt k 158 with
    | true =>
      rw [hA, cond_true] at h
      cases hA : Nat.blt k 157 with
      | true =>
        rw [hA, cond_true] at h
        obtain ⟨hj, h⟩ := xMbif h
        have hj := xbeq hj
        subst hj
        cases h
        exact ⟨xrows_of xk_X10_works, fun _ => xm_X10_works⟩
      | false =>
        rw [hA, cond_false] at h
        obtain ⟨hj, h⟩ := xMbif h
        have hj := xbeq hj
        subst hj
        cases h
        exact ⟨xrows_of xk_X10_worksDown, fun _ => xm_X10_worksDown⟩
    | false =>
      rw [hA, cond_false] at h
      cases hA : Nat.blt k 159 with
      | true =>
        rw [hA, cond_true] at h
        obtain ⟨hj, h⟩ := xMbif h
        have hj := xbeq hj
        subst hj
        cases h
        exact ⟨xrows_of xk_X10_stands, fun _ => xm_X10_stands⟩
      | false =>
        rw [hA, cond_false] at h
        obtain ⟨hj, h⟩ := xMbif h
        have hj := xbeq hj
        subst hj
        cases h
        exact ⟨xrows_of xk_X10_nameOf, fun _ => xm_X10_nameOf⟩
theorem xMo_20 {k : Nat} {mt : xMt} (h : xM_20 k = some mt) : xMok k mt := by
  unfold xM_20 at h
  cases hA : Nat.blt k 164 with
  | true =>
    rw [hA, cond_true] at h
    cases hA : Nat.blt k 162 with
    | true =>
      rw [hA, cond_true] at h
      cases hA : Nat.blt k 161 with
      | true =>
        rw [hA, cond_true] at h
        obtain ⟨hj, h⟩ := xMbif h
        have hj := xbeq hj
        subst hj
        cases h
        exact ⟨xrows_of xk_X10_digits, fun _ => xm_X10_digits⟩
      | false =>
        rw [hA, cond_false] at h
        obtain ⟨hj, h⟩ := xMbif h
        have hj := xbeq hj
        subst hj
        cases h
        exact ⟨xrows_of xk_X10_reads, fun _ => xm_X10_reads⟩
    | false =>
      rw [hA, cond_false] at h
      cases hA : Nat.blt k 163 with
      | true =>
        rw [hA, cond_true] at h
        obtain ⟨hj, h⟩ := xMbif h
        have hj := xbeq hj
        subst hj
        cases h
        exact ⟨xrows_of xk_X10_isSound, fun _ => xm_X10_isSound⟩
      | false =>
        rw [hA, cond_false] at h
        obtain ⟨hj, h⟩ := xMbif h
        have hj := xbeq hj
        subst hj
        cases h
        exact ⟨xrows_of xk_X10_fault, fun _ => xm_X10_fault⟩
  | false =>
    rw [hA, cond_false] at h
    cases hA : Nat.blt k 166 with
    | true =>
      rw [hA, cond_true] at h
      cases hA : Nat.blt k 165 with
      | true =>
        rw [hA, cond_true] at h
        obtain ⟨hj, h⟩ := xMbif h
        have hj := xbeq hj
        subst hj
        cases h
        exact ⟨xrows_of xk_X10_begins, fun _ => xm_X10_begins⟩
      | false =>
        rw [hA, cond_false] at h
        obtain ⟨hj, h⟩ := xMbif h
        have hj := xbeq hj
        subst hj
        cases h
        exact ⟨xrows_of xk_X10_changeOf, fun _ => xm_X10_changeOf⟩
    | false =>
      rw [hA, cond_false] at h
      cases hA : Nat.blt k 167 with
      | true =>
        rw [hA, cond_true] at h
        obtain ⟨hj, h⟩ := xMbif h
        have hj := xbeq hj
        subst hj
        cases h
        exact ⟨xrows_of xk_X10_step, fun _ => xm_X10_step⟩
      | false =>
        rw [hA, cond_false] at h
        obtain ⟨hj, h⟩ := xMbif h
        have hj := xbeq hj
        subst hj
        cases h
        exact ⟨xrows_of xk_X10_goTo, fun _ => xm_X10_goTo⟩
theorem xMo_21 {k : Nat} {mt : xMt} (h : xM_21 k = some mt) : xMok k mt := by
  unfold xM_21 at h
  cases hA : Nat.blt k 172 with
  | true =>
    rw [hA, cond_true] at h
    cases hA : Nat.blt k 170 with
    | true =>
      rw [hA, cond_true] at h
      cases hA : Nat.blt k 169 with
      | true =>
        rw [hA, cond_true] at h
        obtain ⟨hj, h⟩ := xMbif h
        have hj := xbeq hj
        subst hj
        cases h
        exact ⟨xrows_of xk_X10_number, fun _ => xm_X10_number⟩
      | false =>
        rw [hA, cond_false] at h
        obtain ⟨hj, h⟩ := xMbif h
        have hj := xbeq hj
        subst hj
        cases h
        exact ⟨xrows_of xk_X10_isYear, fun _ => xm_X10_isYear⟩
    | false =>
      rw [hA, cond_false] at h
      cases hA : Nat.blt k 171 with
      | true =>
        rw [hA, cond_true] at h
        obtain ⟨hj, h⟩ := xMbif h
        have hj := xbeq hj
        subst hj
        cases h
        exact ⟨xrows_of xk_X10_paid, fun _ => xm_X10_paid⟩
      | false =>
        rw [hA, cond_false] at h
        obtain ⟨hj, h⟩ := xMbif h
        have hj := xbeq hj
        subst hj
        cases h
        exact ⟨xrows_of xk_X10_isIn, fun _ => xm_X10_isIn⟩
  | false =>
    rw [hA, cond_false] at h
    cases hA : Nat.blt k 174 with
    | true =>
      rw [hA, cond_true] at h
      cases hA : Nat.blt k 173 with
      | true =>
        rw [hA, cond_true] at h
        obtain ⟨hj, h⟩ := xMbif h
        have hj := xbeq hj
        subst hj
        cases h
        exact ⟨xrows_of xk_X10_hasMet, fun _ => xm_X10_hasMet⟩
      | false =>
        rw [hA, cond_false] at h
        obtain ⟨hj, h⟩ := xMbif h
        have hj := xbeq hj
        subst hj
        cases h
        exact ⟨xrows_of xk_X10_tell, fun _ => xm_X10_tell⟩
    | false =>
      rw [hA, cond_false] at h
      cases hA : Nat.blt k 175 with
      | true =>
        rw [hA, cond_true] at h
        obtain ⟨hj, h⟩ := xMbif h
        have hj := xbeq hj
        subst hj
        cases h
        exact ⟨xrows_of xk_X10_creep, fun _ => xm_X10_creep⟩
      | false =>
        rw [hA, cond_false] at h
        obtain ⟨hj, h⟩ := xMbif h
        have hj := xbeq hj
        subst hj
        cases h
        exact ⟨xrows_of xk_X10_hiding, fun _ => xm_X10_hiding⟩
theorem xMo_22 {k : Nat} {mt : xMt} (h : xM_22 k = some mt) : xMok k mt := by
  unfold xM_22 at h
  cases hA : Nat.blt k 180 with
  | true =>
    rw [hA, cond_true] at h
    cases hA : Nat.blt k 178 with
    | true =>
      rw [hA, cond_true] at h
      cases hA : Nat.blt k 177 with
      | true =>
        rw [hA, cond_true] at h
        obtain ⟨hj, h⟩ := xMbif h
        have hj := xbeq hj
        subst hj
        cases h
        exact ⟨xrows_of xk_X10_foretells, fun _ => xm_X10_foretells⟩
      | false =>
        rw [hA, cond_false] at h
        obtain ⟨hj, h⟩ := xMbif h
        have hj := xbeq hj
        subst hj
        cases h
        exact ⟨xrows_of xk_X10_foretold, fun _ => xm_X10_foretold⟩
    | false =>
      rw [hA, cond_false] at h
      cases hA : Nat.blt k 179 with
      | true =>
        rw [hA, cond_true] at h
        obtain ⟨hj, h⟩ := xMbif h
        have hj := xbeq hj
        subst hj
        cases h
        exact ⟨xrows_of xk_X10_bestSystem, fun _ => xm_X10_bestSystem⟩
      | false =>
        rw [hA, cond_false] at h
        obtain ⟨hj, h⟩ := xMbif h
        have hj := xbeq hj
        subst hj
        cases h
        exact ⟨xrows_of xk_X10_shape, fun _ => xm_X10_shape⟩
  | false =>
    rw [hA, cond_false] at h
    cases hA : Nat.blt k 182 with
    | true =>
      rw [hA, cond_true] at h
      cases hA : Nat.blt k 181 with
      | true =>
        rw [hA, cond_true] at h
        obtain ⟨hj, h⟩ := xMbif h
        have hj := xbeq hj
        subst hj
        cases h
        exact ⟨xrows_of xk_X10_wide, fun _ => xm_X10_wide⟩
      | false =>
        rw [hA, cond_false] at h
        obtain ⟨hj, h⟩ := xMbif h
        have hj := xbeq hj
        subst hj
        cases h
        exact ⟨xrows_of xk_X10_doesSay, fun _ => xm_X10_doesSay⟩
    | false =>
      rw [hA, cond_false] at h
      cases hA : Nat.blt k 183 with
      | true =>
        rw [hA, cond_true] at h
        obtain ⟨hj, h⟩ := xMbif h
        have hj := xbeq hj
        subst hj
        cases h
        exact ⟨xrows_of xk_X10_shapeOf, fun _ => xm_X10_shapeOf⟩
      | false =>
        rw [hA, cond_false] at h
        obtain ⟨hj, h⟩ := xMbif h
        have hj := xbeq hj
        subst hj
        cases h
        exact ⟨xrows_of xk_X10_bound, fun _ => xm_X10_bound⟩
theorem xMo_23 {k : Nat} {mt : xMt} (h : xM_23 k = some mt) : xMok k mt := by
  unfold xM_23 at h
  cases hA : Nat.blt k 188 with
  | true =>
    rw [hA, cond_true] at h
    cases hA : Nat.blt k 186 with
    | true =>
      rw [hA, cond_true] at h
      cases hA : Nat.blt k 185 with
      | true =>
        rw [hA, cond_true] at h
        obtain ⟨hj, h⟩ := xMbif h
        have hj := xbeq hj
        subst hj
        cases h
        exact ⟨xrows_of xk_X10_agree, fun _ => xm_X10_agree⟩
      | false =>
        rw [hA, cond_false] at h
        obtain ⟨hj, h⟩ := xMbif h
        have hj := xbeq hj
        subst hj
        cases h
        exact ⟨xrows_of xk_X10_quarrel, fun _ => xm_X10_quarrel⟩
    | false =>
      rw [hA, cond_false] at h
      cases hA : Nat.blt k 187 with
      | true =>
        rw [hA, cond_true] at h
        obtain ⟨hj, h⟩ := xMbif h
        have hj := xbeq hj
        subst hj
        cases h
        exact ⟨xrows_of xk_X10_span, fun _ => xm_X10_span⟩
      | false =>
        rw [hA, cond_false] at h
        obtain ⟨hj, h⟩ := xMbif h
        have hj := xbeq hj
        subst hj
        cases h
        exact ⟨xrows_of xk_X10_fewest, fun _ => xm_X10_fewest⟩
  | false =>
    rw [hA, cond_false] at h
    cases hA : Nat.blt k 190 with
    | true =>
      rw [hA, cond_true] at h
      cases hA : Nat.blt k 189 with
      | true =>
        rw [hA, cond_true] at h
        obtain ⟨hj, h⟩ := xMbif h
        have hj := xbeq hj
        subst hj
        cases h
        exact ⟨xrows_of xk_X10_goFrom, fun _ => xm_X10_goFrom⟩
      | false =>
        rw [hA, cond_false] at h
        obtain ⟨hj, h⟩ := xMbif h
        have hj := xbeq hj
        subst hj
        cases h
        exact ⟨xrows_of xk_X10_leastOf, fun _ => xm_X10_leastOf⟩
    | false =>
      rw [hA, cond_false] at h
      cases hA : Nat.blt k 191 with
      | true =>
        rw [hA, cond_true] at h
        obtain ⟨hj, h⟩ := xMbif h
        have hj := xbeq hj
        subst hj
        cases h
        exact ⟨xrows_of xk_X10_island, fun _ => xm_X10_island⟩
      | false =>
        rw [hA, cond_false] at h
        obtain ⟨hj, h⟩ := xMbif h
        have hj := xbeq hj
        subst hj
        cases h
        exact ⟨xrows_of xk_X10_rope, fun _ => xm_X10_rope⟩
theorem xMo_24 {k : Nat} {mt : xMt} (h : xM_24 k = some mt) : xMok k mt := by
  unfold xM_24 at h
  cases hA : Nat.blt k 196 with
  | true =>
    rw [hA, cond_true] at h
    cases hA : Nat.blt k 194 with
    | true =>
      rw [hA, cond_true] at h
      cases hA : Nat.blt k 193 with
      | true =>
        rw [hA, cond_true] at h
        obtain ⟨hj, h⟩ := xMbif h
        have hj := xbeq hj
        subst hj
        cases h
        exact ⟨xrows_of xk_X10_bridges, fun _ => xm_X10_bridges⟩
      | false =>
        rw [hA, cond_false] at h
        obtain ⟨hj, h⟩ := xMbif h
        have hj := xbeq hj
        subst hj
        cases h
        exact ⟨xrows_of xk_X10_findEnds, fun _ => xm_X10_findEnds⟩
    | false =>
      rw [hA, cond_false] at h
      cases hA : Nat.blt k 195 with
      | true =>
        rw [hA, cond_true] at h
        obtain ⟨hj, h⟩ := xMbif h
        have hj := xbeq hj
        subst hj
        cases h
        exact ⟨xrows_of xk_X10_findRun, fun _ => xm_X10_findRun⟩
      | false =>
        rw [hA, cond_false] at h
        obtain ⟨hj, h⟩ := xMbif h
        have hj := xbeq hj
        subst hj
        cases h
        exact ⟨xrows_of xk_X10_bestAbove, fun _ => xm_X10_bestAbove⟩
  | false =>
    rw [hA, cond_false] at h
    cases hA : Nat.blt k 198 with
    | true =>
      rw [hA, cond_true] at h
      cases hA : Nat.blt k 197 with
      | true =>
        rw [hA, cond_true] at h
        obtain ⟨hj, h⟩ := xMbif h
        have hj := xbeq hj
        subst hj
        cases h
        exact ⟨xrows_of xk_X10_best, fun _ => xm_X10_best⟩
      | false =>
        rw [hA, cond_false] at h
        obtain ⟨hj, h⟩ := xMbif h
        have hj := xbeq hj
        subst hj
        cases h
        exact ⟨xrows_of xk_X10_hasBeaten, fun _ => xm_X10_hasBeaten⟩
    | false =>
      rw [hA, cond_false] at h
      cases hA : Nat.blt k 199 with
      | true =>
        rw [hA, cond_true] at h
        obtain ⟨hj, h⟩ := xMbif h
        have hj := xbeq hj
        subst hj
        cases h
        exact ⟨xrows_of xk_X10_rounds, fun _ => xm_X10_rounds⟩
      | false =>
        rw [hA, cond_false] at h
        obtain ⟨hj, h⟩ := xMbif h
        have hj := xbeq hj
        subst hj
        cases h
        exact ⟨xrows_of xk_X10_ways, fun _ => xm_X10_ways⟩
theorem xMo_25 {k : Nat} {mt : xMt} (h : xM_25 k = some mt) : xMok k mt := by
  unfold xM_25 at h
  cases hA : Nat.blt k 204 with
  | true =>
    rw [hA, cond_true] at h
    cases hA : Nat.blt k 202 with
    | true =>
      rw [hA, cond_true] at h
      cases hA : Nat.blt k 201 with
      | true =>
        rw [hA, cond_true] at h
        obtain ⟨hj, h⟩ := xMbif h
        have hj := xbeq hj
        subst hj
        cases h
        exact ⟨xrows_of xk_X10_metOf, fun _ => xm_X10_metOf⟩
      | false =>
        rw [hA, cond_false] at h
        obtain ⟨hj, h⟩ := xMbif h
        have hj := xbeq hj
        subst hj
        cases h
        exact ⟨xrows_of xk_X10_power, fun _ => xm_X10_power⟩
    | false =>
      rw [hA, cond_false] at h
      cases hA : Nat.blt k 203 with
      | true =>
        rw [hA, cond_true] at h
        obtain ⟨hj, h⟩ := xMbif h
        have hj := xbeq hj
        subst hj
        cases h
        exact ⟨xrows_of xk_X10_even, fun _ => xm_X10_even⟩
      | false =>
        rw [hA, cond_false] at h
        obtain ⟨hj, h⟩ := xMbif h
        have hj := xbeq hj
        subst hj
        cases h
        exact ⟨xrows_of xk_X10_looked, fun _ => xm_X10_looked⟩
  | false =>
    rw [hA, cond_false] at h
    cases hA : Nat.blt k 206 with
    | true =>
      rw [hA, cond_true] at h
      cases hA : Nat.blt k 205 with
      | true =>
        rw [hA, cond_true] at h
        obtain ⟨hj, h⟩ := xMbif h
        have hj := xbeq hj
        subst hj
        cases h
        exact ⟨xrows_of xk_X10_moves, fun _ => xm_X10_moves⟩
      | false =>
        rw [hA, cond_false] at h
        obtain ⟨hj, h⟩ := xMbif h
        have hj := xbeq hj
        subst hj
        cases h
        exact ⟨xrows_of xk_X10_weight, fun _ => xm_X10_weight⟩
    | false =>
      rw [hA, cond_false] at h
      cases hA : Nat.blt k 207 with
      | true =>
        rw [hA, cond_true] at h
        obtain ⟨hj, h⟩ := xMbif h
        have hj := xbeq hj
        subst hj
        cases h
        exact ⟨xrows_of xk_X10_share, fun _ => xm_X10_share⟩
      | false =>
        rw [hA, cond_false] at h
        obtain ⟨hj, h⟩ := xMbif h
        have hj := xbeq hj
        subst hj
        cases h
        exact ⟨xrows_of xk_X10_part, fun _ => xm_X10_part⟩
theorem xMo_26 {k : Nat} {mt : xMt} (h : xM_26 k = some mt) : xMok k mt := by
  unfold xM_26 at h
  cases hA : Nat.blt k 210 with
  | true =>
    rw [hA, cond_true] at h
    cases hA : Nat.blt k 209 with
    | true =>
      rw [hA, cond_true] at h
      obtain ⟨hj, h⟩ := xMbif h
      have hj := xbeq hj
      subst hj
      cases h
      exact ⟨xrows_of xk_X10_image, fun _ => xm_X10_image⟩
    | false =>
      rw [hA, cond_false] at h
      obtain ⟨hj, h⟩ := xMbif h
      have hj := xbeq hj
      subst hj
      cases h
      exact ⟨xrows_of xk_X10_from, fun _ => xm_X10_from⟩
  | false =>
    rw [hA, cond_false] at h
    cases hA : Nat.blt k 211 with
    | true =>
      rw [hA, cond_true] at h
      obtain ⟨hj, h⟩ := xMbif h
      have hj := xbeq hj
      subst hj
      cases h
      exact ⟨xrows_of xk_X10_count, fun _ => xm_X10_count⟩
    | false =>
      rw [hA, cond_false] at h
      cases hA : Nat.blt k 212 with
      | true =>
        rw [hA, cond_true] at h
        obtain ⟨hj, h⟩ := xMbif h
        have hj := xbeq hj
        subst hj
        cases h
        exact ⟨xrows_of xk_X10_sums, fun _ => xm_X10_sums⟩
      | false =>
        rw [hA, cond_false] at h
        obtain ⟨hj, h⟩ := xMbif h
        have hj := xbeq hj
        subst hj
        cases h
        exact ⟨xrows_of xk_X10_digest, fun _ => xm_X10_digest⟩
theorem xMo {k : Nat} {mt : xMt} (h : xM k = some mt) : xMok k mt := by
  unfold xM at h
  cases hA : Nat.blt k 104 with
  | true =>
    rw [hA, cond_true] at h
    cases hA : Nat.blt k 48 with
    | true =>
      rw [hA, cond_true] at h
      cases hA : Nat.blt k 24 with
      | true =>
        rw [hA, cond_true] at h
        cases hA : Nat.blt k 8 with
        | true =>
          rw [hA, cond_true] at h
          exact xMo_0 h
        | false =>
          rw [hA, cond_false] at h
          cases hA : Nat.blt k 16 with
          | true =>
            rw [hA, cond_true] at h
            exact xMo_1 h
          | false =>
            rw [hA, cond_false] at h
            exact xMo_2 h
      | false =>
        rw [hA, cond_false] at h
        cases hA : Nat.blt k 32 with
        | true =>
          rw [hA, cond_true] at h
          exact xMo_3 h
        | false =>
          rw [hA, cond_false] at h
          cases hA : Nat.blt k 40 with
          | true =>
            rw [hA, cond_true] at h
            exact xMo_4 h
          | false =>
            rw [hA, cond_false] at h
            exact xMo_5 h
    | false =>
      rw [hA, cond_false] at h
      cases hA : Nat.blt k 72 with
      | true =>
        rw [hA, cond_true] at h
        cases hA : Nat.blt k 56 with
        | true =>
          rw [hA, cond_true] at h
          exact xMo_6 h
        | false =>
          rw [hA, cond_false] at h
          cases hA : Nat.blt k 64 with
          | true =>
            rw [hA, cond_true] at h
            exact xMo_7 h
          | false =>
            rw [hA, cond_false] at h
            exact xMo_8 h
      | false =>
        rw [hA, cond_false] at h
        cases hA : Nat.blt k 88 with
        | true =>
          rw [hA, cond_true] at h
          cases hA : Nat.blt k 80 with
          | true =>
            rw [hA, cond_true] at h
            exact xMo_9 h
          | false =>
            rw [hA, cond_false] at h
            exact xMo_10 h
        | false =>
          rw [hA, cond_false] at h
          cases hA : Nat.blt k 96 with
          | true =>
            rw [hA, cond_true] at h
            exact xMo_11 h
          | false =>
            rw [hA, cond_false] at h
            exact xMo_12 h
  | false =>
    rw [hA, cond_false] at h
    cases hA : Nat.blt k 160 with
    | true =>
      rw [hA, cond_true] at h
      cases hA : Nat.blt k 128 with
      | true =>
        rw [hA, cond_true] at h
        cases hA : Nat.blt k 112 with
        | true =>
          rw [hA, cond_true] at h
          exact xMo_13 h
        | false =>
          rw [hA, cond_false] at h
          cases hA : Nat.blt k 120 with
          | true =>
            rw [hA, cond_true] at h
            exact xMo_14 h
          | false =>
            rw [hA, cond_false] at h
            exact xMo_15 h
      | false =>
        rw [hA, cond_false] at h
        cases hA : Nat.blt k 144 with
        | true =>
          rw [hA, cond_true] at h
          cases hA : Nat.blt k 136 with
          | true =>
            rw [hA, cond_true] at h
            exact xMo_16 h
          | false =>
            rw [hA, cond_false] at h
            exact xMo_17 h
        | false =>
          rw [hA, cond_false] at h
          cases hA : Nat.blt k 152 with
          | true =>
            rw [hA, cond_true] at h
            exact xMo_18 h
          | false =>
            rw [hA, cond_false] at h
            exact xMo_19 h
    | false =>
      rw [hA, cond_false] at h
      cases hA : Nat.blt k 184 with
      | true =>
        rw [hA, cond_true] at h
        cases hA : Nat.blt k 168 with
        | true =>
          rw [hA, cond_true] at h
          exact xMo_20 h
        | false =>
          rw [hA, cond_false] at h
          cases hA : Nat.blt k 176 with
          | true =>
            rw [hA, cond_true] at h
            exact xMo_21 h
          | false =>
            rw [hA, cond_false] at h
            exact xMo_22 h
      | false =>
        rw [hA, cond_false] at h
        cases hA : Nat.blt k 200 with
        | true =>
          rw [hA, cond_true] at h
          cases hA : Nat.blt k 192 with
          | true =>
            rw [hA, cond_true] at h
            exact xMo_23 h
          | false =>
            rw [hA, cond_false] at h
            exact xMo_24 h
        | false =>
          rw [hA, cond_false] at h
          cases hA : Nat.blt k 208 with
          | true =>
            rw [hA, cond_true] at h
            exact xMo_25 h
          | false =>
            rw [hA, cond_false] at h
            exact xMo_26 h
theorem xci_0 : Jvm.Cond.instantiable RX1 7 ∈ xTb ∧ Jvm.Cond.initialized RX1 ∈ xTb := ⟨xAt_of 285 (by decide +kernel), xAt_of 78 (by decide +kernel)⟩
theorem xci_1 : Jvm.Cond.instantiable RX2 10 ∈ xTb ∧ Jvm.Cond.initialized RX2 ∈ xTb := ⟨xAt_of 224 (by decide +kernel), xAt_of 77 (by decide +kernel)⟩
theorem xci_2 : Jvm.Cond.instantiable RX3 2 ∈ xTb ∧ Jvm.Cond.initialized RX3 ∈ xTb := ⟨xAt_of 203 (by decide +kernel), xAt_of 75 (by decide +kernel)⟩
theorem xci_3 : Jvm.Cond.instantiable RX4 6 ∈ xTb ∧ Jvm.Cond.initialized RX4 ∈ xTb := ⟨xAt_of 218 (by decide +kernel), xAt_of 76 (by decide +kernel)⟩
theorem xci_4 : Jvm.Cond.instantiable RX5 18 ∈ xTb ∧ Jvm.Cond.initialized RX5 ∈ xTb := ⟨xAt_of 98 (by decide +kernel), xAt_of 74 (by decide +kernel)⟩
theorem xci_5 : Jvm.Cond.instantiable RX6 3 ∈ xTb ∧ Jvm.Cond.initialized RX6 ∈ xTb := ⟨xAt_of 341 (by decide +kernel), xAt_of 80 (by decide +kernel)⟩
theorem xci_6 : Jvm.Cond.instantiable RX7 6 ∈ xTb ∧ Jvm.Cond.initialized RX7 ∈ xTb := ⟨xAt_of 316 (by decide +kernel), xAt_of 79 (by decide +kernel)⟩
theorem xci_7 : Jvm.Cond.instantiable RX8 7 ∈ xTb ∧ Jvm.Cond.initialized RX8 ∈ xTb := ⟨xAt_of 357 (by decide +kernel), xAt_of 81 (by decide +kernel)⟩
theorem xci_8 : Jvm.Cond.instantiable RX9 9 ∈ xTb ∧ Jvm.Cond.initialized RX9 ∈ xTb := ⟨xAt_of 90 (by decide +kernel), xAt_of 73 (by decide +kernel)⟩
theorem xci_9 : Jvm.Cond.instantiable RX10 27 ∈ xTb ∧ Jvm.Cond.initialized RX10 ∈ xTb := ⟨xAt_of 982 (by decide +kernel), xAt_of 82 (by decide +kernel)⟩
theorem xMall_ok : xMall xM := by
  refine ⟨fun ci q h => ?_, fun k own y bb maxL rt na mc ms code h => xMo h⟩
  match ci, h with
  | 0, h => cases h; exact xci_0
  | 1, h => cases h; exact xci_1
  | 2, h => cases h; exact xci_2
  | 3, h => cases h; exact xci_3
  | 4, h => cases h; exact xci_4
  | 5, h => cases h; exact xci_5
  | 6, h => cases h; exact xci_6
  | 7, h => cases h; exact xci_7
  | 8, h => cases h; exact xci_8
  | 9, h => cases h; exact xci_9
  | k + 10, h => exact absurd h (by simp [vwCl])
