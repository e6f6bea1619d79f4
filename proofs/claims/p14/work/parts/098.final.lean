/-! the law, from its entry -/
theorem xkz_inv {pc : Nat} {L S Wd : List Nat} {cc cs : Nat} {env : xEv} {o : List xOut} (h : xKz pc L S Wd cc cs env = some o) : pc = 18 ∧ L = [6, 2, 554, 0] ∧ S = [] ∧ zCk Wd = true ∧ cc ≤ 600000 ∧ cs ≤ 7302250 ∧ env = [] := by
  unfold xKz at h
  obtain ⟨h, -⟩ := xbif h
  obtain ⟨h1, h⟩ := xand h
  obtain ⟨h2, h⟩ := xand h
  obtain ⟨h3, h⟩ := xand h
  obtain ⟨h4, h⟩ := xand h
  obtain ⟨h5, h⟩ := xand h
  obtain ⟨h6, h7⟩ := xand h
  exact ⟨xbeq h1, of_decide_eq_true h2, of_decide_eq_true h3, h4, xble h5, xble h6, of_decide_eq_true h7⟩
/-- a cell of the plain machine means the same whatever the script is -/
theorem xg_same {ρ ρ' : Nat → Int32} {b : Nat} {ad : Nat → Nat} {q : Nat} (h : q % 8 ≤ 2) : xg ρ b ad q = xg ρ' b ad q := by
  have : q % 8 = 0 ∨ q % 8 = 1 ∨ q % 8 = 2 := by omega
  rcases this with h | h | h
  · rw [xg0 h, xg0 h]
  · rw [xg1 h, xg1 h]
  · rw [xg2 h, xg2 h]
theorem zK_obj : ∀ r, r < 85 → zHd r % 8 = 2 → ∀ k, k < xNf (zHd r / 8) → ((zKd r k).1 = 0 ∨ (zKd r k).1 = 1 ∨ (zKd r k).1 = 2) := by decide +kernel
theorem zDig_tag {kd : Nat × Nat} (h : kd.1 = 0 ∨ kd.1 = 1 ∨ kd.1 = 2) (v : Int) : zDig kd v % 8 ≤ 2 := by
  obtain ⟨a, k2⟩ := kd
  dsimp only at h
  rcases h with h | h | h
  · subst h; rw [zg_0]; omega
  · subst h; rw [zg_1]; omega
  · subst h; rw [zg_2]; omega
theorem zbig {c n k : Nat} (h : c / 2 ^ (64 + 72 * n) = 0) (hk : n ≤ k) : xDn c k 1 = 0 := by
  unfold xDn
  have e : 64 + 72 * k = (64 + 72 * n) + (72 * k - 72 * n) := by omega
  rw [e, Nat.pow_add, ← Nat.div_div_eq_div_mul, h, Nat.zero_div, Nat.zero_mod]
theorem xE_same {m : zM} {r c : Nat} {ρ ρ' : Nat → Int32} {b : Nat} {cA : Nat → ClassId} {ad : Nat → Nat} (hr : r < 85) (g1 : c % 18446744073709551616 = zHd r) (g8 : c % 8 = zHd r % 8) (hb : c / 2 ^ (64 + 72 * zWlen r) = 0) (g2 : ∀ k, (zKd r k).1 ≠ 7 → xDn c k 1 = zDig (zKd r k) (m r k) ∧ zRg (zKd r k) (m r k)) : xE ρ b cA ad c = xE ρ' b cA ad c := by
  unfold xE
  by_cases h2 : c % 8 = 2
  · rw [if_pos h2, if_pos h2, g1]
    congr 2
    apply List.map_congr_left
    intro k hk
    have hk3 := zK_obj r hr (by rw [← g8]; exact h2) k (List.mem_range.mp hk)
    have hk7 : (zKd r k).1 ≠ 7 := by omega
    apply xg_same
    rw [(g2 k hk7).1]
    exact zDig_tag hk3 _
  · rw [if_neg h2, if_neg h2]
    by_cases h3 : c % 8 = 3
    · rw [if_pos h3, if_pos h3]
    · rw [if_neg h3, if_neg h3]
      by_cases h7 : c % 8 = 7
      · rw [if_pos h7, if_pos h7]
      · rw [if_neg h7, if_neg h7]
        have hf : (fun k => xd32 ρ (xDn c k 1)) = (fun k => xd32 ρ' (xDn c k 1)) := by
          funext k
          have ht : xDn c k 1 % 8 ≠ 4 := by
            by_cases hk : k < zWlen r
            · have hw : zWlen r = zHd r / 8 := by
                unfold zWlen
                rw [zbne (by rw [← g8]; exact h2)]
                rfl
              have h8 : zHd r % 8 = 1 ∨ zHd r % 8 = 5 := by
                rcases zK_hz2 r hr (by rw [← g8]; exact h2) with q | q | q | q
                · exact Or.inl q
                · omega
                · exact Or.inr q
                · omega
              have hkd : zKd r k = (0, 0) := by
                rcases h8 with q | q
                · exact zKi q (by unfold zLen; omega)
                · exact zKb q (by unfold zLen; omega)
              have := (g2 k (by rw [hkd]; decide)).1
              rw [this, hkd, zg_0]
              omega
            · rw [zbig hb (by omega)]
              decide
          unfold xd32
          rw [if_neg ht, if_neg ht]
        rw [hf]
theorem xE_rho {m : zM} {Wd : List Nat} (hr : zRel m Wd) (hbig : ∀ r, r < 85 → xGet Wd r / 2 ^ (64 + 72 * zWlen r) = 0) {ρ ρ' : Nat → Int32} {b : Nat} {cA : Nat → ClassId} {ad : Nat → Nat} : xWs ρ b cA ad Wd = xWs ρ' b cA ad Wd := by
  unfold xWs
  apply List.ext_getElem?
  intro r
  rw [List.getElem?_mapIdx, List.getElem?_mapIdx]
  cases hc : Wd[r]? with
  | none => rfl
  | some c =>
    obtain ⟨g1, g2⟩ := hr.2 r c hc
    have g8 : c % 8 = zHd r % 8 := by rw [← x8, g1]
    show some (ad r, xE ρ b cA ad c) = some (ad r, xE ρ' b cA ad c)
    have hr85 : r < 85 := by rw [← show Wd.length = 85 from hr.1]; exact (List.getElem?_eq_some_iff.mp hc).1
    have hx : xGet Wd r = c := by rw [xGet_eq, List.getD_eq_getElem?_getD, hc]; rfl
    have hb85 := hbig r hr85
    rw [hx] at hb85
    have he : xE ρ b cA ad c = xE ρ' b cA ad c := xE_same hr85 g1 g8 hb85 g2
    rw [he]
set_option maxHeartbeats 4000000 in
theorem whole_start {p : Program} {e : Env} {s : State} {m : MethodId} {below : List Frame} {meth : Method} {c : Code} (l : Launch) {b L : Nat} {xs : Nat → Int32} (hL : L ≤ 3072) (C0 : lw_At p s m meth c b L xs) : W p l e room_1 s m #[Value.ref b] below meth c s.heap [] 0 0 (lw_Z below #[Value.ref b] s) (entryFrame m ([Value.ref b] : List Value).toArray 4) := by
  obtain ⟨hx, hb, hr, hml, hown, hts, hX, hbl, hlocks, hgv⟩ := C0
  have htb : ∀ w ∈ xTb, w.before #[Value.ref b] s = true := fun w hw => hts w (List.mem_filter.mp hw).1
  obtain ⟨c0, i0, K0⟩ := u_known (C := RX1) (T := TX1) (N := 7) (n := 7) htb xin0 (htb _ xci_0.1)
  obtain ⟨c1, i1, K1⟩ := u_known (C := RX2) (T := TX2) (N := 10) (n := 10) htb xin1 (htb _ xci_1.1)
  obtain ⟨c2, i2, K2⟩ := u_known (C := RX3) (T := TX3) (N := 2) (n := 2) htb xin2 (htb _ xci_2.1)
  obtain ⟨c3, i3, K3⟩ := u_known (C := RX4) (T := TX4) (N := 6) (n := 6) htb xin3 (htb _ xci_3.1)
  obtain ⟨c4, i4, K4⟩ := u_known (C := RX5) (T := TX5) (N := 18) (n := 18) htb xin4 (htb _ xci_4.1)
  obtain ⟨c5, i5, K5⟩ := u_known (C := RX6) (T := TX6) (N := 3) (n := 3) htb xin5 (htb _ xci_5.1)
  obtain ⟨c6, i6, K6⟩ := u_known (C := RX7) (T := TX7) (N := 6) (n := 6) htb xin6 (htb _ xci_6.1)
  obtain ⟨c7, i7, K7⟩ := u_known (C := RX8) (T := TX8) (N := 7) (n := 7) htb xin7 (htb _ xci_7.1)
  obtain ⟨c8, i8, K8⟩ := u_known (C := RX9) (T := TX9) (N := 9) (n := 9) htb xin8 (htb _ xci_8.1)
  obtain ⟨c9, i9, K9⟩ := u_known (C := RX10) (T := TX10) (N := 27) (n := 27) htb xin9 (htb _ xci_9.1)
  obtain ⟨D, hKn⟩ : ∃ D : va_G, ∀ (k : Nat) (q : vw_C), vwCl[k]? = some q → u_Kn s q.1 q.2.1 q.2.2 (D.1 k) (D.2 k) := by
    refine ⟨(fun k => match k with | 0 => c0 | 1 => c1 | 2 => c2 | 3 => c3 | 4 => c4 | 5 => c5 | 6 => c6 | 7 => c7 | 8 => c8 | _ => c9, fun k => match k with | 0 => i0 | 1 => i1 | 2 => i2 | 3 => i3 | 4 => i4 | 5 => i5 | 6 => i6 | 7 => i7 | 8 => i8 | _ => i9), ?_⟩
    intro k q hq
    match k, hq with
    | 0, hq => cases hq; exact K0
    | 1, hq => cases hq; exact K1
    | 2, hq => cases hq; exact K2
    | 3, hq => cases hq; exact K3
    | 4, hq => cases hq; exact K4
    | 5, hq => cases hq; exact K5
    | 6, hq => cases hq; exact K6
    | 7, hq => cases hq; exact K7
    | 8, hq => cases hq; exact K8
    | 9, hq => cases hq; exact K9
    | k + 10, hq => exact absurd hq (by simp [vwCl])
  obtain ⟨a0, A0, B0⟩ := xarr (htb _ xAwI) (Or.inl rfl)
  obtain ⟨a1, A1, B1⟩ := xarr (htb _ xAwL) (Or.inr (Or.inl rfl))
  obtain ⟨a2, A2, B2⟩ := xarr (htb _ xAwZ) (Or.inr (Or.inr rfl))
  obtain ⟨a3, A3, B3⟩ := xarrO (hts _ xover)
  obtain ⟨cA, hKt⟩ : ∃ cA : Nat → ClassId, va_K D vwCl (xTys cA) s := by
    refine ⟨fun k => match k with | 0 => a0 | 1 => a1 | 2 => a2 | _ => a3, hKn, ?_⟩
    intro k q hq
    match k, hq with
    | 0, hq => cases hq; exact ⟨A0, B0⟩
    | 1, hq => cases hq; exact ⟨A1, B1⟩
    | 2, hq => cases hq; exact ⟨A2, B2⟩
    | 3, hq => cases hq; exact ⟨A3, B3⟩
    | k + 4, hq => exact absurd hq (by simp [xTys])
  have hl := lv_entry ([.ref b]) (n := 4) (Nat.le_of_ble_eq_true rfl)
  rw [lg_entry_eq]
  generalize (lg_sl ([.ref b]) ++ List.replicate (4 - (lg_sl ([.ref b])).length) Slot.unset).toArray = ls at hl ⊢
  have hl : lv_has ls 4 [(0, .ref b)] := hl
  have hrows : ∀ (pc : Nat) (row : xRow), xG 1246 xc_L_law pc = some row → xChk xM RL yL_law.name cL_law pc row = true := (xMall_ok.2 0 RL yL_law cL_law 4 (some .boolean) 1 600000 7302250 _ xlaw0).1
  have hcx1 : xCx p room_1 s m #[Value.ref b] meth c (fun _ => 0) b cA D (fun q : Nat => s.heap.size ≤ q) s.heap 0 xZ 1 RL yL_law cL_law 4 600000 7302250 1000 := ⟨hx, hb, hml, hown, htb, hKt, fun q => absurd q (by decide), Nat.le_refl _, Nat.le_refl _, by decide, by decide, fun _ h => h, fun q => absurd q (by decide), fun _ => rfl, va_AO.of (hts _ xover), fun own idx y host hw => va_Nw.of rfl (hts _ hw)⟩
  have hcx0 : xCx p room_1 s m #[Value.ref b] meth c xs b cA D (fun q : Nat => s.heap.size ≤ q) s.heap L (fun i => xN32 (xs i) * 8) 0 RL yL_law cL_law 4 600000 7302250 1000 := ⟨hx, hb, hml, hown, htb, hKt, fun q => absurd q (by decide), Nat.le_refl _, Nat.le_refl _, by decide, by decide, fun _ h => h, fun _ => ⟨hX, hbl, Nat.not_le.mpr hbl⟩, fun _ => rfl, va_AO.of (hts _ xover), fun own idx y host hw => va_Nw.of rfl (hts _ hw)⟩
  have hloop : xHK p l e room_1 s m #[Value.ref b] below meth c (lw_Z below #[Value.ref b] s) (fun _ => 0) b cA D (fun q : Nat => s.heap.size ≤ q) s.heap 4 (fun _ => 0) 0 xKz [] := by
    intro pc L1 S1 Wd cc cs env o hk _ ad H locs ls1 hI
    obtain ⟨rfl, rfl, rfl, hck, hcc, hcs, rfl⟩ := xkz_inv hk
    obtain ⟨⟨hrel, hinv⟩, hbig⟩ := zCk_ok hck
    obtain ⟨f, v, m', hrun, rr, rfl, hr1, hr2, -, -⟩ := th_0 (E := (L, xs)) (d := 1000) (by decide) hinv (qCk_ok hck) (n1 := (L : Int)) rfl (by omega)
    have er : rr = 1 := by omega
    subst er
    obtain ⟨pr, Wd', hxr, hrel', -, -⟩ := zSim (sc := fun i => xN32 (xs i) * 8) (fun _ => rfl) f 1000 0 18 _ [] _ _ m' hrun RL yL_law cL_law 4 (some .boolean) 1 600000 7302250 _ xlaw0 Wd cc cs hrel (by intro q hq; simp at hq; rcases hq with rfl | rfl | rfl | rfl <;> first | trivial | (show zIn 0; unfold zIn; omega)) (fun q hq => by cases hq) hcc hcs
    refine xSound xMall_ok L (fun i => xN32 (xs i) * 8) l f 0 RL yL_law cL_law 4 (some .boolean) 1 600000 7302250 (xG 1246 xc_L_law) xlaw0 1000 18 [6, 2, 554, 0] [] Wd cc cs [] _ hxr p e room_1 s m #[Value.ref b] below meth c _ xs b cA D (fun q : Nat => s.heap.size ≤ q) s.heap (fun _ => 0) 0 _ (fun _ h => h) hcx0 ?_ ad H locs ls1 ?_
    · intro pc v W' env' cc' cs' hmem hE' hcc' hcs' hro ad' H' locs' ls' hP' hD' hS' hag
      have hv : v = 8 := by
        have := List.mem_singleton.mp hmem
        have e2 := congrArg (fun q : xOut => q.2.1) this
        exact e2
      subst hv
      refine va_forget (fun q hq => hS'.2.2 q hq) ?_
      refine W.widen hcc' hcs' ?_
      have e1 : xRs xs b ad' 8 = [.int 1] := by
        unfold xRs
        rw [if_neg (by decide), xg0 rfl]
        rfl
      rw [e1]
      rcases hro with ⟨hdg, -⟩ | ⟨-, -, hrt⟩ | ⟨-, -, hrt⟩
      · exact lw_ret hx hb hr hlocks hdg
      · cases hrt
      · cases hrt
    · obtain ⟨⟨g1, g2⟩, ⟨g3, g4, g5⟩, g6, g7⟩ := hI
      refine ⟨⟨rfl, g2⟩, ⟨?_, ?_, g5⟩, (fun k q hq => by cases hq), g7⟩
      · rw [xE_rho hrel hbig (ρ' := fun _ => 0)]; exact g3
      · rw [xE_rho hrel hbig (ρ' := fun _ => 0)]; exact g4
  have hfin : xFin p l e room_1 s m #[Value.ref b] below meth c (lw_Z below #[Value.ref b] s) (fun _ => 0) b cA D (fun q : Nat => s.heap.size ≤ q) s.heap (fun _ => 0) 0 cL_law (some .boolean) 600000 7302250 [] := fun pc v W' env' cc cs hm => by cases hm
  have hall : ∀ n, xHK p l e room_1 s m #[Value.ref b] below meth c (lw_Z below #[Value.ref b] s) (fun _ => 0) b cA D (fun q : Nat => s.heap.size ≤ q) s.heap 4 (fun _ => 0) 0 (xRunK xKz n) [] := by
    intro n
    induction n with
    | zero => exact hloop
    | succ n ih =>
      intro pc L1 S1 Wd cc cs env o hk ho ad H locs ls1 hI
      exact xStep xMall_ok 0 xZ l 4000 (xSound xMall_ok 0 xZ l 4000) (y := yL_law) hrows (xRunK xKz n) hk ho hcx1 hfin ih hI
  have hpro : xRunK xKz 10 0 [6, 11, 11, 11] [] [] 0 0 [] = some [] := xNil_ok xPro_ok
  refine hall 10 0 [6, 11, 11, 11] [] [] 0 0 [] [] hpro (fun _ h => h) (fun _ => 0) s.heap [] ls ?_
  refine ⟨⟨rfl, xlv_mono hl fun q hq => ?_⟩, ⟨fun k q h => by simp [xWs] at h, ⟨fun i j p q h => by simp [xWs] at h, fun k q h => by simp [xWs] at h⟩, va_S.rf⟩, (fun k q hq => by cases hq), Nat.zero_le _, fun i hi => absurd hi (Nat.not_lt_zero i), fun _ => rfl⟩
  obtain ⟨cv, f1, f2, f3⟩ := xLl_mem.mp hq
  obtain ⟨q1, q2⟩ := q
  match q1, f1 with
  | 0, f1 =>
    cases f1
    dsimp only at f3
    rw [f3, xg6 rfl]
    exact List.mem_cons_self
  | 1, f1 => cases f1; exact absurd rfl f2
  | 2, f1 => cases f1; exact absurd rfl f2
  | 3, f1 => cases f1; exact absurd rfl f2
  | k + 4, f1 => cases f1
set_option maxHeartbeats 4000000 in
theorem lw_walk (l : Launch) (b : Addr) (xs : List Int32) : MetFree l x (headSpec (Jvm.Cond.code x code maxLocals ret :: tables_1) room_1) (lw_P b xs) (fun _ _ _ _ _ => True) lw_Q := by
  refine MetFree.of_bodyS (code := code) (maxLocals := maxLocals) (ret := ret) (by decide) ?_ ?_
  · intro args s m h hn
    obtain ⟨meth, c, h1, h2, h3, h4, h5, h6, -, -⟩ := Cond.code_spec hn (atoms_spec (ws := Jvm.Cond.code x code maxLocals ret :: tables_1) h _ List.mem_cons_self)
    exact ⟨meth, c, h1, h2, h3, h4, h5, h6⟩
  · intro p e s m args below meth c s₁ B hml0 hP _
    obtain ⟨rfl, hx, hbd, hgv⟩ := hP
    obtain ⟨scr, harrAt, hlist, hof, hsmall⟩ := hx
    obtain ⟨hcb, hkn, -, -⟩ := State.arrayAt?_spec harrAt
    have hown : s.vm.findClass R_law = some m.cls := findClass_of_methodNamed B.named
    have hts0 : ∀ c ∈ (Jvm.Cond.code x code maxLocals ret :: tables_1), c.before #[Value.ref b] s = true := atoms_spec (ws := Jvm.Cond.code x code maxLocals ret :: tables_1) B.pre
    have hts : ∀ w ∈ lw_tbl, w.before #[Value.ref b] s = true := k2_hts_sels lw_privs (fun w hw => hts0 w (List.mem_cons_of_mem _ hw)) lw_privs_ok
    have hml : c.maxLocals = 4 := B.maxLocals_eq (hts0 _ List.mem_cons_self)
    have X₀ : Stand p l e room_1 s m #[Value.ref b] below meth c s₁ [] 0 0 := Stand.of_body B
    have hh0 : s₁.heap = s.heap := by rw [B.state]; rfl
    have hsz : scr.slots.size = xs.length := by rw [← Array.length_toList, hlist, List.length_map]
    have hval : ∀ j : Nat, j < xs.length → scr.slots[j]? = some (.int (xs.getD j 0)) := fun j hj => by
      rw [← Array.getElem?_toList, hlist]
      simp [hj]
    have hbl : b < s.heap.size := (Array.getElem?_eq_some_iff.mp hcb).1
    have hX : va_X b xs.length (fun j => xs.getD j 0) s s.heap := ⟨scr, hcb, hof, hkn, hsz, hval⟩
    have K : W p l e room_1 s m #[Value.ref b] below meth c s₁.heap [] 0 0 (lw_Z below #[Value.ref b] s) (entryFrame m ([Value.ref b] : List Value).toArray 4) := by
      rw [hh0]
      exact whole_start l hbd ⟨B.exec, B.bytes, B.returns, hml, hown, hts, hX, hbl, B.notSynchronized, hgv⟩
    obtain ⟨t, a1, o, b1, b2, b3⟩ := K s₁ rfl X₀
    exact ⟨t, o, a1, b1, b2, b3⟩
theorem lw_pre_spec {args : Array Value} {s : State} (h : (Jvm.Cond.and given_1 narrow_1).before args s = true) (hr : rest_1_c.before args s = true) : ∃ (b : Addr) (xs : List Int32), lw_P b xs args s := by
  have hs := flat_of_before _ h
  have hq := flat_of_before _ hr
  have hc : (Cond.count 1).before args s = true := hs _ (by decide +kernel)
  have harr : (Cond.arrayOf (.arg 0) .int).before args s = true := hs _ (by decide +kernel)
  have hle : (Cond.le (.length (.arg 0)) (.int 3072)).before args s = true := hs _ (by decide +kernel)
  have hlen : (Cond.isInt (.length (.arg 0))).before args s = true := hq _ (by decide +kernel)
  have hall : (Cond.all (.arg 0) (.isInt (.elem (.arg 0) (.index 0)))).before args s = true := hq _ (by decide +kernel)
  obtain ⟨b, xs, hb, hx⟩ := State.ints_of_pre rfl harr hlen hall
  have hsm : xs.length < 2 ^ 31 := hx.choose_spec.2.2.2
  have hev : (Term.length (.arg 0)).eval args s none [] s = some (.int xs.length.toInt32) := hx.length_eval hb
  have hv := Cond.le_ints hev (show (Term.int 3072).eval args s none [] s = some (.int 3072) from rfl)
  have hd : xs.length.toInt32 ≤ 3072 := by
    simpa [Cond.before, Cond.holds, hv] using hle
  have hN : xs.length ≤ 3072 := (Int32.ofNat_le_ofNat hsm (by decide)).mp (show Int32.ofNat xs.length ≤ Int32.ofNat 3072 from hd)
  exact ⟨b, xs, Cond.one_arg hc (show args[0]? = some (.ref b) from hb), hx, hN, h⟩
theorem lw_comes (l : Launch) : Comes l x (Jvm.Cond.code x code maxLocals ret :: tables_1) room_1 (fun tb e args s => Calls_1 tb e args s ∧ rest_1 tb e args s ∧ Pre_1 tb e args s)
    (fun _ _ args s o t => lw_Q args s o t) := by
  intro p e ha hc hk s m args below hf hfit hheap happ hpre
  obtain ⟨b, xs, hP⟩ := lw_pre_spec hpre.2.2 hpre.2.1
  obtain ⟨k, o, h1, h2, h3, hQ⟩ := lw_walk l b xs p e ha hc hk s m args below hf ((Spec.applies_iff_loose hf).mp happ).1 hP trivial
  exact ⟨k, o, h1, h2, h3, hQ⟩
theorem lw_frame {s t : State} {o : Outcome} {args : Array Value} (h : Framed s o t [] 600000 7302250) :
    Framed s o t (fieldLocs frame_1_writes args s ++ arrayLocs frame_1_arrays args s ++ staticLocs frame_1_statics s) 600000 7302250 := h
theorem lw_limb (L : Cond) (hL : ∀ (args : Array Value) (s t : State), L.after args s (.returned (some (.int 1))) t = true) :
    ArmFor flags0 classFile x code maxLocals ret World_1 tables_1 room_1 Calls_1 rest_1 Pre_1
      (fun tb e a s o t => postC L tb e a s o t ∧ Framed s o t (fieldLocs frame_1_writes a s ++ arrayLocs frame_1_arrays a s ++ staticLocs frame_1_statics s) 600000 7302250) := by
  intro l _ _ _ p e ha hc hk s m args below hf hfit hheap happ hpre
  obtain ⟨k, o, h1, h2, h3, rfl, hF⟩ := lw_comes l p e ha hc hk s m args below hf hfit hheap happ hpre
  exact ⟨k, _, h1, h2, h3, hL args s _, lw_frame hF⟩
theorem i_vc : Claimed_1_1 ∧ Claimed_1_2 := ⟨lw_limb limb_1_1 (fun args s t => by simp [limb_1_1, Cond.after, Cond.holds, Cond.value]), lw_limb limb_1_2 (fun args s t => Cond.after_iff.mpr (by
  first | (rw [show limb_1_2 = Cond.eq .result (.int 1) from rfl, Cond.eq_ints (x := 1) (y := 1) rfl rfl]; simp; done) | (simp [limb_1_2, Cond.value, Term.eval]; done)))⟩

