/-! THE CLAIM OUT OF ONE WALK OF THE LAW'S BODY. Your part is whole_start (and what it stands on); all else here is the same for every law, but numbers. -/
def R_law : String := "RopeRanksLaw"
def lw_P (b : Addr) (xs : List Int32) (args : Array Value) (s : State) : Prop := args = #[.ref b] ∧ s.IntsAt b xs ∧ xs.length ≤ 6 ∧ (Jvm.Cond.and given_1 narrow_1).before args s = true
def lw_Q (_ : Array Value) (s : State) (o : Outcome) (t : State) : Prop := o = .returned (some (.int 1)) ∧ Framed s o t [] 600000 7302250
def lw_Z (below : List Frame) (a : Array Value) (s : State) : State → Prop := fun t => ∃ o, t.status = .running ∧ Ended t below o ∧ lw_Q a s o t
/-- the law's own end, with 1 on the stack, nothing written that was there before, its room as the claim has it -/
theorem lw_ret {p : Program} {l : Launch} {e : Env} {s : State} {m : MethodId} {below : List Frame} {meth : Method} {c : Code} {b : Nat} (hx : p.tables.exec = Jvm.exec) (hb : c.code = code) (hr : meth.sig.returnType = ret) (hlocks : meth.locks = false) {pc : Nat} {H : Heap} {ls : Array Slot} (hdg : decode code pc = .ok (.ireturn, 1)) : W p l e room_1 s m #[Value.ref b] below meth c H [] 600000 7302250 (lw_Z below #[Value.ref b] s) (F0 m pc ls [.int 1]) := by
  intro T hT X
  obtain ⟨fs, hret, hrun, hended, hW, hframe⟩ := X.leave (v := some (.int 1)) (hlocks := hlocks) (fun h => by rw [hr] at h; cases h)
  have hmeth' : T.vm.method? m = some meth := X.method'
  refine ⟨T.setFrames fs, ?_, .returned (some (.int 1)), hrun, hended, rfl, ⟨_, rfl⟩, hW, hframe⟩
  jvm_step X.here [X.here.top, hx, hb, hdg, hmeth', hr, ret, narrow_b1]
  (try refine ⟨rfl, ?_⟩); (try refine ⟨rfl, ?_⟩)
  first | (intro acts; rw [hret _ acts rfl rfl rfl]) | rw [hret _ _ rfl rfl rfl]
  exact Steps.refl _
/-- what holds at the law's entry: the machine, the code, the tables' words (any of lw_tbl by 'hts w (by decide +kernel)'), the script of L ints xs at the cell b, what the Statement gives of the start (any of its parts by flat_of_before) -/
def lw_At (p : Program) (s : State) (m : MethodId) (meth : Method) (c : Code) (b L : Nat) (xs : Nat → Int32) : Prop :=
  p.tables.exec = Jvm.exec ∧ c.code = code ∧ meth.sig.returnType = ret ∧ c.maxLocals = 4 ∧ s.vm.findClass R_law = some m.cls ∧ (∀ w ∈ lw_tbl, w.before #[Value.ref b] s = true) ∧ va_X b L xs s s.heap ∧ b < s.heap.size ∧ meth.locks = false ∧ (Jvm.Cond.and given_1 narrow_1).before #[Value.ref b] s = true
theorem xLaw_ok {Lz fuel : Nat} {lo hi : Int} (h : xLaw Lz fuel lo hi = true) : ∃ outs, xRun xM Lz fuel 0 (xG 1250 xc_L_law) 600000 7302250 (some .boolean) 100 0 [6, 11, 11, 11] [] [] 0 0 (xEnv1 lo hi) = some outs ∧ ∀ q ∈ outs, q.2.1 = 8 := by
  unfold xLaw at h
  cases hr : xRun xM Lz fuel 0 (xG 1250 xc_L_law) 600000 7302250 (some .boolean) 100 0 [6, 11, 11, 11] [] [] 0 0 (xEnv1 lo hi) with
  | none => rw [hr] at h; cases h
  | some outs =>
    rw [hr] at h
    exact ⟨outs, rfl, fun q hq => xbeq (List.all_eq_true.mp h q hq)⟩
def xrho (xs : Nat → Int32) : Nat → Int32 := fun k => if k = 6 then xs 0 &&& 63 else xs k
theorem xEnv1_ok {xs : Nat → Int32} {lo hi : Int} (h1 : lo ≤ (xs 0 &&& 63).toInt) (h2 : (xs 0 &&& 63).toInt ≤ hi) : xEO (xrho xs) (xEnv1 lo hi) := by
  have hb : ∀ z : Int32, (-2147483648 : Int) ≤ z.toInt ∧ z.toInt ≤ 2147483647 := fun z => by
    have g1 := z.le_toInt
    have g2 := z.toInt_lt
    omega
  intro k q hq
  match k, hq with
  | 0, hq => cases hq; exact hb _
  | 1, hq => cases hq; exact hb _
  | 2, hq => cases hq; exact hb _
  | 3, hq => cases hq; exact hb _
  | 4, hq => cases hq; exact hb _
  | 5, hq => cases hq; exact hb _
  | 6, hq => cases hq; exact ⟨h1, h2⟩
  | 7, hq =>
    cases hq
    have z7 : xz (xrho xs) 7 = (xs 3).toInt - (xs 2).toInt := rfl
    have g1 := hb (xs 3)
    have g2 := hb (xs 2)
    rw [z7]
    constructor
    · show (-8589934592 : Int) ≤ _
      omega
    · show _ ≤ (8589934592 : Int)
      omega
  | k + 8, hq => exact absurd hq (by simp [xEnv1])
theorem xarr {s : State} {args : Array Value} {ty : FieldType} (h : (Jvm.Cond.arrayClass ty).before args s = true) (hp : ty = .int ∨ ty = .long ∨ ty = .boolean) : ∃ cB, ArrOfT s cB ty ∧ va_RA s cB ty := by
  obtain ⟨cB, kA, comp, h1, h2, h3⟩ := Cond.arrayClass_spec h
  refine ⟨cB, fun n z => ⟨fun k h => (by cases h), kA, h2, comp, h3⟩, ?_⟩
  rcases hp with rfl | rfl | rfl <;> exact h1
theorem xarrO {s : State} {args : Array Value} {C : String} (h : (Jvm.Cond.arrayOver (.object C)).before args s = true) : ∃ cB, ArrOfT s cB (.object C) ∧ va_RA s cB (.object C) := by
  obtain ⟨comp, cB, kA, h1, -, h2, h3, h4⟩ := Cond.arrayOver_spec h
  exact ⟨cB, fun n z => ⟨fun k h => (by cases h), kA, h2, comp, h3⟩, kA, comp, h2, h3, h1, h4⟩
theorem xover : Jvm.Cond.arrayOver (.object RX5) ∈ lw_tbl := by decide +kernel
theorem xlaw0 : xM 0 = some (RL, yL_law, cL_law, 4, some .boolean, 1, 600000, 7302250, xG 1250 xc_L_law) := rfl
set_option maxHeartbeats 4000000 in
theorem xwalk {p : Program} {e : Env} {s : State} {m : MethodId} {below : List Frame} {meth : Method} {c : Code} (l : Launch) {b L : Nat} {xs : Nat → Int32} (hL : L ≤ 6) (C0 : lw_At p s m meth c b L xs) {fuel : Nat} {lo hi : Int} (h1 : lo ≤ (xs 0 &&& 63).toInt) (h2 : (xs 0 &&& 63).toInt ≤ hi) (hrun : xLaw L fuel lo hi = true) : W p l e room_1 s m #[Value.ref b] below meth c s.heap [] 0 0 (lw_Z below #[Value.ref b] s) (entryFrame m ([Value.ref b] : List Value).toArray 4) := by
  obtain ⟨hx, hb, hr, hml, hown, hts, hX, hbl, hlocks, hgv⟩ := C0
  obtain ⟨outs, hrun, hout⟩ := xLaw_ok hrun
  have htb : ∀ w ∈ xTb, w.before #[Value.ref b] s = true := fun w hw => hts w (List.mem_filter.mp hw).1
  obtain ⟨c0, i0, K0⟩ := u_known (C := RX1) (T := TX1) (N := 7) (n := 7) htb xin0 (htb _ xci_0.1)
  obtain ⟨c1, i1, K1⟩ := u_known (C := RX2) (T := TX2) (N := 10) (n := 10) htb xin1 (htb _ xci_1.1)
  obtain ⟨c2, i2, K2⟩ := u_known (C := RX3) (T := TX3) (N := 2) (n := 2) htb xin2 (htb _ xci_2.1)
  obtain ⟨c3, i3, K3⟩ := u_known (C := RX4) (T := TX4) (N := 6) (n := 6) htb xin3 (htb _ xci_3.1)
  obtain ⟨c4, i4, K4⟩ := u_known (C := RX5) (T := TX5) (N := 18) (n := 18) htb xin4 (htb _ xci_4.1)
  obtain ⟨c5, i5, K5⟩ := u_known (C := RX6) (T := TX6) (N := 3) (n := 3) htb xin5 (htb _ xci_5.1)
  obtain ⟨c6, i6, K6⟩ := u_known (C := RX7) (T := TX7) (N := 6) (n := 6) htb xin6 (htb _ xci_6.1)
  obtain ⟨c7, i7, K7⟩ := u_known (C := RX8) (T := TX8) (N := 7) (n := 7) htb xin7 (htb _ xci_7.1)
  obtain ⟨c8, i8, K8⟩ := u_known (C := RX9) (T := TX9) (N := 9) (n := 9) htb xin8 (htb _ xci_8.1)
  obtain ⟨c9, i9, K9⟩ := u_known (C := RX10) (T := TX10) (N := 27) (n := 27) htb xin9 (htb _ xci_9.1)
  obtain ⟨D, hKn⟩ : ∃ D : va_G, ∀ (k : Nat) (q : vw_C), vwCl[k]? = some q → u_Kn s q.1 q.2.1 q.2.2 (D.1 k) (D.2 k) := by
    refine ⟨(fun k => match k with | 0 => c0 | 1 => c1 | 2 => c2 | 3 => c3 | 4 => c4 | 5 => c5 | 6 => c6 | 7 => c7 | 8 => c8 | _ => c9, fun k => match k with | 0 => i0 | 1 => i1 | 2 => i2 | 3 => i3 | 4 => i4 | 5 => i5 | 6 => i6 | 7 => i7 | 8 => i8 | _ => i9), ?_⟩
    intro k q hq
    match k, hq with
    | 0, hq => cases hq; exact K0
    | 1, hq => cases hq; exact K1
    | 2, hq => cases hq; exact K2
    | 3, hq => cases hq; exact K3
    | 4, hq => cases hq; exact K4
    | 5, hq => cases hq; exact K5
    | 6, hq => cases hq; exact K6
    | 7, hq => cases hq; exact K7
    | 8, hq => cases hq; exact K8
    | 9, hq => cases hq; exact K9
    | k + 10, hq => exact absurd hq (by simp [vwCl])
  obtain ⟨a0, A0, B0⟩ := xarr (htb _ xAwI) (Or.inl rfl)
  obtain ⟨a1, A1, B1⟩ := xarr (htb _ xAwL) (Or.inr (Or.inl rfl))
  obtain ⟨a2, A2, B2⟩ := xarr (htb _ xAwZ) (Or.inr (Or.inr rfl))
  obtain ⟨a3, A3, B3⟩ := xarrO (hts _ xover)
  obtain ⟨cA, hKt⟩ : ∃ cA : Nat → ClassId, va_K D vwCl (xTys cA) s := by
    refine ⟨fun k => match k with | 0 => a0 | 1 => a1 | 2 => a2 | _ => a3, hKn, ?_⟩
    intro k q hq
    match k, hq with
    | 0, hq => cases hq; exact ⟨A0, B0⟩
    | 1, hq => cases hq; exact ⟨A1, B1⟩
    | 2, hq => cases hq; exact ⟨A2, B2⟩
    | 3, hq => cases hq; exact ⟨A3, B3⟩
    | k + 4, hq => exact absurd hq (by simp [xTys])
  have hXr : va_X b L (xrho xs) s s.heap := by
    obtain ⟨scr, f1, f2, f3, f4, f5⟩ := hX
    refine ⟨scr, f1, f2, f3, f4, fun j hj => ?_⟩
    rw [f5 j hj]
    unfold xrho
    rw [if_neg (by omega)]
  have hl := lv_entry ([.ref b]) (n := 4) (Nat.le_of_ble_eq_true rfl)
  rw [lg_entry_eq]
  generalize (lg_sl ([.ref b]) ++ List.replicate (4 - (lg_sl ([.ref b])).length) Slot.unset).toArray = ls at hl ⊢
  have hl : lv_has ls 4 [(0, .ref b)] := hl
  refine xSound xMall_ok L l fuel 0 RL yL_law cL_law 4 (some .boolean) 1 600000 7302250 (xG 1250 xc_L_law) xlaw0 100 0 [6, 11, 11, 11] [] [] 0 0 (xEnv1 lo hi) outs hrun p e room_1 s m #[Value.ref b] below meth c _ (xrho xs) b cA D (fun q : Nat => s.heap.size ≤ q) s.heap (fun _ => 0) 0 outs (fun _ h => h) ?_ ?_ (fun _ => 0) s.heap [] ls ?_
  · exact ⟨hx, hb, hml, hown, htb, hKt, fun q => absurd q (by decide), Nat.le_refl _, Nat.le_refl _, by decide, by decide, fun _ h => h, fun _ => ⟨hXr, hbl, Nat.not_le.mpr hbl⟩, rfl, va_AO.of (hts _ xover), fun own idx y host hw => va_Nw.of rfl (hts _ hw)⟩
  · intro pc v W' env' cc cs hmem hE' hcc hcs hro ad' H locs ls' hP' hD' hS' hag
    have hv : v = 8 := hout _ hmem
    subst hv
    refine va_forget (fun q hq => hS'.2.2 q hq) ?_
    refine W.widen hcc hcs ?_
    have e1 : xRs (xrho xs) b ad' 8 = [.int 1] := by
      unfold xRs
      rw [if_neg (by decide), xg0 rfl]
      rfl
    rw [e1]
    rcases hro with ⟨hdg, -⟩ | ⟨-, -, hrt⟩ | ⟨-, -, hrt⟩
    · exact lw_ret hx hb hr hlocks hdg
    · cases hrt
    · cases hrt
  · refine ⟨⟨rfl, xlv_mono hl fun q hq => ?_⟩, ⟨fun k q h => by simp [xWs] at h, ⟨fun i j p q h => by simp [xWs] at h, fun k q h => by simp [xWs] at h⟩, va_S.rf⟩, xEnv1_ok h1 h2, Nat.zero_le _, fun i hi => absurd hi (Nat.not_lt_zero i), fun _ => rfl⟩
    obtain ⟨cv, f1, f2, f3⟩ := xLl_mem.mp hq
    obtain ⟨q1, q2⟩ := q
    match q1, f1 with
    | 0, f1 =>
      cases f1
      dsimp only at f3
      rw [f3, xg6 rfl]
      exact List.mem_cons_self
    | 1, f1 => cases f1; exact absurd rfl f2
    | 2, f1 => cases f1; exact absurd rfl f2
    | 3, f1 => cases f1; exact absurd rfl f2
    | k + 4, f1 => cases f1
