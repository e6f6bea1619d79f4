/-! contracts out of runs -/
/-- and those that it hands on by the state: nest mates' links, the array of Records -/
def xX (U : State) : Prop := va_AO RX5 U ∧ ∀ (own : String) (idx : Nat) (y : MethodName) (host : String), Jvm.Cond.methodLinkNest own idx y host ∈ lw_tbl → va_Nw (.methodLinkNest own idx y host) U
theorem xX.warm {s U : State} (hW : s.WarmedH U.vm) (h : xX s) : xX U := ⟨va_AO.moved hW.alike h.1, fun own idx y host hw => va_Nw.warmM hW (h.2 own idx y host hw)⟩
theorem xX.same {s U : State} (hv : s.vm = U.vm) (h : xX s) : xX U := ⟨va_AO.moved (hv ▸ Vm.Alike.refl s.vm) h.1, fun own idx y host hw => va_Nw.same rfl hv (h.2 own idx y host hw)⟩
theorem xGoodIn {y : MethodName} {bb : ByteArray} {maxL : Nat} {rt : Option FieldType} (h : Jvm.Cond.code y bb maxL rt ∈ xTb) : GoodIn xTb (.code y bb maxL rt :: xTb) := by
  intro w hw
  have hm : w ∈ xTb := by
    rcases List.mem_cons.mp hw with rfl | hw
    · exact h
    · exact hw
  exact ⟨hm, good_of_word (List.mem_filter.mp hm).2⟩
def xRs (ρ : Nat → Int32) (b : Nat) (ad : Nat → Nat) (v : Nat) : List Value := if v = 11 then [] else [xg ρ b ad v]
def xRv (ρ : Nat → Int32) (b : Nat) (ad : Nat → Nat) (v : Nat) : Option Value := if v = 11 then none else some (xg ρ b ad v)
theorem xRv_list (ρ : Nat → Int32) (b : Nat) (ad : Nat → Nat) (v : Nat) : (xRv ρ b ad v).toList = xRs ρ b ad v := by unfold xRv xRs; split <;> rfl
def xRO (bb : ByteArray) (rt : Option FieldType) (pc v : Nat) : Prop := (decode bb pc = .ok (.ireturn, 1) ∧ xIsI v = true ∧ (rt = some .int ∨ (rt = some .boolean ∧ (v = 0 ∨ v = 8)))) ∨ (decode bb pc = .ok (.lreturn, 1) ∧ v % 8 = 1 ∧ rt = some .long) ∨ (decode bb pc = .ok (.return_, 1) ∧ v = 11 ∧ rt = none)
def xFin (p : Program) (l : Launch) (e : Env) (R : Room) (s : State) (m : MethodId) (args : Array Value) (below : List Frame) (meth : Method) (c : Code) (Q : State → Prop) (ρ : Nat → Int32) (b : Nat) (cA : Nat → ClassId) (D : va_G) (A : Nat → Prop) (H0 : Heap) (ad0 : Nat → Nat) (n0 : Nat) (bb : ByteArray) (rt : Option FieldType) (mc ms : Nat) (outs : List xOut) : Prop :=
  ∀ (pc v : Nat) (Wd : List Nat) (env : xEv) (cc cs : Nat), (pc, v, Wd, env, cc, cs) ∈ outs → xEO ρ env → cc ≤ mc → cs ≤ ms → xRO bb rt pc v → ∀ (ad : Nat → Nat) (H : Heap) (locs : List Loc) (ls : Array Slot), va_P D vwCl (xWs ρ b cA ad Wd) H → va_D A (xWs ρ b cA ad Wd) → va_S A H0 H locs → xAg ad0 n0 ad Wd → W p l e R s m args below meth c H locs cc cs Q (F0 m pc ls (xRs ρ b ad v))
def xCx (p : Program) (R : Room) (s : State) (m : MethodId) (args : Array Value) (meth : Method) (c : Code) (ρ : Nat → Int32) (b : Nat) (cA : Nat → ClassId) (D : va_G) (A : Nat → Prop) (H0 : Heap) (Lz : Nat) (sc : Nat → Nat) (k : Nat) (own : String) (y : MethodName) (bb : ByteArray) (maxL mc ms d : Nat) : Prop :=
  p.tables.exec = Jvm.exec ∧ c.code = bb ∧ c.maxLocals = maxL ∧ s.vm.findClass own = some m.cls ∧ (∀ w ∈ xTb, w.before args s = true) ∧ va_K D vwCl (xTys cA) s ∧ (y.name = "<init>" → meth.name = "<init>") ∧ mc ≤ R.cells ∧ ms ≤ R.slots ∧ d ≤ R.frames ∧ 60 * d ≤ R.locals ∧ (∀ q, H0.size ≤ q → A q) ∧ (k = 0 → va_X b Lz ρ s H0 ∧ b < H0.size ∧ ¬ A b) ∧ (∀ i, sc i = xN32 (ρ i) * 8) ∧ xX s
/-- what a run says, at f steps -/
def xSnd (M : Nat → Option xMt) (Lz : Nat) (sc : Nat → Nat) (l : Launch) (f : Nat) : Prop := ∀ (k : Nat) (own : String) (y : MethodName) (bb : ByteArray) (maxL : Nat) (rt : Option FieldType) (na mc ms : Nat) (code : Nat → Option xRow), M k = some (own, y, bb, maxL, rt, na, mc, ms, code) →
  ∀ (d pc : Nat) (L S Wd : List Nat) (cc cs : Nat) (env : xEv) (o : List xOut), xRun M Lz sc f k code mc ms rt d pc L S Wd cc cs env = some o →
  ∀ (p : Program) (e : Env) (R : Room) (s : State) (m : MethodId) (args : Array Value) (below : List Frame) (meth : Method) (c : Code) (Q : State → Prop) (ρ : Nat → Int32) (b : Nat) (cA : Nat → ClassId) (D : va_G) (A : Nat → Prop) (H0 : Heap) (ad0 : Nat → Nat) (n0 : Nat) (outs : List xOut), (∀ z ∈ o, z ∈ outs) →
  xCx p R s m args meth c ρ b cA D A H0 Lz sc k own y bb maxL mc ms d → xFin p l e R s m args below meth c Q ρ b cA D A H0 ad0 n0 bb rt mc ms outs →
  ∀ (ad : Nat → Nat) (H : Heap) (locs : List Loc) (ls : Array Slot), xInv ρ b cA D A H0 maxL ad0 n0 ad H locs ls L Wd env → W p l e R s m args below meth c H locs cc cs Q (F0 m pc ls (S.map (xg ρ b ad)))
/-- what the tables say of a method -/
def xMg (own : String) (y : MethodName) (bb : ByteArray) (maxL : Nat) (rt : Option FieldType) : Prop := Jvm.Cond.code y bb maxL rt ∈ xTb ∧ Jvm.Cond.initialized y.cls ∈ xTb ∧ Jvm.plainName y.cls = true ∧ y.cls = own ∧ (y.cls ≠ "java/lang/invoke/MethodHandle" ∧ y.cls ≠ "java/lang/invoke/VarHandle") ∧ maxL ≤ 41
def xPc (ρ : Nat → Int32) (b : Nat) (cA : Nat → ClassId) (D : va_G) (ad : Nat → Nat) (Wd as : List Nat) (sz : Nat) : Array Value → State → Prop := va_Pc (as.map (xg ρ b ad)) (fun U => U.heap.size = sz ∧ va_P D vwCl (xWs ρ b cA ad Wd) U.heap ∧ va_K D vwCl (xTys cA) U ∧ va_D (fun _ => True) (xWs ρ b cA ad Wd) ∧ xX U)
def xQc (ρ : Nat → Int32) (b : Nat) (cA : Nat → ClassId) (D : va_G) (ad : Nat → Nat) (Wd : List Nat) (sz : Nat) (outs : List xOut) : Array Value → State → Outcome → State → Prop := fun _ st oc t =>
  (∃ (pc v : Nat) (W' : List Nat) (env : xEv) (cc cs : Nat) (ad' : Nat → Nat), (pc, v, W', env, cc, cs) ∈ outs ∧ xEO ρ env ∧ oc = .returned (xRv ρ b ad' v) ∧ va_P D vwCl (xWs ρ b cA ad' W') t.heap ∧ va_D (va_A (xWs ρ b cA ad Wd) sz) (xWs ρ b cA ad' W') ∧ xAg ad Wd.length ad' W') ∧ va_F (va_A (xWs ρ b cA ad Wd) sz) st t
theorem xent_len {as : List Nat} : ∀ n, xCats as ≤ n → (xEntL as n).length = n := by
  induction as with
  | nil => intro n _; exact List.length_replicate
  | cons a t ih =>
    intro n h
    rw [xCats_cons] at h
    unfold xEntL
    unfold xCat at h
    cases ha : xIsL a with
    | true =>
      rw [ha] at h
      dsimp only [cond] at h ⊢
      rw [List.length_cons, List.length_cons, ih (n - 2) (by omega)]
      omega
    | false =>
      rw [ha] at h
      dsimp only [cond] at h ⊢
      rw [List.length_cons, ih (n - 1) (by omega)]
      omega
theorem xent_at {ρ : Nat → Int32} {b : Nat} {ad : Nat → Nat} {as : List Nat} : ∀ (n off i cv : Nat), (xEntL as n)[i]? = some cv → cv ≠ 11 → (off + i, xg ρ b ad cv) ∈ lv_args off (as.map (xg ρ b ad)) := by
  induction as with
  | nil =>
    intro n off i cv h h11
    have h' : (List.replicate n 11)[i]? = some cv := h
    have := List.eq_of_mem_replicate (List.mem_of_getElem? h')
    exact absurd this h11
  | cons a t ih =>
    intro n off i cv h h11
    unfold xEntL at h
    rw [List.map_cons]
    unfold lv_args
    rw [xg_cat]
    unfold xCat
    cases ha : xIsL a with
    | true =>
      rw [ha] at h
      dsimp only [cond] at h ⊢
      rw [if_pos rfl]
      match i, h with
      | 0, h =>
        cases h
        exact List.mem_cons_self
      | 1, h =>
        cases h
        exact absurd rfl h11
      | j + 2, h =>
        have := ih (n - 2) (off + 2) j cv h h11
        rw [show off + (j + 2) = off + 2 + j by omega]
        exact List.mem_cons_of_mem _ this
    | false =>
      rw [ha] at h
      dsimp only [cond] at h ⊢
      rw [if_neg (by decide)]
      match i, h with
      | 0, h =>
        cases h
        exact List.mem_cons_self
      | j + 1, h =>
        have := ih (n - 1) (off + 1) j cv h h11
        rw [show off + (j + 1) = off + 1 + j by omega]
        exact List.mem_cons_of_mem _ this
theorem xsl_len {ρ : Nat → Int32} {b : Nat} {ad : Nat → Nat} (as : List Nat) : (lg_sl (as.map (xg ρ b ad))).length = xCats as := by
  induction as with
  | nil => rfl
  | cons a t ih =>
    have e : lg_sl ((a :: t).map (xg ρ b ad)) = (if (xg ρ b ad a).category = 2 then [Slot.val (xg ρ b ad a), .second] else [.val (xg ρ b ad a)]) ++ lg_sl (t.map (xg ρ b ad)) := rfl
    rw [e, List.length_append, ih, xCats_cons, xg_cat]
    congr 1
    unfold xCat
    cases xIsL a <;> rfl
set_option maxHeartbeats 4000000 in
theorem xMet {M : Nat → Option xMt} {Lz : Nat} {sc : Nat → Nat} {l : Launch} {f : Nat} (IH : xSnd M Lz sc l f) {k : Nat} {own : String} {y : MethodName} {bb : ByteArray} {maxL : Nat} {rt : Option FieldType} {na mc ms : Nat} {code : Nat → Option xRow} (hM : M k = some (own, y, bb, maxL, rt, na, mc, ms, code)) (hg : xMg own y bb maxL rt) (hk0 : k ≠ 0)
    {ρ : Nat → Int32} {b : Nat} (cA : Nat → ClassId) (D : va_G) (ad : Nat → Nat) {Wd as : List Nat} {env : xEv} {d : Nat} {outs : List xOut} (sz : Nat) (h6 : (∀ i, sc i = xN32 (ρ i) * 8)) (hE : xEO ρ env) (has : xCats as ≤ maxL) (hrun : xRun M Lz sc f k code mc ms rt d 0 (xEntL as maxL) [] Wd 0 0 env = some outs) :
    Met l y (.code y bb maxL rt :: xTb) { frames := d, cells := mc, slots := ms, locals := 60 * d } (xPc ρ b cA D ad Wd as sz) (xQc ρ b cA D ad Wd sz outs) mc ms (va_A (xWs ρ b cA ad Wd) sz) := by
  refine Met.ofW (cc := bb) (maxL := maxL) (ret := rt) hg.2.2.1 rfl ?_
  intro p e s m args below meth c s₁ B hml hv
  obtain ⟨rfl, hsz, hP, hK, hD0, hXX⟩ := hv
  have hx := B.exec
  have hb := B.bytes
  have hr := B.returns
  have hts0 := atoms_spec (ws := .code y bb maxL rt :: xTb) B.pre
  have hts : ∀ w ∈ xTb, w.before (as.map (xg ρ b ad)).toArray s = true := fun w hw => hts0 w (List.mem_cons_of_mem _ hw)
  have hown : s.vm.findClass y.cls = some m.cls := findClass_of_methodNamed B.named
  have hlocks := B.notSynchronized
  have hin : meth.name = y.name := (name_of_methodNamed B.named B.method).1
  subst hsz
  have hD := hD0.self (sz := s.heap.size)
  have hA : ∀ q : Nat, s.heap.size ≤ q → va_A (xWs ρ b cA ad Wd) s.heap.size q := fun q h => Or.inr h
  have hS : va_S (va_A (xWs ρ b cA ad Wd) s.heap.size) s.heap s.heap [] := va_S.rf
  have hl := lv_entry (as.map (xg ρ b ad)) (n := maxL) (by rw [xsl_len]; exact has)
  rw [lg_entry_eq]
  generalize (lg_sl (as.map (xg ρ b ad)) ++ List.replicate (maxL - (lg_sl (as.map (xg ρ b ad))).length) Slot.unset).toArray = ls at hl ⊢
  refine IH k own y bb maxL rt na mc ms code hM d 0 (xEntL as maxL) [] Wd 0 0 env outs hrun p e { frames := d, cells := mc, slots := ms, locals := 60 * d } s m _ below meth c _ ρ b cA D (va_A (xWs ρ b cA ad Wd) s.heap.size) s.heap ad Wd.length outs (fun _ h => h) ?_ ?_ ad s.heap [] ls ?_
  · exact ⟨hx, hb, hml, by rw [← hg.2.2.2.1]; exact hown, hts, hK, fun q => hin.trans q, Nat.le_refl _, Nat.le_refl _, Nat.le_refl _, Nat.le_refl _, hA, fun q => absurd q hk0, h6, hXX⟩
  · intro pc v W' env' cc cs hmem hE' hcc hcs hro ad' H locs ls' hP' hD' hS' hag
    refine W.widen (k := mc) (n := ms) hcc hcs ?_
    have hq : ∀ t : State, t.heap = H → s.WarmedH t.vm → ∀ r, r = xRv ρ b ad' v → xQc ρ b cA D ad Wd s.heap.size outs (as.map (xg ρ b ad)).toArray s (.returned r) t := by
      intro t ht hW r hrv
      exact ⟨⟨pc, v, W', env', cc, cs, ad', hmem, hE', by rw [hrv], by rw [ht]; exact hP', hD', hag⟩, hS'.F ht⟩
    rcases hro with ⟨hdg, hvi, hrt⟩ | ⟨hdg, hv1, hrt⟩ | ⟨hdg, hv11, hrt⟩
    · have hne : v ≠ 11 := xi11 hvi
      have e1 : xRs ρ b ad' v = [.int (xd32 ρ v)] := by unfold xRs; rw [if_neg hne, xgI hvi]
      have e2 : xRv ρ b ad' v = some (.int (xd32 ρ v)) := by unfold xRv; rw [if_neg hne, xgI hvi]
      rw [e1]
      rcases hrt with hrt | ⟨hrt, hv2⟩
      · exact W.zret (ty := .int) hx hb (hr.trans hrt) rfl (fun t ht hW => hq t ht hW _ e2.symm) hS'.2.2 hdg hlocks
      · refine W.zret (ty := .boolean) hx hb (hr.trans hrt) ?_ (fun t ht hW => hq t ht hW _ e2.symm) hS'.2.2 hdg hlocks
        rcases hv2 with rfl | rfl <;> (unfold xd32; rw [if_neg (by decide)]; decide +kernel)
    · have hne : v ≠ 11 := fun q => by rw [q] at hv1; cases hv1
      have e1 : xRs ρ b ad' v = [.long (lN (v / 8))] := by unfold xRs; rw [if_neg hne, xg1 hv1]
      have e2 : xRv ρ b ad' v = some (.long (lN (v / 8))) := by unfold xRv; rw [if_neg hne, xg1 hv1]
      rw [e1]
      exact W.lret hx hb (hr.trans hrt) (fun t ht hW => hq t ht hW _ e2.symm) hS'.2.2 hdg hlocks
    · have e1 : xRs ρ b ad' v = [] := by unfold xRs; rw [if_pos hv11]
      have e2 : xRv ρ b ad' v = none := by unfold xRv; rw [if_pos hv11]
      rw [e1]
      exact W.vret hx hb (hr.trans hrt) (fun t ht hW => hq t ht hW _ e2.symm) hS'.2.2 hdg hlocks
  · refine ⟨⟨xent_len maxL has, xlv_mono hl fun q hq => ?_⟩, ⟨hP, hD, hS⟩, hE, Nat.le_refl _, fun _ _ => rfl, fun _ => rfl⟩
    obtain ⟨cv, e1, e2, e3⟩ := xLl_mem.mp hq
    have := xent_at (ρ := ρ) (b := b) (ad := ad) maxL 0 q.1 cv e1 e2
    rw [Nat.zero_add, ← e3] at this
    exact this
section XCL
variable {p : Program} {l : Launch} {e : Env} {R : Room} {s : State} {m : MethodId} {args : Array Value} {below : List Frame} {meth : Method} {c : Code} {Q : State → Prop}
variable {ρ : Nat → Int32} {b : Nat} {cA : Nat → ClassId} {D : va_G} {A : Nat → Prop} {H0 : Heap} {nL n0 : Nat} {ad0 : Nat → Nat} {K : xKt} {outs o : List xOut}
variable {bb : ByteArray} {a1 a2 pc cc cs : Nat} {L S Wd : List Nat} {env : xEv} {ad : Nat → Nat} {H : Heap} {locs : List Loc} {ls : Array Slot}
/-- behind a call -/
theorem xBack {mc ms : Nat} {a : Array Value} {st0 rest : List Value} {oo : List xOut} (hr : va_Run p l e R s m args below meth c H locs cc cs mc ms (F0 m pc ls st0) rest (xQc ρ b cA D ad Wd H.size oo a) (va_A (xWs ρ b cA ad Wd) H.size)) (hS : va_S A H0 H locs) (hF : ∀ q, va_A (xWs ρ b cA ad Wd) H.size q → A q)
    (kk : ∀ (pr v : Nat) (W' : List Nat) (env' : xEv) (c1 c2 : Nat) (ad' : Nat → Nat) (H1 : Heap) (locs1 : List Loc), (pr, v, W', env', c1, c2) ∈ oo → xEO ρ env' → va_P D vwCl (xWs ρ b cA ad' W') H1 → va_D A (xWs ρ b cA ad' W') → xAg ad Wd.length ad' W' → va_S A H0 H1 locs1 → W p l e R s m args below meth c H1 locs1 (cc + mc) (cs + ms) Q (F0 m (pc + 3) ls (xRs ρ b ad' v ++ rest))) : W p l e R s m args below meth c H locs cc cs Q (F0 m pc ls st0) := by
  intro T hT X
  obtain ⟨v, st₀, t, T', Lc, h0, X', hL, e1, e2, ⟨⟨pr, vc, W', env', c1, c2, ad', hmem, hE, hv, hP, hD, hag⟩, hz, hk⟩, st⟩ := hr T hT X
  rw [h0] at hz hk
  cases hv
  have hS1 : va_S A H0 T'.heap (locs ++ Lc) := ⟨Nat.le_trans hS.1 (by rw [e1]; exact hz), fun q h1 h2 => by rw [e1, hk q (Nat.lt_of_lt_of_le h1 hS.1) (fun z => h2 (hF q z))]; exact hS.2.1 q h1 h2, fun q hq => by
    rcases List.mem_append.mp hq with h | h
    · exact hS.2.2 q h
    · exact hF _ (hL q h)⟩
  obtain ⟨t2, b1, b2⟩ := kk pr vc W' env' c1 c2 ad' T'.heap (locs ++ Lc) hmem hE (by rw [e1]; exact hP) (hD.weaken (fun _ q _ h => hF q.1 h)) hag hS1 T' rfl X'
  rw [← xRv_list] at b1
  exact ⟨t2, st t2 b1, b2⟩
/-- the kinds of call -/
def xCk (own : String) (idx : Nat) (y : MethodName) (na n : Nat) (rc : Nat → Bool) (i : Instr) (Wd : List Nat) : Prop :=
  (i = .invokevirtual idx ∧ na = n + 1 ∧ Jvm.Cond.methodLink own idx y ∈ xTb ∧ Jvm.Cond.instanceMethod y ∈ xTb ∧ Jvm.Cond.selects y.cls y y ∈ xTb ∧ ∀ o, rc o = true → o % 8 = 2 ∧ ∃ ci q, vwCl[ci]? = some q ∧ q.1 = y.cls ∧ xGet Wd (o / 8) % 18446744073709551616 = 8 * ci + 2) ∨
  (i = .invokespecial idx ∧ na = n + 1 ∧ y.name = "<init>" ∧ Jvm.Cond.instanceMethod y ∈ xTb ∧ (Jvm.Cond.methodLink own idx y ∈ xTb ∨ ∃ host, Jvm.Cond.methodLinkNest own idx y host ∈ lw_tbl) ∧ ∀ o, rc o = true → o % 8 = 2) ∨
  (i = .invokestatic idx ∧ na = n ∧ Jvm.Cond.methodLink own idx y ∈ xTb ∧ Jvm.Cond.static y ∈ xTb)
set_option maxHeartbeats 4000000 in
theorem xs_call {M : Nat → Option xMt} {Lz : Nat} {sc : Nat → Nat} {f : Nat} (IH : xSnd M Lz sc l f) (hx : p.tables.exec = Jvm.exec) (hb : c.code = bb) (hK : xHK p l e R s m args below meth c Q ρ b cA D A H0 nL ad0 n0 K outs) (hI : xInv ρ b cA D A H0 nL ad0 n0 ad H locs ls L Wd env) (ho : ∀ y ∈ o, y ∈ outs) {mc ms d k' : Nat} {rc : Nat → Bool} (h : xCall M (xRun M Lz sc f) mc ms d K k' rc pc L S Wd cc cs env = some o)
    {own : String} (hts : ∀ w ∈ xTb, w.before args s = true) (hown : s.vm.findClass own = some m.cls) (hKt : va_K D vwCl (xTys cA) s) (hml : c.maxLocals = nL) (hA : ∀ q, H0.size ≤ q → A q) (hmc : mc ≤ R.cells) (hms : ms ≤ R.slots) (hfr : d ≤ R.frames) (hlo : 60 * d ≤ R.locals) (h6 : (∀ i, sc i = xN32 (ρ i) * 8)) (hXX : xX s)
    {own' : String} {y : MethodName} {b' : ByteArray} {maxL : Nat} {rt : Option FieldType} {na mc' ms' n : Nat} {code : Nat → Option xRow} (hM : M k' = some (own', y, b', maxL, rt, na, mc', ms', code)) (hg : xMg own' y b' maxL rt) (hk0 : k' ≠ 0) (hn : (parseMethodDescriptor y.desc).map (fun d => d.parameters.length) = some n)
    {idx : Nat} {i : Instr} (hi : xCk own idx y na n rc i Wd) (hdg : decode bb pc = .ok (i, 3)) (hrt : i = .invokespecial idx → rt = none) : W p l e R s m args below meth c H locs cc cs Q (F0 m pc ls (S.map (xg ρ b ad))) := by
  unfold xCall at h
  rw [hM] at h
  dsimp only at h
  obtain ⟨bs, r, hSe, hbl, h⟩ := xTk_eq na S [] _ o h
  rw [List.append_nil] at h
  obtain ⟨hc, h⟩ := xbif h
  obtain ⟨hc, hrc⟩ := xand hc
  obtain ⟨hc, has⟩ := xand hc
  obtain ⟨hc, hd⟩ := xand hc
  obtain ⟨hc, hcs⟩ := xand hc
  obtain ⟨hca, hcc⟩ := xand hc
  have has := xble has
  have hd := xblt hd
  have hcs := xble hcs
  have hcc := xble hcc
  have hca := xble hca
  rw [xEnt_eq] at h
  cases hrun : xRun M Lz sc f k' code mc' ms' rt (d - 1) 0 (xEntL bs.reverse maxL) [] Wd 0 0 env with
  | none => rw [hrun] at h; cases h
  | some oo =>
    rw [hrun] at h
    dsimp only at h
    obtain ⟨hP, hD, hS⟩ := hI.2.1
    have hF : ∀ q, va_A (xWs ρ b cA ad Wd) H.size q → A q := by
      intro q hq
      rcases hq with ⟨kq, eq, hq⟩ | hq
      · exact hD.2 kq (q, eq) hq
      · exact hA q (Nat.le_trans hS.1 hq)
    have hMet := xMet IH hM hg hk0 (b := b) cA D ad H.size h6 hI.2.2.1 has hrun
    have hblind : FrameBlind (xPc ρ b cA D ad Wd bs.reverse H.size) := by
      intro a U g mk q
      obtain ⟨q0, q1, qP, qK, qD, qX⟩ := q
      exact ⟨q0, q1, qP, va_K.moved (u := U) (U := U.calling g mk a) (Vm.Alike.refl U.vm) qK, qD, xX.same (U := U.calling g mk a) rfl qX⟩
    have hpre : ∀ U : State, U.heap = H → s.WarmedH U.vm → xPc ρ b cA D ad Wd bs.reverse H.size (bs.reverse.map (xg ρ b ad)).toArray U := by
      intro U hU hW
      exact ⟨rfl, by rw [hU], by rw [hU]; exact hP, va_K.moved hW.alike hKt, hD.weaken (fun _ _ _ _ => trivial), hXX.warm hW⟩
    have hroom : (d - 1) + 1 ≤ R.frames ∧ 8 + (maxL + 11) + 60 * (d - 1) ≤ R.locals := by
      have := hg.2.2.2.2.2
      omega
    have hcats : ((r.map (xg ρ b ad)).map fun v => v.category).sum ≤ 8 := by rw [xCats_eq]; exact hca
    have hfit : cc + mc' ≤ R.cells ∧ cs + ms' ≤ R.slots := ⟨Nat.le_trans hcc hmc, Nat.le_trans hcs hms⟩
    have hd3 : y.cls ≠ "java/lang/invoke/MethodHandle" ∧ y.cls ≠ "java/lang/invoke/VarHandle" ∧ (parseMethodDescriptor y.desc).map (fun d => d.parameters.length) = some n := ⟨hg.2.2.2.2.1.1, hg.2.2.2.2.1.2, hn⟩
    have hSm : S.map (xg ρ b ad) = (bs.reverse.map (xg ρ b ad)).reverse ++ r.map (xg ρ b ad) := by
      rw [hSe, List.map_append, List.map_reverse, List.reverse_reverse]
    have fin : ∀ a : Array Value, va_Run p l e R s m args below meth c H locs cc cs mc' ms' (F0 m pc ls (S.map (xg ρ b ad))) (r.map (xg ρ b ad)) (xQc ρ b cA D ad Wd H.size oo a) (va_A (xWs ρ b cA ad Wd) H.size) → W p l e R s m args below meth c H locs cc cs Q (F0 m pc ls (S.map (xg ρ b ad))) := by
      intro a hr
      refine xBack hr hS hF fun pr v W' env' c1 c2 ad' H1 locs1 hmem hE' hP1 hD1 hag hS1 => ?_
      obtain ⟨x, hx1, hx2⟩ := xOuts_mem h hmem
      dsimp only at hx1
      obtain ⟨hwf, hx1⟩ := xbif hx1
      rw [xF_eq, xF_eq, xF_eq] at hx1
      rw [xLen_eq, xLen_eq] at hwf
      have hkeep : L.map (xg ρ b ad') = L.map (xg ρ b ad) ∧ r.map (xg ρ b ad') = r.map (xg ρ b ad) ∧ ∀ cv ∈ L, xg ρ b ad' cv = xg ρ b ad cv := by
        cases hb2 : Nat.beq W'.length Wd.length with
        | true =>
          have : ad' = ad := hag.2.2 (xbeq hb2)
          subst this
          exact ⟨rfl, rfl, fun _ _ => rfl⟩
        | false =>
          rw [hb2] at hwf
          obtain ⟨w1, w2⟩ := xand (show (xWfL Wd.length L && xWfL Wd.length r) = true from hwf)
          exact ⟨xmap_keep hag.2.1 w1, xmap_keep hag.2.1 w2, fun cv hcv => xg_keep hag.2.1 (xWfL_mem w1 cv hcv)⟩
      have hI' : xInv ρ b cA D A H0 nL ad0 n0 ad' H1 locs1 ls L W' env' := by
        refine ⟨⟨hI.1.1, xlv_mono hI.1.2 fun q hq => ?_⟩, ⟨hP1, hD1, hS1⟩, hE', ?_⟩
        · obtain ⟨cz, e1, e2, e3⟩ := xLl_mem.mp hq
          exact xLl_mem.mpr ⟨cz, e1, e2, by rw [e3, hkeep.2.2 cz (List.mem_of_getElem? e1)]⟩
        · obtain ⟨g1, g2, g3⟩ := hI.2.2.2
          obtain ⟨k1, k2, k3⟩ := hag
          refine ⟨by omega, fun i hi => by rw [k2 i (by omega), g2 i hi], fun hq => ?_⟩
          rw [k3 (by omega), g3 (by omega)]
      have k := hK _ _ _ _ _ _ _ _ hx1 (fun z hz => ho z (hx2 z hz)) _ _ _ _ hI'
      have e : (bif Nat.beq v 11 then r else v :: r).map (xg ρ b ad') = xRs ρ b ad' v ++ r.map (xg ρ b ad) := by
        unfold xRs
        cases hv : Nat.beq v 11 with
        | true => rw [cond_true, if_pos (xbeq hv), hkeep.2.1]; rfl
        | false =>
          have : ¬ v = 11 := fun q => by rw [q] at hv; cases hv
          rw [cond_false, if_neg this, List.map_cons, hkeep.2.1]
          rfl
      rw [e] at k
      exact k
    rcases hi with ⟨rfl, hna, hl, hinst, hsel, hrcv⟩ | ⟨rfl, hna, hnm, hinst, hl, hrcv⟩ | ⟨rfl, hna, hl, hst⟩
    · cases hbr : bs.reverse with
      | nil =>
        have hle := congrArg List.length hbr
        rw [List.length_reverse, List.length_nil] at hle
        omega
      | cons a0 as' =>
        rw [hbr] at hMet hblind hpre hrc
        have hal : as'.length = n := by
          have hle := congrArg List.length hbr
          rw [List.length_reverse, List.length_cons] at hle
          omega
        obtain ⟨h2, ci, q, hq, hqn, hcl⟩ := hrcv a0 hrc
        obtain ⟨e1, e2, e3⟩ := xE_obj (ρ := ρ) (b := b) (cA := cA) (ad := ad) hcl
        have he := xWs_get (ρ := ρ) (b := b) (cA := cA) (ad := ad) (xGet_some rfl e3)
        rw [e1] at he
        have hst0 : S.map (xg ρ b ad) = (as'.map (xg ρ b ad)).reverse ++ Value.ref (ad (a0 / 8)) :: r.map (xg ρ b ad) := by
          rw [hSm, hbr, List.map_cons, List.reverse_cons, xg2 h2, List.append_assoc]
          rfl
        have e0 : ((a0 :: as').map (xg ρ b ad)) = Value.ref (ad (a0 / 8)) :: as'.map (xg ρ b ad) := by rw [List.map_cons, xg2 h2]
        refine fin _ (va_runV (g := F0 m pc ls (S.map (xg ρ b ad))) (C := y.cls) (b := ad (a0 / 8)) (As := as'.map (xg ρ b ad)) (n := n) (cc := bb) (nL := nL) (Ts := xTb) (own := own) ⟨hx, hb, hml, hown, hts⟩ hMet ⟨callB_of n hts (xGoodIn hg.1) rfl rfl rfl (hts _ hg.2.1) (hts _ hl) hd3 hroom, hts _ hinst, hts _ hsel⟩ ⟨hblind, ?_, ?_⟩ rfl (by rw [List.length_map]; exact hal) hI.1.2.1 hst0 (lv_room hcats) hdg hfit)
        · obtain ⟨cell, f1, f2, f3⟩ := va_recv hKt hP hq he
          exact ⟨cell, f1, f2, by rw [← hqn]; exact f3⟩
        · intro U hU hW
          rw [← e0]
          exact hpre U hU hW
    · cases hbr : bs.reverse with
      | nil =>
        have hle := congrArg List.length hbr
        rw [List.length_reverse, List.length_nil] at hle
        omega
      | cons a0 as' =>
        rw [hbr] at hMet hblind hpre hrc
        have hal : as'.length = n := by
          have hle := congrArg List.length hbr
          rw [List.length_reverse, List.length_cons] at hle
          omega
        have h2 := hrcv a0 hrc
        have hst0 : S.map (xg ρ b ad) = (as'.map (xg ρ b ad)).reverse ++ Value.ref (ad (a0 / 8)) :: r.map (xg ρ b ad) := by
          rw [hSm, hbr, List.map_cons, List.reverse_cons, xg2 h2, List.append_assoc]
          rfl
        have e0 : ((a0 :: as').map (xg ρ b ad)) = Value.ref (ad (a0 / 8)) :: as'.map (xg ρ b ad) := by rw [List.map_cons, xg2 h2]
        have hrt0 := hrt rfl
        subst hrt0
        have hpre' : PreS s H (xPc ρ b cA D ad Wd (a0 :: as') H.size) (.ref (ad (a0 / 8)) :: as'.map (xg ρ b ad)) := ⟨hblind, fun U hU hW => by
          rw [← e0]
          exact hpre U hU hW⟩
        rcases hl with hl | ⟨host, hl⟩
        · exact fin _ (va_runI (g := F0 m pc ls (S.map (xg ρ b ad))) (b := ad (a0 / 8)) (As := as'.map (xg ρ b ad)) (n := n) (cc := bb) (nL := nL) (Ts := xTb) (own := own) ⟨hx, hb, hml, hown, hts⟩ hMet ⟨callB_of n hts (xGoodIn hg.1) rfl rfl rfl (hts _ hg.2.1) (hts _ hl) hd3 hroom, hnm, hts _ hinst⟩ hpre' rfl (by rw [List.length_map]; exact hal) hI.1.2.1 hst0 (lv_room hcats) hdg hfit)
        · exact fin _ (va_runIN (g := F0 m pc ls (S.map (xg ρ b ad))) (b := ad (a0 / 8)) (As := as'.map (xg ρ b ad)) (n := n) (cc := bb) (nL := nL) (Ts := xTb) (own := own) ⟨hx, hb, hml, hown, hts⟩ hMet ⟨va_cnB n hts (xGoodIn hg.1) rfl rfl rfl (hXX.2 _ _ _ _ hl) (hts _ hg.2.1) hd3 hroom, hnm, hts _ hinst⟩ hpre' rfl (by rw [List.length_map]; exact hal) hI.1.2.1 hst0 (lv_room hcats) hdg hfit)
    · exact fin _ (va_runS (g := F0 m pc ls (S.map (xg ρ b ad))) (As := bs.reverse.map (xg ρ b ad)) (n := n) (cc := bb) (nL := nL) (Ts := xTb) (own := own) ⟨hx, hb, hml, hown, hts⟩ hMet ⟨callB_of n hts (xGoodIn hg.1) rfl rfl rfl (hts _ hg.2.1) (hts _ hl) hd3 hroom, hts _ hst⟩ ⟨hblind, hpre⟩ rfl (by simp; omega) hI.1.2.1 hSm (lv_room hcats) hdg hfit)
end XCL
