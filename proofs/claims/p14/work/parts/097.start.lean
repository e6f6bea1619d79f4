/-! THE CLAIM OUT OF ONE WALK OF THE LAW'S BODY. Your part is whole_start (and what it stands on); all else here is the same for every law, but numbers. -/
def R_law : String := "RopeRanksLaw"
def lw_P (b : Addr) (xs : List Int32) (args : Array Value) (s : State) : Prop := args = #[.ref b] ∧ s.IntsAt b xs ∧ xs.length ≤ 3072 ∧ (Jvm.Cond.and given_1 narrow_1).before args s = true
def lw_Q (_ : Array Value) (s : State) (o : Outcome) (t : State) : Prop := o = .returned (some (.int 1)) ∧ Framed s o t [] 600000 7302250
def lw_Z (below : List Frame) (a : Array Value) (s : State) : State → Prop := fun t => ∃ o, t.status = .running ∧ Ended t below o ∧ lw_Q a s o t
/-- the law's own end, with 1 on the stack, nothing written that was there before, its room as the claim has it -/
theorem lw_ret {p : Program} {l : Launch} {e : Env} {s : State} {m : MethodId} {below : List Frame} {meth : Method} {c : Code} {b : Nat} (hx : p.tables.exec = Jvm.exec) (hb : c.code = code) (hr : meth.sig.returnType = ret) (hlocks : meth.locks = false) {pc : Nat} {H : Heap} {ls : Array Slot} (hdg : decode code pc = .ok (.ireturn, 1)) : W p l e room_1 s m #[Value.ref b] below meth c H [] 600000 7302250 (lw_Z below #[Value.ref b] s) (F0 m pc ls [.int 1]) := by
  intro T hT X
  obtain ⟨fs, hret, hrun, hended, hW, hframe⟩ := X.leave (v := some (.int 1)) (hlocks := hlocks) (fun h => by rw [hr] at h; cases h)
  have hmeth' : T.vm.method? m = some meth := X.method'
  refine ⟨T.setFrames fs, ?_, .returned (some (.int 1)), hrun, hended, rfl, ⟨_, rfl⟩, hW, hframe⟩
  jvm_step X.here [X.here.top, hx, hb, hdg, hmeth', hr, ret, narrow_b1]
  (try refine ⟨rfl, ?_⟩); (try refine ⟨rfl, ?_⟩)
  first | (intro acts; rw [hret _ acts rfl rfl rfl]) | rw [hret _ _ rfl rfl rfl]
  exact Steps.refl _
/-- what holds at the law's entry: the machine, the code, the tables' words (any of lw_tbl by 'hts w (by decide +kernel)'), the script of L ints xs at the cell b, what the Statement gives of the start (any of its parts by flat_of_before) -/
def lw_At (p : Program) (s : State) (m : MethodId) (meth : Method) (c : Code) (b L : Nat) (xs : Nat → Int32) : Prop :=
  p.tables.exec = Jvm.exec ∧ c.code = code ∧ meth.sig.returnType = ret ∧ c.maxLocals = 4 ∧ s.vm.findClass R_law = some m.cls ∧ (∀ w ∈ lw_tbl, w.before #[Value.ref b] s = true) ∧ va_X b L xs s s.heap ∧ b < s.heap.size ∧ meth.locks = false ∧ (Jvm.Cond.and given_1 narrow_1).before #[Value.ref b] s = true
theorem xarr {s : State} {args : Array Value} {ty : FieldType} (h : (Jvm.Cond.arrayClass ty).before args s = true) (hp : ty = .int ∨ ty = .long ∨ ty = .boolean) : ∃ cB, ArrOfT s cB ty ∧ va_RA s cB ty := by
  obtain ⟨cB, kA, comp, h1, h2, h3⟩ := Cond.arrayClass_spec h
  refine ⟨cB, fun n z => ⟨fun k h => (by cases h), kA, h2, comp, h3⟩, ?_⟩
  rcases hp with rfl | rfl | rfl <;> exact h1
theorem xarrO {s : State} {args : Array Value} {C : String} (h : (Jvm.Cond.arrayOver (.object C)).before args s = true) : ∃ cB, ArrOfT s cB (.object C) ∧ va_RA s cB (.object C) := by
  obtain ⟨comp, cB, kA, h1, -, h2, h3, h4⟩ := Cond.arrayOver_spec h
  exact ⟨cB, fun n z => ⟨fun k h => (by cases h), kA, h2, comp, h3⟩, kA, comp, h2, h3, h1, h4⟩
theorem xover : Jvm.Cond.arrayOver (.object RX5) ∈ lw_tbl := by decide +kernel
theorem xlaw0 : xM 0 = some (RL, yL_law, cL_law, 4, some .boolean, 1, 600000, 7302250, xG 1246 xc_L_law) := rfl
/-! the constructors, up to the loop -/
def xZ : Nat → Nat := fun _ => 0
noncomputable def xRunK (K : xKt) (n : Nat) : xKt := Nat.rec (motive := fun _ => xKt) K (fun _ ih pc L S Wd cc cs env => match (xG 1246 xc_L_law) pc with
  | none => none
  | some (oc, i, _, a1, a2, _) => bif Nat.blt oc 56 then xDs oc ih a1 a2 pc L S Wd cc cs env else xDg xM 0 xZ (xRun xM 0 xZ 4000) 1 600000 7302250 (some .boolean) 1000 ih oc i a1 a2 pc L S Wd cc cs env) n
/-- a cell as it must stand behind the constructors -/
def zDec (kd : Nat × Nat) (dg : Nat) : Int := match kd.1 with
  | 0 => xs32 (dg / 8)
  | 1 => xs64 (dg / 8)
  | 4 => xs64 dg
  | _ => 0
noncomputable def zMem (Wd : List Nat) : zM := fun r k => zDec (zKd r k) (xDn (xGet Wd r) k 1)
def zCkd (kd : Nat × Nat) (dg : Nat) : Bool := match kd.1 with
  | 0 => Nat.beq (dg % 8) 0 && Nat.blt (dg / 8) 4294967296
  | 1 => Nat.beq (dg % 8) 1 && Nat.blt (dg / 8) 18446744073709551616
  | 2 => Nat.beq dg (kd.2 * 8 + 2)
  | 4 => Nat.blt dg 18446744073709551616
  | 5 => Nat.beq dg (kd.2 + 1)
  | 7 => true
  | _ => false
def zCk1 (c r k : Nat) : Bool := zCkd (zKd r k) (xDn c k 1)
noncomputable def zCk2 (Wd : List Nat) (r k : Nat) : Bool := match zBd r k with
  | some (lo, hi) => decide (lo ≤ zMem Wd r k) && decide (zMem Wd r k ≤ hi)
  | none => true
def zWlen (r : Nat) : Nat := bif Nat.beq (zHd r % 8) 2 then 30 else zHd r / 8
noncomputable def zCk0 (Wd : List Nat) : Bool := Nat.beq (xLen Wd) 85 && ((List.range 85).all (fun r => Nat.beq (xGet Wd r % 18446744073709551616) (zHd r) && (Nat.beq (xGet Wd r / 2 ^ (64 + 72 * zWlen r)) 0 && (List.range (zWlen r)).all (fun k => zCk1 (xGet Wd r) r k && zCk2 Wd r k))) && (decide (zMem Wd 72 0 = 0) && decide (zMem Wd 72 1 = 0)))
/-- the records alike behind the constructors -/
noncomputable def qCk (Wd : List Nat) : Bool := (decide (zMem Wd 1 0 = zMem Wd 70 822)) && ((decide (zMem Wd 1 1 = zMem Wd 70 823)) && ((decide (zMem Wd 1 4 = zMem Wd 70 824)) && ((decide (zMem Wd 1 5 = zMem Wd 70 825)) && (((List.range 10).all (fun i => decide (zMem Wd 70 i = zMem Wd 2 i))) && (((List.range 40).all (fun i => decide (zMem Wd 70 (10 + 2 * i) = zMem Wd 3 i))) && (((List.range 40).all (fun i => decide (zMem Wd 70 (11 + 2 * i) = zMem Wd 4 i))) && (((List.range 60).all (fun i => decide (zMem Wd 70 (90 + 6 * i) = zMem Wd 5 i))) && (((List.range 60).all (fun i => decide (zMem Wd 70 (91 + 6 * i) = zMem Wd 6 i))) && (((List.range 60).all (fun i => decide (zMem Wd 70 (92 + 6 * i) = zMem Wd 7 i))) && (((List.range 60).all (fun i => decide (zMem Wd 70 (93 + 6 * i) = zMem Wd 8 i))) && (((List.range 4).all (fun i => decide (zMem Wd 70 (450 + 52 * i) = zMem Wd 9 i))) && (((List.range 4).all (fun i => decide (zMem Wd 70 (451 + 52 * i) = zMem Wd 10 i))) && (((List.range 4).all (fun i => (List.range 50).all (fun j => decide (zMem Wd 70 (452 + 52 * i + j) = zMem Wd 11 (50 * i + j))))) && (((List.range 160).all (fun i => decide (zMem Wd 70 (658 + i) = zMem Wd 12 i))) && (((List.range 4).all (fun i => decide (zMem Wd 70 (818 + i) = zMem Wd 13 i))) && (((List.range 60).all (fun i => decide (zMem Wd 70 (94 + 6 * i) = zbt (zMem Wd 1 2) i))) && (((List.range 60).all (fun i => decide (zMem Wd 70 (95 + 6 * i) = zbt (zMem Wd 1 3) i))) && (((List.range 60).all (fun i => decide (zbt (zMem Wd 1 2) i = 0 ∧ zbt (zMem Wd 1 3) i = 0))) && ((decide (zMem Wd 41 0 = 0)) && ((decide (zMem Wd 41 1 = 0)) && ((decide (zMem Wd 72 0 = 0)) && (decide (zMem Wd 72 1 = 0)))))))))))))))))))))))
noncomputable def zCk (Wd : List Nat) : Bool := zCk0 Wd && qCk Wd
noncomputable def xKz : xKt := fun pc L S Wd cc cs env => bif Nat.beq pc 18 && (decide (L = [6, 2, 554, 0]) && (decide (S = []) && (zCk Wd && (Nat.ble cc 600000 && (Nat.ble cs 7302250 && decide (env = [])))))) then some [] else none
def xNil (r : xRes) : Bool := match r with
  | some [] => true
  | _ => false
theorem xNil_ok {r : xRes} (h : xNil r = true) : r = some [] := by
  unfold xNil at h
  split at h
  · rfl
  · cases h
noncomputable def xPro : Bool := xNil (xRunK xKz 10 0 [6, 11, 11, 11] [] [] 0 0 [])
theorem xPro_ok : xPro = true := by decide +kernel
