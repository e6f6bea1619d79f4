/-! one step of the executor is sound, whatever comes behind it -/
set_option maxHeartbeats 8000000 in
theorem xStep {M : Nat → Option xMt} (hMa : xMall M) (Lz : Nat) (sc : Nat → Nat) (l : Launch) (f : Nat) (IH : xSnd M Lz sc l f) {k : Nat} {own : String} {y : MethodName} {bb : ByteArray} {maxL : Nat} {rt : Option FieldType} {mc ms : Nat} {code : Nat → Option xRow} (hrows : ∀ (pc : Nat) (row : xRow), code pc = some row → xChk M own y.name bb pc row = true) {d pc : Nat} {L S Wd : List Nat} {cc cs : Nat} {env : xEv} {o : List xOut} (K : xKt)
    (h : (match code pc with
      | none => none
      | some (oc, i, _, a1, a2, _) => bif Nat.blt oc 56 then xDs oc K a1 a2 pc L S Wd cc cs env else xDg M Lz sc (xRun M Lz sc f) k mc ms rt d K oc i a1 a2 pc L S Wd cc cs env) = some o)
    {p : Program} {e : Env} {R : Room} {s : State} {m : MethodId} {args : Array Value} {below : List Frame} {meth : Method} {c : Code} {Q : State → Prop} {ρ : Nat → Int32} {b : Nat} {cA : Nat → ClassId} {D : va_G} {A : Nat → Prop} {H0 : Heap} {ad0 : Nat → Nat} {n0 : Nat} {outs : List xOut} (ho : ∀ z ∈ o, z ∈ outs)
    (hcx : xCx p R s m args meth c ρ b cA D A H0 Lz sc k own y bb maxL mc ms d) (hfin : xFin p l e R s m args below meth c Q ρ b cA D A H0 ad0 n0 bb rt mc ms outs) (hK : xHK p l e R s m args below meth c Q ρ b cA D A H0 maxL ad0 n0 K outs)
    {ad : Nat → Nat} {H : Heap} {locs : List Loc} {ls : Array Slot} (hI : xInv ρ b cA D A H0 maxL ad0 n0 ad H locs ls L Wd env) : W p l e R s m args below meth c H locs cc cs Q (F0 m pc ls (S.map (xg ρ b ad))) := by
  obtain ⟨hx, hb, hml, hown, hts, hKt, hinit, hmc, hms, hfr, hlo, hA, hX, h6, hXX⟩ := hcx
  cases hrow : code pc with
  | none => rw [hrow] at h; cases h
  | some row =>
    rw [hrow] at h
    have hchk := hrows pc row hrow
    obtain ⟨oc, i, len, a1, a2, a3⟩ := row
    dsimp only at h
    obtain ⟨hdg, hch⟩ := xand (show (decide (decode bb pc = .ok (i, len)) && xCh M own y.name pc oc len a1 a2 a3 i) = true from hchk)
    have hdg := of_decide_eq_true hdg
    cases i with
    | iconst n =>
      have g := hch
      obtain ⟨g0, g⟩ := xand g
      obtain ⟨g1, g⟩ := xand g
      obtain ⟨g2, g⟩ := xand g
      have g3 := g
      have e0 := xbeq g0
      subst e0
      have e1 := xbeq g1
      subst e1
      have h : xo_push1 K a1 a2 pc L S Wd cc cs env = some o := h
      exact xs_pushI1 hx hb hK hI ho h hdg (xbeq g2) (of_decide_eq_true g3)
    | lconst n =>
      have g := hch
      obtain ⟨g0, g⟩ := xand g
      obtain ⟨g1, g⟩ := xand g
      obtain ⟨g2, g⟩ := xand g
      have g3 := g
      have e0 := xbeq g0
      subst e0
      have e1 := xbeq g1
      subst e1
      have h : xo_push1 K a1 a2 pc L S Wd cc cs env = some o := h
      exact xs_pushL1 hx hb hK hI ho h hdg (xbeq g2) (of_decide_eq_true g3)
    | bipush n =>
      have g := hch
      obtain ⟨g0, g⟩ := xand g
      obtain ⟨g1, g⟩ := xand g
      obtain ⟨g2, g⟩ := xand g
      have g3 := g
      have e0 := xbeq g0
      subst e0
      have e1 := xbeq g1
      subst e1
      have h : xo_push2 K a1 a2 pc L S Wd cc cs env = some o := h
      exact xs_bipush hx hb hK hI ho h hdg (xbeq g2) (of_decide_eq_true g3)
    | sipush n =>
      have g := hch
      obtain ⟨g0, g⟩ := xand g
      obtain ⟨g1, g⟩ := xand g
      obtain ⟨g2, g⟩ := xand g
      have g3 := g
      have e0 := xbeq g0
      subst e0
      have e1 := xbeq g1
      subst e1
      have h : xo_push3 K a1 a2 pc L S Wd cc cs env = some o := h
      exact xs_sipush hx hb hK hI ho h hdg (xbeq g2) (of_decide_eq_true g3)
    | ldc n =>
      have g := hch
      obtain ⟨g0, g⟩ := xand g
      obtain ⟨g1, g⟩ := xand g
      obtain ⟨g2, g⟩ := xand g
      have g3 := g
      have e0 := xbeq g0
      subst e0
      have e1 := xbeq g1
      subst e1
      have h : xo_push2 K a1 a2 pc L S Wd cc cs env = some o := h
      exact xs_ldc hx hb hK hI ho h hown hdg (xbeq g2) (hts _ (xAt_ok g3))
    | ldc_w n =>
      have g := hch
      obtain ⟨g0, g⟩ := xand g
      obtain ⟨g1, g⟩ := xand g
      obtain ⟨g2, g⟩ := xand g
      have g3 := g
      have e0 := xbeq g0
      subst e0
      have e1 := xbeq g1
      subst e1
      have h : xo_push3 K a1 a2 pc L S Wd cc cs env = some o := h
      exact xs_ldcw hx hb hK hI ho h hown hdg (xbeq g2) (hts _ (xAt_ok g3))
    | ldc2_w n =>
      have g := hch
      obtain ⟨g0, g⟩ := xand g
      obtain ⟨g1, g⟩ := xand g
      obtain ⟨g2, g⟩ := xand g
      have g3 := g
      have e0 := xbeq g0
      subst e0
      have e1 := xbeq g1
      subst e1
      have h : xo_push3 K a1 a2 pc L S Wd cc cs env = some o := h
      exact xs_ldc2 hx hb hK hI ho h hown hdg (xbeq g2) (hts _ (xAt_ok g3))
    | iload_n n =>
      have g := hch
      obtain ⟨g0, g⟩ := xand g
      obtain ⟨g1, g⟩ := xand g
      have g2 := g
      have e0 := xbeq g0
      subst e0
      have e1 := xbeq g1
      subst e1
      have h : xo_iload1 K a1 a2 pc L S Wd cc cs env = some o := h
      exact xs_iload1 hx hb hK hI ho h hdg (xbeq g2)
    | iload n =>
      have g := hch
      obtain ⟨g0, g⟩ := xand g
      obtain ⟨g1, g⟩ := xand g
      have g2 := g
      have e0 := xbeq g0
      subst e0
      have e1 := xbeq g1
      subst e1
      have eS := xbeq g2
      subst eS
      have h : xo_iload2 K n a2 pc L S Wd cc cs env = some o := h
      exact xs_iload2 hx hb hK hI ho h hdg
    | lload_n n =>
      have g := hch
      obtain ⟨g0, g⟩ := xand g
      obtain ⟨g1, g⟩ := xand g
      have g2 := g
      have e0 := xbeq g0
      subst e0
      have e1 := xbeq g1
      subst e1
      have h : xo_lload1 K a1 a2 pc L S Wd cc cs env = some o := h
      exact xs_lload1 hx hb hK hI ho h hdg (xbeq g2)
    | lload n =>
      have g := hch
      obtain ⟨g0, g⟩ := xand g
      obtain ⟨g1, g⟩ := xand g
      have g2 := g
      have e0 := xbeq g0
      subst e0
      have e1 := xbeq g1
      subst e1
      have eS := xbeq g2
      subst eS
      have h : xo_lload2 K n a2 pc L S Wd cc cs env = some o := h
      exact xs_lload2 hx hb hK hI ho h hdg
    | aload_n n =>
      have g := hch
      obtain ⟨g0, g⟩ := xand g
      obtain ⟨g1, g⟩ := xand g
      have g2 := g
      have e0 := xbeq g0
      subst e0
      have e1 := xbeq g1
      subst e1
      have h : xo_aload1 K a1 a2 pc L S Wd cc cs env = some o := h
      exact xs_aload1 hx hb hK hI ho h hdg (xbeq g2)
    | aload n =>
      have g := hch
      obtain ⟨g0, g⟩ := xand g
      obtain ⟨g1, g⟩ := xand g
      have g2 := g
      have e0 := xbeq g0
      subst e0
      have e1 := xbeq g1
      subst e1
      have eS := xbeq g2
      subst eS
      have h : xo_aload2 K n a2 pc L S Wd cc cs env = some o := h
      exact xs_aload2 hx hb hK hI ho h hdg
    | istore_n n =>
      have g := hch
      obtain ⟨g0, g⟩ := xand g
      obtain ⟨g1, g⟩ := xand g
      have g2 := g
      have e0 := xbeq g0
      subst e0
      have e1 := xbeq g1
      subst e1
      have h : xo_istore1 K a1 a2 pc L S Wd cc cs env = some o := h
      exact xs_istore1 hx hb hK hI ho h hdg (xbeq g2)
    | istore n =>
      have g := hch
      obtain ⟨g0, g⟩ := xand g
      obtain ⟨g1, g⟩ := xand g
      have g2 := g
      have e0 := xbeq g0
      subst e0
      have e1 := xbeq g1
      subst e1
      have eS := xbeq g2
      subst eS
      have h : xo_istore2 K n a2 pc L S Wd cc cs env = some o := h
      exact xs_istore2 hx hb hK hI ho h hdg
    | astore_n n =>
      have g := hch
      obtain ⟨g0, g⟩ := xand g
      obtain ⟨g1, g⟩ := xand g
      have g2 := g
      have e0 := xbeq g0
      subst e0
      have e1 := xbeq g1
      subst e1
      have h : xo_astore1 K a1 a2 pc L S Wd cc cs env = some o := h
      exact xs_astore1 hx hb hK hI ho h hdg (xbeq g2)
    | astore n =>
      have g := hch
      obtain ⟨g0, g⟩ := xand g
      obtain ⟨g1, g⟩ := xand g
      have g2 := g
      have e0 := xbeq g0
      subst e0
      have e1 := xbeq g1
      subst e1
      have eS := xbeq g2
      subst eS
      have h : xo_astore2 K n a2 pc L S Wd cc cs env = some o := h
      exact xs_astore2 hx hb hK hI ho h hdg
    | lstore_n n =>
      have g := hch
      obtain ⟨g0, g⟩ := xand g
      obtain ⟨g1, g⟩ := xand g
      have g2 := g
      have e0 := xbeq g0
      subst e0
      have e1 := xbeq g1
      subst e1
      have h : xo_lstore1 K a1 a2 pc L S Wd cc cs env = some o := h
      exact xs_lstore1 hx hb hK hI ho h hdg (xbeq g2)
    | lstore n =>
      have g := hch
      obtain ⟨g0, g⟩ := xand g
      obtain ⟨g1, g⟩ := xand g
      have g2 := g
      have e0 := xbeq g0
      subst e0
      have e1 := xbeq g1
      subst e1
      have eS := xbeq g2
      subst eS
      have h : xo_lstore2 K n a2 pc L S Wd cc cs env = some o := h
      exact xs_lstore2 hx hb hK hI ho h hdg
    | iinc j n =>
      have g := hch
      obtain ⟨g0, g⟩ := xand g
      obtain ⟨g1, g⟩ := xand g
      obtain ⟨g2, g⟩ := xand g
      have g3 := g
      have e0 := xbeq g0
      subst e0
      have e1 := xbeq g1
      subst e1
      have eS := xbeq g2
      subst eS
      have h : xo_iinc K j a2 pc L S Wd cc cs env = some o := h
      exact xs_iinc hx hb hK hI ho h hdg (of_decide_eq_true g3)
    | iadd =>
      have g := hch
      obtain ⟨g0, g⟩ := xand g
      have g1 := g
      have e0 := xbeq g0
      subst e0
      have e1 := xbeq g1
      subst e1
      have h : xo_iadd K a1 a2 pc L S Wd cc cs env = some o := h
      exact xs_iadd hx hb hK hI ho h hdg
    | isub =>
      have g := hch
      obtain ⟨g0, g⟩ := xand g
      have g1 := g
      have e0 := xbeq g0
      subst e0
      have e1 := xbeq g1
      subst e1
      have h : xo_isub K a1 a2 pc L S Wd cc cs env = some o := h
      exact xs_isub hx hb hK hI ho h hdg
    | imul =>
      have g := hch
      obtain ⟨g0, g⟩ := xand g
      have g1 := g
      have e0 := xbeq g0
      subst e0
      have e1 := xbeq g1
      subst e1
      have h : xo_imul K a1 a2 pc L S Wd cc cs env = some o := h
      exact xs_imul hx hb hK hI ho h hdg
    | idiv =>
      have g := hch
      obtain ⟨g0, g⟩ := xand g
      have g1 := g
      have e0 := xbeq g0
      subst e0
      have e1 := xbeq g1
      subst e1
      have h : xo_idiv K a1 a2 pc L S Wd cc cs env = some o := h
      exact xs_idiv hx hb hK hI ho h hdg
    | irem =>
      have g := hch
      obtain ⟨g0, g⟩ := xand g
      have g1 := g
      have e0 := xbeq g0
      subst e0
      have e1 := xbeq g1
      subst e1
      have h : xo_irem K a1 a2 pc L S Wd cc cs env = some o := h
      exact xs_irem hx hb hK hI ho h hdg
    | ior =>
      have g := hch
      obtain ⟨g0, g⟩ := xand g
      have g1 := g
      have e0 := xbeq g0
      subst e0
      have e1 := xbeq g1
      subst e1
      have h : xo_ior K a1 a2 pc L S Wd cc cs env = some o := h
      exact xs_ior hx hb hK hI ho h hdg
    | ixor =>
      have g := hch
      obtain ⟨g0, g⟩ := xand g
      have g1 := g
      have e0 := xbeq g0
      subst e0
      have e1 := xbeq g1
      subst e1
      have h : xo_ixor K a1 a2 pc L S Wd cc cs env = some o := h
      exact xs_ixor hx hb hK hI ho h hdg
    | ishl =>
      have g := hch
      obtain ⟨g0, g⟩ := xand g
      have g1 := g
      have e0 := xbeq g0
      subst e0
      have e1 := xbeq g1
      subst e1
      have h : xo_ishl K a1 a2 pc L S Wd cc cs env = some o := h
      exact xs_ishl hx hb hK hI ho h hdg
    | ishr =>
      have g := hch
      obtain ⟨g0, g⟩ := xand g
      have g1 := g
      have e0 := xbeq g0
      subst e0
      have e1 := xbeq g1
      subst e1
      have h : xo_ishr K a1 a2 pc L S Wd cc cs env = some o := h
      exact xs_ishr hx hb hK hI ho h hdg
    | iushr =>
      have g := hch
      obtain ⟨g0, g⟩ := xand g
      have g1 := g
      have e0 := xbeq g0
      subst e0
      have e1 := xbeq g1
      subst e1
      have h : xo_iushr K a1 a2 pc L S Wd cc cs env = some o := h
      exact xs_iushr hx hb hK hI ho h hdg
    | ladd =>
      have g := hch
      obtain ⟨g0, g⟩ := xand g
      have g1 := g
      have e0 := xbeq g0
      subst e0
      have e1 := xbeq g1
      subst e1
      have h : xo_ladd K a1 a2 pc L S Wd cc cs env = some o := h
      exact xs_ladd hx hb hK hI ho h hdg
    | lsub =>
      have g := hch
      obtain ⟨g0, g⟩ := xand g
      have g1 := g
      have e0 := xbeq g0
      subst e0
      have e1 := xbeq g1
      subst e1
      have h : xo_lsub K a1 a2 pc L S Wd cc cs env = some o := h
      exact xs_lsub hx hb hK hI ho h hdg
    | lmul =>
      have g := hch
      obtain ⟨g0, g⟩ := xand g
      have g1 := g
      have e0 := xbeq g0
      subst e0
      have e1 := xbeq g1
      subst e1
      have h : xo_lmul K a1 a2 pc L S Wd cc cs env = some o := h
      exact xs_lmul hx hb hK hI ho h hdg
    | land =>
      have g := hch
      obtain ⟨g0, g⟩ := xand g
      have g1 := g
      have e0 := xbeq g0
      subst e0
      have e1 := xbeq g1
      subst e1
      have h : xo_land K a1 a2 pc L S Wd cc cs env = some o := h
      exact xs_land hx hb hK hI ho h hdg
    | lor =>
      have g := hch
      obtain ⟨g0, g⟩ := xand g
      have g1 := g
      have e0 := xbeq g0
      subst e0
      have e1 := xbeq g1
      subst e1
      have h : xo_lor K a1 a2 pc L S Wd cc cs env = some o := h
      exact xs_lor hx hb hK hI ho h hdg
    | lxor =>
      have g := hch
      obtain ⟨g0, g⟩ := xand g
      have g1 := g
      have e0 := xbeq g0
      subst e0
      have e1 := xbeq g1
      subst e1
      have h : xo_lxor K a1 a2 pc L S Wd cc cs env = some o := h
      exact xs_lxor hx hb hK hI ho h hdg
    | lshl =>
      have g := hch
      obtain ⟨g0, g⟩ := xand g
      have g1 := g
      have e0 := xbeq g0
      subst e0
      have e1 := xbeq g1
      subst e1
      have h : xo_lshl K a1 a2 pc L S Wd cc cs env = some o := h
      exact xs_lshl hx hb hK hI ho h hdg
    | lshr =>
      have g := hch
      obtain ⟨g0, g⟩ := xand g
      have g1 := g
      have e0 := xbeq g0
      subst e0
      have e1 := xbeq g1
      subst e1
      have h : xo_lshr K a1 a2 pc L S Wd cc cs env = some o := h
      exact xs_lshr hx hb hK hI ho h hdg
    | lushr =>
      have g := hch
      obtain ⟨g0, g⟩ := xand g
      have g1 := g
      have e0 := xbeq g0
      subst e0
      have e1 := xbeq g1
      subst e1
      have h : xo_lushr K a1 a2 pc L S Wd cc cs env = some o := h
      exact xs_lushr hx hb hK hI ho h hdg
    | i2l =>
      have g := hch
      obtain ⟨g0, g⟩ := xand g
      have g1 := g
      have e0 := xbeq g0
      subst e0
      have e1 := xbeq g1
      subst e1
      have h : xo_i2l K a1 a2 pc L S Wd cc cs env = some o := h
      exact xs_i2l hx hb hK hI ho h hdg
    | l2i =>
      have g := hch
      obtain ⟨g0, g⟩ := xand g
      have g1 := g
      have e0 := xbeq g0
      subst e0
      have e1 := xbeq g1
      subst e1
      have h : xo_l2i K a1 a2 pc L S Wd cc cs env = some o := h
      exact xs_l2i hx hb hK hI ho h hdg
    | ineg =>
      have g := hch
      obtain ⟨g0, g⟩ := xand g
      have g1 := g
      have e0 := xbeq g0
      subst e0
      have e1 := xbeq g1
      subst e1
      have h : xo_ineg K a1 a2 pc L S Wd cc cs env = some o := h
      exact xs_ineg hx hb hK hI ho h hdg
    | lcmp =>
      have g := hch
      obtain ⟨g0, g⟩ := xand g
      have g1 := g
      have e0 := xbeq g0
      subst e0
      have e1 := xbeq g1
      subst e1
      have h : xo_lcmp K a1 a2 pc L S Wd cc cs env = some o := h
      exact xs_lcmp hx hb hK hI ho h hdg
    | dup =>
      have g := hch
      obtain ⟨g0, g⟩ := xand g
      have g1 := g
      have e0 := xbeq g0
      subst e0
      have e1 := xbeq g1
      subst e1
      have h : xo_dup K a1 a2 pc L S Wd cc cs env = some o := h
      exact xs_dup hx hb hK hI ho h hdg
    | dup_x1 =>
      have g := hch
      obtain ⟨g0, g⟩ := xand g
      have g1 := g
      have e0 := xbeq g0
      subst e0
      have e1 := xbeq g1
      subst e1
      have h : xo_dup_x1 K a1 a2 pc L S Wd cc cs env = some o := h
      exact xs_dup_x1 hx hb hK hI ho h hdg
    | dup2 =>
      have g := hch
      obtain ⟨g0, g⟩ := xand g
      have g1 := g
      have e0 := xbeq g0
      subst e0
      have e1 := xbeq g1
      subst e1
      have h : xo_dup2 K a1 a2 pc L S Wd cc cs env = some o := h
      exact xs_dup2 hx hb hK hI ho h hdg
    | iand =>
      have g := hch
      obtain ⟨g0, g⟩ := xand g
      have g1 := g
      have e0 := xbeq g0
      subst e0
      have e1 := xbeq g1
      subst e1
      have h : xo_iand K a1 a2 pc L S Wd cc cs env = some o := h
      exact xs_iand hx hb hK hI ho h hdg
    | pop =>
      have g := hch
      obtain ⟨g0, g⟩ := xand g
      have g1 := g
      have e0 := xbeq g0
      subst e0
      have e1 := xbeq g1
      subst e1
      have h : xo_pop K pc L S Wd cc cs env = some o := h
      exact xs_pop hx hb hK hI ho h hdg
    | pop2 =>
      have g := hch
      obtain ⟨g0, g⟩ := xand g
      have g1 := g
      have e0 := xbeq g0
      subst e0
      have e1 := xbeq g1
      subst e1
      have h : xo_pop2 K pc L S Wd cc cs env = some o := h
      exact xs_pop2 hx hb hK hI ho h hdg
    | lneg =>
      have g := hch
      obtain ⟨g0, g⟩ := xand g
      have g1 := g
      have e0 := xbeq g0
      subst e0
      have e1 := xbeq g1
      subst e1
      have h : xo_lneg K pc L S Wd cc cs env = some o := h
      exact xs_lneg hx hb hK hI ho h hdg
    | ldiv =>
      have g := hch
      obtain ⟨g0, g⟩ := xand g
      have g1 := g
      have e0 := xbeq g0
      subst e0
      have e1 := xbeq g1
      subst e1
      have h : xo_ldiv K pc L S Wd cc cs env = some o := h
      exact xs_ldiv hx hb hK hI ho h hdg
    | lrem =>
      have g := hch
      obtain ⟨g0, g⟩ := xand g
      have g1 := g
      have e0 := xbeq g0
      subst e0
      have e1 := xbeq g1
      subst e1
      have h : xo_lrem K pc L S Wd cc cs env = some o := h
      exact xs_lrem hx hb hK hI ho h hdg
    | ifCond q off =>
      have g := hch
      obtain ⟨g0, g⟩ := xand g
      obtain ⟨g1, g⟩ := xand g
      obtain ⟨g2, g⟩ := xand g
      have g3 := g
      have e0 := xbeq g0
      subst e0
      have e1 := xbeq g1
      subst e1
      have h : xo_ifC K a1 a2 pc L S Wd cc cs env = some o := h
      exact xs_ifC hx hb hK hI ho h hdg (of_decide_eq_true g2) (xbeq g3)
    | if_icmp q off =>
      have g := hch
      obtain ⟨g0, g⟩ := xand g
      obtain ⟨g1, g⟩ := xand g
      obtain ⟨g2, g⟩ := xand g
      have g3 := g
      have e0 := xbeq g0
      subst e0
      have e1 := xbeq g1
      subst e1
      have h : xo_icmp K a1 a2 pc L S Wd cc cs env = some o := h
      exact xs_icmp hx hb hK hI ho h hdg (of_decide_eq_true g2) (xbeq g3)
    | goto off =>
      have g := hch
      obtain ⟨g0, g⟩ := xand g
      obtain ⟨g1, g⟩ := xand g
      have g2 := g
      have e0 := xbeq g0
      subst e0
      have e1 := xbeq g1
      subst e1
      have h : xo_goto K a1 a2 pc L S Wd cc cs env = some o := h
      exact xs_goto hx hb hK hI ho h hdg (of_decide_eq_true g2)
    | iastore =>
      have g := hch
      obtain ⟨g0, g⟩ := xand g
      have g1 := g
      have e0 := xbeq g0
      subst e0
      have e1 := xbeq g1
      subst e1
      have h : xo_iastore K a1 a2 pc L S Wd cc cs env = some o := h
      exact xs_iastore hx hb hK hI ho h hKt hdg
    | laload =>
      have g := hch
      obtain ⟨g0, g⟩ := xand g
      have g1 := g
      have e0 := xbeq g0
      subst e0
      have e1 := xbeq g1
      subst e1
      have h : xo_laload K a1 a2 pc L S Wd cc cs env = some o := h
      exact xs_laload hx hb hK hI ho h hKt hdg
    | lastore =>
      have g := hch
      obtain ⟨g0, g⟩ := xand g
      have g1 := g
      have e0 := xbeq g0
      subst e0
      have e1 := xbeq g1
      subst e1
      have h : xo_lastore K a1 a2 pc L S Wd cc cs env = some o := h
      exact xs_lastore hx hb hK hI ho h hKt hdg
    | baload =>
      have g := hch
      obtain ⟨g0, g⟩ := xand g
      have g1 := g
      have e0 := xbeq g0
      subst e0
      have e1 := xbeq g1
      subst e1
      have h : xo_baload K a1 a2 pc L S Wd cc cs env = some o := h
      exact xs_baload hx hb hK hI ho h hKt hdg
    | bastore =>
      have g := hch
      obtain ⟨g0, g⟩ := xand g
      have g1 := g
      have e0 := xbeq g0
      subst e0
      have e1 := xbeq g1
      subst e1
      have h : xo_bastore K a1 a2 pc L S Wd cc cs env = some o := h
      exact xs_bastore hx hb hK hI ho h hKt hdg
    | aaload =>
      have g := hch
      obtain ⟨g0, g⟩ := xand g
      have g1 := g
      have e0 := xbeq g0
      subst e0
      have e1 := xbeq g1
      subst e1
      have h : xo_aaload K a1 a2 pc L S Wd cc cs env = some o := h
      exact xs_aaload hx hb hK hI ho h hKt hdg
    | aastore =>
      have g := hch
      obtain ⟨g0, g⟩ := xand g
      have g1 := g
      have e0 := xbeq g0
      subst e0
      have e1 := xbeq g1
      subst e1
      have h : xo_aastore K a1 a2 pc L S Wd cc cs env = some o := h
      exact xs_aastore hx hb hK hI ho h hKt hdg
    | arraylength =>
      have g := hch
      obtain ⟨g0, g⟩ := xand g
      have g1 := g
      have e0 := xbeq g0
      subst e0
      have e1 := xbeq g1
      subst e1
      have h : xo_alen Lz k mc ms K a1 a2 pc L S Wd cc cs env = some o := h
      exact xs_alen hx hb hK hI ho h hKt hX hdg
    | newarray t =>
      have g := hch
      obtain ⟨g0, g⟩ := xand g
      obtain ⟨g1, g⟩ := xand g
      have g2 := g
      have e0 := xbeq g0
      subst e0
      have e1 := xbeq g1
      subst e1
      have h : xo_newa mc ms K (.newarray t) pc L S Wd cc cs env = some o := h
      exact xs_newa hx hb hK hI ho h hts hKt hA hmc hms hdg (xAw g2)
    | tableswitch df lo hi offs =>
      have g := hch
      have g0 := g
      have e0 := xbeq g0
      subst e0
      have h : xo_tsw K (.tableswitch df lo hi offs) pc L S Wd cc cs env = some o := h
      exact xs_tsw hx hb hK hI ho h hdg
    | lookupswitch df ps =>
      have g := hch
      obtain ⟨g0, g⟩ := xand g
      have g1 := g
      have e0 := xbeq g0
      subst e0
      have h : xo_lsw K (.lookupswitch df ps) pc L S Wd cc cs env = some o := h
      exact xs_lsw hx hb hK hI ho h hdg g1
    | iaload =>
      obtain ⟨g0, g1⟩ := xand (show ((Nat.beq oc 48 || Nat.beq oc 100) && Nat.beq len 1) = true from hch)
      have e1 := xbeq g1
      subst e1
      cases h48 : Nat.beq oc 48 with
      | true =>
        have e0 := xbeq h48
        subst e0
        have h : xo_iaload K a1 a2 pc L S Wd cc cs env = some o := h
        exact xs_iaload hx hb hK hI ho h hKt hdg
      | false =>
        rw [h48] at g0
        have e0 := xbeq (show Nat.beq oc 100 = true from g0)
        subst e0
        have h : xo_sload Lz sc k mc ms K a1 a2 pc L S Wd cc cs env = some o := h
        exact xs_sload hx hb hK hI ho h6 h hX hdg
    | getfield idx =>
      obtain ⟨g0, gA⟩ := xand hch
      obtain ⟨g1, gB⟩ := xand gA
      have e0 := xbeq g0
      subst e0
      have e1 := xbeq g1
      subst e1
      have g := gB
      have h : xo_getfield K a1 a2 pc L S Wd cc cs env = some o := h
      cases hq : vwCl[a1]? with
      | none => rw [hq] at g; cases g
      | some q =>
        rw [hq] at g
        obtain ⟨g2, g3⟩ := xand g
        exact xs_getfield hx hb hK hI ho h hts hown hKt hdg hq (xblt g2) (xAt_ok g3)
    | putfield idx =>
      obtain ⟨g0, gA⟩ := xand hch
      obtain ⟨g1, gB⟩ := xand gA
      have e0 := xbeq g0
      subst e0
      have e1 := xbeq g1
      subst e1
      have g := gB
      have h : xo_putfield K a1 a2 pc L S Wd cc cs env = some o := h
      cases hq : vwCl[a1]? with
      | none => rw [hq] at g; cases g
      | some q =>
        rw [hq] at g
        obtain ⟨g2, g⟩ := xand g
        obtain ⟨g3, g4⟩ := xand g
        refine xs_putfield hx hb hK hI ho h hts hown hKt hdg hq (xblt g2) (xAt_ok g3) ?_
        unfold xFl at g4
        cases hfl : (q.2.1 a2).2.2.2 with
        | false => exact Or.inl rfl
        | true =>
          rw [hfl] at g4
          obtain ⟨g5, g6⟩ := xand (show (decide (y.name = "<init>") && decide ((q.2.1 a2).1 = own)) = true from g4)
          exact Or.inr ⟨rfl, hinit (of_decide_eq_true g5), of_decide_eq_true g6⟩
    | new idx =>
      obtain ⟨g0, gA⟩ := xand hch
      obtain ⟨g1, gB⟩ := xand gA
      have e0 := xbeq g0
      subst e0
      have e1 := xbeq g1
      subst e1
      have g := gB
      have h : xo_new Lz k mc ms K a1 a2 pc L S Wd cc cs env = some o := h
      cases hq : vwCl[a1]? with
      | none => rw [hq] at g; cases g
      | some q =>
        rw [hq] at g
        exact xs_new hx hb hK hI ho h hts hown hKt hA hmc hms hdg hq (xAt_ok g) (hMa.1 a1 q hq).1 (hMa.1 a1 q hq).2
    | anewarray idx =>
      obtain ⟨g0, gA⟩ := xand hch
      obtain ⟨g1, gB⟩ := xand gA
      have e0 := xbeq g0
      subst e0
      have e1 := xbeq g1
      subst e1
      have g := gB
      have h : xo_anewa Lz k mc ms K a1 a2 pc L S Wd cc cs env = some o := h
      exact xs_anewa hx hb hK hI ho h hts hown hKt hA hmc hms hdg (xAt_ok g) hXX.1
    | invokevirtual idx =>
      obtain ⟨g0, gA⟩ := xand hch
      obtain ⟨g1, gB⟩ := xand gA
      obtain ⟨g2, gC⟩ := xand gB
      have e0 := xbeq g0
      subst e0
      have e1 := xbeq g1
      subst e1
      have g := gC
      have hk0 : a1 ≠ 0 := fun q => by rw [q] at g2; cases g2
      have h : xCall M (xRun M Lz sc f) mc ms d K a1 (fun o => Nat.beq (o % 8) 2 && Nat.beq (xGet Wd (o / 8) % 18446744073709551616) (8 * a2 + 2)) pc L S Wd cc cs env = some o := h
      cases hM' : M a1 with
      | none => rw [hM'] at g; cases g
      | some mt =>
        obtain ⟨own', y', b', maxL', rt', na', mc', ms', code'⟩ := mt
        rw [hM'] at g
        obtain ⟨g3, g⟩ := xand g
        obtain ⟨g4, g⟩ := xand g
        obtain ⟨g5, g⟩ := xand g
        obtain ⟨g6, g⟩ := xand g
        have hn := of_decide_eq_true g4
        have hna := xblt g3
        obtain ⟨hg, hkind⟩ := (hMa.2 a1 own' y' b' maxL' rt' na' mc' ms' code' hM').2 hk0
        cases hq : vwCl[a2]? with
        | none => rw [hq] at g; cases g
        | some q =>
          rw [hq] at g
          have hqn : q.1 = y'.cls := of_decide_eq_true g
          rcases hkind with ⟨n, f1, f2, f3⟩ | ⟨n, f1, f2, f3, f4⟩
          · rw [hn] at f1
            have := Option.some.inj f1
            omega
          · rcases f4 with f4 | f4
            · rw [f4] at g5; cases g5
            · refine xs_call IH hx hb hK hI ho h hts hown hKt hml hA hmc hms hfr hlo h6 hXX hM' hg hk0 f1 (i := .invokevirtual idx) (Or.inl ⟨rfl, f2, xAt_ok g6, f3, f4, fun o ho2 => ⟨xbeq (xand ho2).1, a2, q, hq, hqn, xbeq (xand ho2).2⟩⟩) hdg (fun q => by cases q)
    | invokespecial idx =>
      obtain ⟨g1, gA⟩ := xand hch
      have e1 := xbeq g1
      subst e1
      have g := gA
      cases h113 : Nat.beq oc 113 with
      | true =>
        rw [h113, cond_true] at g
        have e0 := xbeq h113
        subst e0
        have h : xo_objI d K pc L S Wd cc cs env = some o := h
        exact xs_objI hx hb hK hI ho h hts hown hml hfr hlo hdg (xAt_ok g) xOi xOc
      | false =>
        rw [h113, cond_false] at g
        obtain ⟨g0, gB⟩ := xand g
        obtain ⟨g2, gC⟩ := xand gB
        have e0 := xbeq g0
        subst e0
        have g := gC
        have hk0 : a1 ≠ 0 := fun q => by rw [q] at g2; cases g2
        have h : xCall M (xRun M Lz sc f) mc ms d K a1 (fun o => Nat.beq (o % 8) 2) pc L S Wd cc cs env = some o := h
        cases hM' : M a1 with
        | none => rw [hM'] at g; cases g
        | some mt =>
          obtain ⟨own', y', b', maxL', rt', na', mc', ms', code'⟩ := mt
          rw [hM'] at g
          obtain ⟨g3, g⟩ := xand g
          obtain ⟨g4, g⟩ := xand g
          obtain ⟨g5, g⟩ := xand g
          obtain ⟨g6, g⟩ := xand g
          have hn := of_decide_eq_true g4
          have hna := xblt g3
          obtain ⟨hg, hkind⟩ := (hMa.2 a1 own' y' b' maxL' rt' na' mc' ms' code' hM').2 hk0
          have hl : Jvm.Cond.methodLink own idx y' ∈ xTb ∨ ∃ host, Jvm.Cond.methodLinkNest own idx y' host ∈ lw_tbl := by
            cases ha : xAt a3 (.methodLink own idx y') with
            | true => exact Or.inl (xAt_ok ha)
            | false =>
              rw [ha] at g
              exact Or.inr (xNest_ok g)
          rcases hkind with ⟨n, f1, f2, f3⟩ | ⟨n, f1, f2, f3, f4⟩
          · rw [hn] at f1
            have := Option.some.inj f1
            omega
          · exact xs_call IH hx hb hK hI ho h hts hown hKt hml hA hmc hms hfr hlo h6 hXX hM' hg hk0 f1 (i := .invokespecial idx) (Or.inr (Or.inl ⟨rfl, f2, of_decide_eq_true g5, f3, hl, fun o ho2 => xbeq ho2⟩)) hdg (fun _ => of_decide_eq_true g6)
    | invokestatic idx =>
      obtain ⟨g1, gA⟩ := xand hch
      have e1 := xbeq g1
      subst e1
      have g := gA
      cases h114 : Nat.beq oc 114 with
      | true =>
        rw [h114, cond_true] at g
        have e0 := xbeq h114
        subst e0
        have h : xo_acopy d K pc L S Wd cc cs env = some o := h
        exact xs_acopy hx hb hK hI ho h hts hown hKt hml hfr hlo hdg (xAt_ok g) xAcN xAcS xAcI
      | false =>
        rw [h114, cond_false] at g
        by_cases hmt : Nat.blt 114 oc = true
        · rw [hmt, cond_true] at g
          unfold xMth at g
          cases q120 : Nat.beq oc 120 with
          | true =>
           rw [q120, cond_true] at g
           have e0 := xbeq q120
           subst e0
           exact xs_math120 hx hb hK hI ho h hts hown hml hmc hms hfr hlo hdg (xAt_ok g) xMtS120 xMtI xMtC120
          | false =>
           rw [q120, cond_false] at g
           cases q121 : Nat.beq oc 121 with
           | true =>
            rw [q121, cond_true] at g
            have e0 := xbeq q121
            subst e0
            exact xs_math121 hx hb hK hI ho h hts hown hml hmc hms hfr hlo hdg (xAt_ok g) xMtS121 xMtI xMtC121
           | false =>
            rw [q121, cond_false] at g
            cases q122 : Nat.beq oc 122 with
            | true =>
             rw [q122, cond_true] at g
             have e0 := xbeq q122
             subst e0
             exact xs_math122 hx hb hK hI ho h hts hown hml hmc hms hfr hlo hdg (xAt_ok g) xMtS122 xMtI xMtC122
            | false =>
             rw [q122, cond_false] at g
             cases q123 : Nat.beq oc 123 with
             | true =>
              rw [q123, cond_true] at g
              have e0 := xbeq q123
              subst e0
              exact xs_math123 hx hb hK hI ho h hts hown hml hmc hms hfr hlo hdg (xAt_ok g) xMtS123 xMtI xMtC123
             | false =>
              rw [q123, cond_false] at g
              cases q124 : Nat.beq oc 124 with
              | true =>
               rw [q124, cond_true] at g
               have e0 := xbeq q124
               subst e0
               exact xs_math124 hx hb hK hI ho h hts hown hml hmc hms hfr hlo hdg (xAt_ok g) xMtS124 xMtI xMtC124
              | false =>
               rw [q124, cond_false] at g
               obtain ⟨g0, g⟩ := xand g
               have e0 := xbeq g0
               subst e0
               exact xs_math125 hx hb hK hI ho h hts hown hml hmc hms hfr hlo hdg (xAt_ok g) xMtS125 xMtI xMtC125
        have hmf : Nat.blt 114 oc = false := by
          cases hq : Nat.blt 114 oc with
          | true => exact absurd hq hmt
          | false => rfl
        rw [hmf, cond_false] at g
        obtain ⟨g0, gB⟩ := xand g
        obtain ⟨g2, gC⟩ := xand gB
        have e0 := xbeq g0
        subst e0
        have g := gC
        have hk0 : a1 ≠ 0 := fun q => by rw [q] at g2; cases g2
        have h : xCall M (xRun M Lz sc f) mc ms d K a1 (fun _ => true) pc L S Wd cc cs env = some o := h
        cases hM' : M a1 with
        | none => rw [hM'] at g; cases g
        | some mt =>
          obtain ⟨own', y', b', maxL', rt', na', mc', ms', code'⟩ := mt
          rw [hM'] at g
          obtain ⟨g3, g4⟩ := xand g
          have hn := of_decide_eq_true g3
          obtain ⟨hg, hkind⟩ := (hMa.2 a1 own' y' b' maxL' rt' na' mc' ms' code' hM').2 hk0
          rcases hkind with ⟨n, f1, f2, f3⟩ | ⟨n, f1, f2, f3, f4⟩
          · exact xs_call IH hx hb hK hI ho h hts hown hKt hml hA hmc hms hfr hlo h6 hXX hM' hg hk0 f1 (i := .invokestatic idx) (Or.inr (Or.inr ⟨rfl, f2, xAt_ok g4, f3⟩)) hdg (fun q => by cases q)
          · rw [hn] at f1
            have := Option.some.inj f1
            omega
    | ireturn =>
      obtain ⟨g0, g1⟩ := xand (show (Nat.beq oc 108 && Nat.beq len 1) = true from hch)
      have e0 := xbeq g0
      subst e0
      have e1 := xbeq g1
      subst e1
      have h : xo_iret mc ms rt pc S Wd cc cs env = some o := h
      unfold xo_iret at h
      match S, h with
      | [v], h =>
        dsimp only at h
        obtain ⟨hc, h⟩ := xbif h
        obtain ⟨hc, hcs⟩ := xand hc
        obtain ⟨hvi, hcc⟩ := xand hc
        have hrs : ([v] : List Nat).map (xg ρ b ad) = xRs ρ b ad v := by
          unfold xRs
          rw [if_neg (xi11 hvi)]
          rfl
        rw [hrs]
        have go : (rt = some .int ∨ (rt = some .boolean ∧ (v = 0 ∨ v = 8))) → some [(pc, v, Wd, env, cc, cs)] = some o → W p l e R s m args below meth c H locs cc cs Q (F0 m pc ls (xRs ρ b ad v)) := by
          intro hrt hq
          have hq := Option.some.inj hq
          exact hfin pc v Wd env cc cs (ho _ (by rw [← hq]; exact List.mem_cons_self)) hI.2.2.1 (xble hcc) (xble hcs) (Or.inl ⟨hdg, hvi, hrt⟩) ad H locs ls hI.2.1.1 hI.2.1.2.1 hI.2.1.2.2 hI.2.2.2
        match rt, h, go with
        | some .int, h, go => exact go (Or.inl rfl) h
        | some .boolean, h, go =>
          dsimp only at h
          obtain ⟨hv, h⟩ := xbif h
          refine go (Or.inr ⟨rfl, ?_⟩) h
          cases hq : Nat.beq v 0 with
          | true => exact Or.inl (xbeq hq)
          | false => rw [hq] at hv; exact Or.inr (xbeq (show Nat.beq v 8 = true from hv))
      | [], h => cases h
      | _ :: _ :: _, h => cases h
    | lreturn =>
      obtain ⟨g0, g1⟩ := xand (show (Nat.beq oc 109 && Nat.beq len 1) = true from hch)
      have e0 := xbeq g0
      subst e0
      have e1 := xbeq g1
      subst e1
      have h : xo_lret mc ms rt pc S Wd cc cs env = some o := h
      unfold xo_lret at h
      match S, h with
      | [v], h =>
        dsimp only at h
        obtain ⟨hc, h⟩ := xbif h
        obtain ⟨hc, hcs⟩ := xand hc
        obtain ⟨hv1, hcc⟩ := xand hc
        have hv1 := xbeq hv1
        have hrs : ([v] : List Nat).map (xg ρ b ad) = xRs ρ b ad v := by
          unfold xRs
          rw [if_neg (fun q => by rw [q] at hv1; cases hv1)]
          rfl
        rw [hrs]
        have go : rt = some .long → some [(pc, v, Wd, env, cc, cs)] = some o → W p l e R s m args below meth c H locs cc cs Q (F0 m pc ls (xRs ρ b ad v)) := by
          intro hrt hq
          have hq := Option.some.inj hq
          exact hfin pc v Wd env cc cs (ho _ (by rw [← hq]; exact List.mem_cons_self)) hI.2.2.1 (xble hcc) (xble hcs) (Or.inr (Or.inl ⟨hdg, hv1, hrt⟩)) ad H locs ls hI.2.1.1 hI.2.1.2.1 hI.2.1.2.2 hI.2.2.2
        match rt, h, go with
        | some .long, h, go => exact go rfl h
      | [], h => cases h
      | _ :: _ :: _, h => cases h
    | return_ =>
      obtain ⟨g0, g1⟩ := xand (show (Nat.beq oc 110 && Nat.beq len 1) = true from hch)
      have e0 := xbeq g0
      subst e0
      have e1 := xbeq g1
      subst e1
      have h : xo_vret mc ms rt pc S Wd cc cs env = some o := h
      unfold xo_vret at h
      match S, h with
      | [], h =>
        dsimp only at h
        obtain ⟨hc, h⟩ := xbif h
        obtain ⟨hcc, hcs⟩ := xand hc
        have hrs : ([] : List Nat).map (xg ρ b ad) = xRs ρ b ad 11 := by
          unfold xRs
          rw [if_pos rfl]
          rfl
        rw [hrs]
        have go : rt = none → some [(pc, 11, Wd, env, cc, cs)] = some o → W p l e R s m args below meth c H locs cc cs Q (F0 m pc ls (xRs ρ b ad 11)) := by
          intro hrt hq
          have hq := Option.some.inj hq
          exact hfin pc 11 Wd env cc cs (ho _ (by rw [← hq]; exact List.mem_cons_self)) hI.2.2.1 (xble hcc) (xble hcs) (Or.inr (Or.inr ⟨hdg, rfl, hrt⟩)) ad H locs ls hI.2.1.1 hI.2.1.2.1 hI.2.1.2.2 hI.2.2.2
        match rt, h, go with
        | none, h, go => exact go rfl h
      | _ :: _, h => cases h
    | _ => cases hch
