section XOP
variable {p : Program} {l : Launch} {e : Env} {R : Room} {s : State} {m : MethodId} {args : Array Value} {below : List Frame} {meth : Method} {c : Code} {Q : State → Prop}
variable {ρ : Nat → Int32} {b : Nat} {cA : Nat → ClassId} {D : va_G} {A : Nat → Prop} {H0 : Heap} {nL n0 : Nat} {ad0 : Nat → Nat} {K : xKt} {outs o : List xOut}
variable {bb : ByteArray} {a1 a2 pc cc cs : Nat} {L S Wd : List Nat} {env : xEv} {ad : Nat → Nat} {H : Heap} {locs : List Loc} {ls : Array Slot}
/-! constants -/
theorem xs_pushI1 (hx : p.tables.exec = Jvm.exec) (hb : c.code = bb) (hK : xHK p l e R s m args below meth c Q ρ b cA D A H0 nL ad0 n0 K outs) (hI : xInv ρ b cA D A H0 nL ad0 n0 ad H locs ls L Wd env) (ho : ∀ y ∈ o, y ∈ outs) (h : xo_push1 K a1 a2 pc L S Wd cc cs env = some o)
    {n : Int} (hdg : decode bb pc = .ok (.iconst n, 1)) (h0 : a1 % 8 = 0) (hv : Int32.ofInt n = nI (a1 / 8)) : W p l e R s m args below meth c H locs cc cs Q (F0 m pc ls (S.map (xg ρ b ad))) := by
  unfold xo_push1 at h
  rw [xF_eq] at h
  have k := hK _ _ _ _ _ _ _ _ h ho _ _ _ _ hI
  rw [List.map_cons, xg0 h0] at k
  exact lv_iconst hx hb hdg hv k
theorem xs_pushL1 (hx : p.tables.exec = Jvm.exec) (hb : c.code = bb) (hK : xHK p l e R s m args below meth c Q ρ b cA D A H0 nL ad0 n0 K outs) (hI : xInv ρ b cA D A H0 nL ad0 n0 ad H locs ls L Wd env) (ho : ∀ y ∈ o, y ∈ outs) (h : xo_push1 K a1 a2 pc L S Wd cc cs env = some o)
    {n : Fin 2} (hdg : decode bb pc = .ok (.lconst n, 1)) (h0 : a1 % 8 = 1) (hv : Int64.ofNat (n : Nat) = lN (a1 / 8)) : W p l e R s m args below meth c H locs cc cs Q (F0 m pc ls (S.map (xg ρ b ad))) := by
  unfold xo_push1 at h
  rw [xF_eq] at h
  have k := hK _ _ _ _ _ _ _ _ h ho _ _ _ _ hI
  rw [List.map_cons, xg1 h0] at k
  exact lv_lconst hx hb hdg hv k
theorem xs_bipush (hx : p.tables.exec = Jvm.exec) (hb : c.code = bb) (hK : xHK p l e R s m args below meth c Q ρ b cA D A H0 nL ad0 n0 K outs) (hI : xInv ρ b cA D A H0 nL ad0 n0 ad H locs ls L Wd env) (ho : ∀ y ∈ o, y ∈ outs) (h : xo_push2 K a1 a2 pc L S Wd cc cs env = some o)
    {n : Int} (hdg : decode bb pc = .ok (.bipush n, 2)) (h0 : a1 % 8 = 0) (hv : (Int8.ofInt n).toInt32 = nI (a1 / 8)) : W p l e R s m args below meth c H locs cc cs Q (F0 m pc ls (S.map (xg ρ b ad))) := by
  unfold xo_push2 at h
  rw [xF_eq] at h
  have k := hK _ _ _ _ _ _ _ _ h ho _ _ _ _ hI
  rw [List.map_cons, xg0 h0] at k
  exact lv_bipush hx hb hdg hv k
theorem xs_ldc (hx : p.tables.exec = Jvm.exec) (hb : c.code = bb) (hK : xHK p l e R s m args below meth c Q ρ b cA D A H0 nL ad0 n0 K outs) (hI : xInv ρ b cA D A H0 nL ad0 n0 ad H locs ls L Wd env) (ho : ∀ y ∈ o, y ∈ outs) (h : xo_push2 K a1 a2 pc L S Wd cc cs env = some o)
    {own : String} {n : Nat} (hown : s.vm.findClass own = some m.cls) (hdg : decode bb pc = .ok (.ldc n, 2)) (h0 : a1 % 8 = 0) (hv : (Jvm.Cond.constant own n (nI (a1 / 8))).before args s = true) : W p l e R s m args below meth c H locs cc cs Q (F0 m pc ls (S.map (xg ρ b ad))) := by
  unfold xo_push2 at h
  rw [xF_eq] at h
  have k := hK _ _ _ _ _ _ _ _ h ho _ _ _ _ hI
  rw [List.map_cons, xg0 h0] at k
  exact lv_ldc hx hb hown hv hdg k
theorem xs_sipush (hx : p.tables.exec = Jvm.exec) (hb : c.code = bb) (hK : xHK p l e R s m args below meth c Q ρ b cA D A H0 nL ad0 n0 K outs) (hI : xInv ρ b cA D A H0 nL ad0 n0 ad H locs ls L Wd env) (ho : ∀ y ∈ o, y ∈ outs) (h : xo_push3 K a1 a2 pc L S Wd cc cs env = some o)
    {n : Int} (hdg : decode bb pc = .ok (.sipush n, 3)) (h0 : a1 % 8 = 0) (hv : (Int16.ofInt n).toInt32 = nI (a1 / 8)) : W p l e R s m args below meth c H locs cc cs Q (F0 m pc ls (S.map (xg ρ b ad))) := by
  unfold xo_push3 at h
  rw [xF_eq] at h
  have k := hK _ _ _ _ _ _ _ _ h ho _ _ _ _ hI
  rw [List.map_cons, xg0 h0] at k
  exact lv_sipush hx hb hdg hv k
theorem xs_ldcw (hx : p.tables.exec = Jvm.exec) (hb : c.code = bb) (hK : xHK p l e R s m args below meth c Q ρ b cA D A H0 nL ad0 n0 K outs) (hI : xInv ρ b cA D A H0 nL ad0 n0 ad H locs ls L Wd env) (ho : ∀ y ∈ o, y ∈ outs) (h : xo_push3 K a1 a2 pc L S Wd cc cs env = some o)
    {own : String} {n : Nat} (hown : s.vm.findClass own = some m.cls) (hdg : decode bb pc = .ok (.ldc_w n, 3)) (h0 : a1 % 8 = 0) (hv : (Jvm.Cond.constant own n (nI (a1 / 8))).before args s = true) : W p l e R s m args below meth c H locs cc cs Q (F0 m pc ls (S.map (xg ρ b ad))) := by
  unfold xo_push3 at h
  rw [xF_eq] at h
  have k := hK _ _ _ _ _ _ _ _ h ho _ _ _ _ hI
  rw [List.map_cons, xg0 h0] at k
  exact lv_ldcw hx hb hown hv hdg k
theorem xs_ldc2 (hx : p.tables.exec = Jvm.exec) (hb : c.code = bb) (hK : xHK p l e R s m args below meth c Q ρ b cA D A H0 nL ad0 n0 K outs) (hI : xInv ρ b cA D A H0 nL ad0 n0 ad H locs ls L Wd env) (ho : ∀ y ∈ o, y ∈ outs) (h : xo_push3 K a1 a2 pc L S Wd cc cs env = some o)
    {own : String} {n : Nat} (hown : s.vm.findClass own = some m.cls) (hdg : decode bb pc = .ok (.ldc2_w n, 3)) (h0 : a1 % 8 = 1) (hv : (Jvm.Cond.constantLong own n (lN (a1 / 8))).before args s = true) : W p l e R s m args below meth c H locs cc cs Q (F0 m pc ls (S.map (xg ρ b ad))) := by
  unfold xo_push3 at h
  rw [xF_eq] at h
  have k := hK _ _ _ _ _ _ _ _ h ho _ _ _ _ hI
  rw [List.map_cons, xg1 h0] at k
  exact lv_ldc2 hx hb hown hv hdg k
/-! locals -/
theorem xi11 {v : Nat} (h : xIsI v = true) : v ≠ 11 := fun q => by rw [q] at h; cases h
theorem xl11 {v : Nat} (h : xIsL v = true) : v ≠ 11 ∧ v ≠ 0 := ⟨fun q => (by rw [q] at h; cases h), fun q => (by rw [q] at h; cases h)⟩
theorem xr11 {v : Nat} (h : xIsR v = true) : v ≠ 11 ∧ v ≠ 0 := ⟨fun q => (by rw [q] at h; cases h), fun q => (by rw [q] at h; cases h)⟩
theorem xs_iload1 (hx : p.tables.exec = Jvm.exec) (hb : c.code = bb) (hK : xHK p l e R s m args below meth c Q ρ b cA D A H0 nL ad0 n0 K outs) (hI : xInv ρ b cA D A H0 nL ad0 n0 ad H locs ls L Wd env) (ho : ∀ y ∈ o, y ∈ outs) (h : xo_iload1 K a1 a2 pc L S Wd cc cs env = some o)
    {n : Fin 4} (hdg : decode bb pc = .ok (.iload_n n, 1)) (hn : (n : Nat) = a1) : W p l e R s m args below meth c H locs cc cs Q (F0 m pc ls (S.map (xg ρ b ad))) := by
  unfold xo_iload1 at h
  rw [xF_eq] at h
  obtain ⟨hc, h⟩ := xbif h
  obtain ⟨h1, h2⟩ := xand hc
  rw [xF_eq] at h
  have k := hK _ _ _ _ _ _ _ _ h ho _ _ _ _ hI
  rw [List.map_cons, xgI h1] at k
  have hl := xlv_at hI.1.2 (xGet_lt (by rw [← xLen_eq]; exact xblt h2)) (xi11 h1)
  rw [xgI h1] at hl
  exact lv_iload_n hx hb hdg hn hl k
theorem xs_iload2 (hx : p.tables.exec = Jvm.exec) (hb : c.code = bb) (hK : xHK p l e R s m args below meth c Q ρ b cA D A H0 nL ad0 n0 K outs) (hI : xInv ρ b cA D A H0 nL ad0 n0 ad H locs ls L Wd env) (ho : ∀ y ∈ o, y ∈ outs) (h : xo_iload2 K a1 a2 pc L S Wd cc cs env = some o)
    (hdg : decode bb pc = .ok (.iload a1, 2)) : W p l e R s m args below meth c H locs cc cs Q (F0 m pc ls (S.map (xg ρ b ad))) := by
  unfold xo_iload2 at h
  rw [xF_eq] at h
  obtain ⟨hc, h⟩ := xbif h
  obtain ⟨h1, h2⟩ := xand hc
  rw [xF_eq] at h
  have k := hK _ _ _ _ _ _ _ _ h ho _ _ _ _ hI
  rw [List.map_cons, xgI h1] at k
  have hl := xlv_at hI.1.2 (xGet_lt (by rw [← xLen_eq]; exact xblt h2)) (xi11 h1)
  rw [xgI h1] at hl
  exact lv_iload hx hb hdg hl k
theorem xs_lload1 (hx : p.tables.exec = Jvm.exec) (hb : c.code = bb) (hK : xHK p l e R s m args below meth c Q ρ b cA D A H0 nL ad0 n0 K outs) (hI : xInv ρ b cA D A H0 nL ad0 n0 ad H locs ls L Wd env) (ho : ∀ y ∈ o, y ∈ outs) (h : xo_lload1 K a1 a2 pc L S Wd cc cs env = some o)
    {n : Fin 4} (hdg : decode bb pc = .ok (.lload_n n, 1)) (hn : (n : Nat) = a1) : W p l e R s m args below meth c H locs cc cs Q (F0 m pc ls (S.map (xg ρ b ad))) := by
  unfold xo_lload1 at h
  rw [xF_eq] at h
  obtain ⟨h1, h⟩ := xbif h
  rw [xF_eq] at h
  have k := hK _ _ _ _ _ _ _ _ h ho _ _ _ _ hI
  rw [List.map_cons, xgL h1] at k
  have hl := xlv_at hI.1.2 (xGet_some rfl (xl11 h1).2) (xl11 h1).1
  rw [xgL h1] at hl
  exact lv_lload_n hx hb hdg hn hl k
theorem xs_lload2 (hx : p.tables.exec = Jvm.exec) (hb : c.code = bb) (hK : xHK p l e R s m args below meth c Q ρ b cA D A H0 nL ad0 n0 K outs) (hI : xInv ρ b cA D A H0 nL ad0 n0 ad H locs ls L Wd env) (ho : ∀ y ∈ o, y ∈ outs) (h : xo_lload2 K a1 a2 pc L S Wd cc cs env = some o)
    (hdg : decode bb pc = .ok (.lload a1, 2)) : W p l e R s m args below meth c H locs cc cs Q (F0 m pc ls (S.map (xg ρ b ad))) := by
  unfold xo_lload2 at h
  rw [xF_eq] at h
  obtain ⟨h1, h⟩ := xbif h
  rw [xF_eq] at h
  have k := hK _ _ _ _ _ _ _ _ h ho _ _ _ _ hI
  rw [List.map_cons, xgL h1] at k
  have hl := xlv_at hI.1.2 (xGet_some rfl (xl11 h1).2) (xl11 h1).1
  rw [xgL h1] at hl
  exact lv_lload hx hb hdg hl k
theorem xs_aload1 (hx : p.tables.exec = Jvm.exec) (hb : c.code = bb) (hK : xHK p l e R s m args below meth c Q ρ b cA D A H0 nL ad0 n0 K outs) (hI : xInv ρ b cA D A H0 nL ad0 n0 ad H locs ls L Wd env) (ho : ∀ y ∈ o, y ∈ outs) (h : xo_aload1 K a1 a2 pc L S Wd cc cs env = some o)
    {n : Fin 4} (hdg : decode bb pc = .ok (.aload_n n, 1)) (hn : (n : Nat) = a1) : W p l e R s m args below meth c H locs cc cs Q (F0 m pc ls (S.map (xg ρ b ad))) := by
  unfold xo_aload1 at h
  rw [xF_eq] at h
  obtain ⟨h1, h⟩ := xbif h
  rw [xF_eq] at h
  have k := hK _ _ _ _ _ _ _ _ h ho _ _ _ _ hI
  have hl := xlv_at hI.1.2 (xGet_some rfl (xr11 h1).2) (xr11 h1).1
  obtain ⟨a, ha⟩ := xgR (ρ := ρ) (b := b) (ad := ad) h1
  rw [List.map_cons, ha] at k
  rw [ha] at hl
  exact lv_aload_n hx hb hdg hn hl k
theorem xs_aload2 (hx : p.tables.exec = Jvm.exec) (hb : c.code = bb) (hK : xHK p l e R s m args below meth c Q ρ b cA D A H0 nL ad0 n0 K outs) (hI : xInv ρ b cA D A H0 nL ad0 n0 ad H locs ls L Wd env) (ho : ∀ y ∈ o, y ∈ outs) (h : xo_aload2 K a1 a2 pc L S Wd cc cs env = some o)
    (hdg : decode bb pc = .ok (.aload a1, 2)) : W p l e R s m args below meth c H locs cc cs Q (F0 m pc ls (S.map (xg ρ b ad))) := by
  unfold xo_aload2 at h
  rw [xF_eq] at h
  obtain ⟨h1, h⟩ := xbif h
  rw [xF_eq] at h
  have k := hK _ _ _ _ _ _ _ _ h ho _ _ _ _ hI
  have hl := xlv_at hI.1.2 (xGet_some rfl (xr11 h1).2) (xr11 h1).1
  obtain ⟨a, ha⟩ := xgR (ρ := ρ) (b := b) (ad := ad) h1
  rw [List.map_cons, ha] at k
  rw [ha] at hl
  exact lv_aload hx hb hdg hl k
/-- behind a store of one slot -/
theorem xInv.st1 {L1 : List Nat} {i v : Nat} {ls' : Array Slot} (hI : xInv ρ b cA D A H0 nL ad0 n0 ad H locs ls L Wd env) (hL : ∀ k : List Nat → xRes, xStL L i v k = k L1)
    (hl : lv_has ls' nL ((i, xg ρ b ad v) :: (xLl (xg ρ b ad) L).filter (fun q => !(q.1 == i) && !(q.1 + 1 == i && q.2.category == 2)))) : xInv ρ b cA D A H0 nL ad0 n0 ad H locs ls' L1 Wd env := by
  obtain ⟨h1, h2⟩ := xlv_st1 (g := xg ρ b ad) (L := L) (i := i) (v := v) (L' := L1) (xg_cat ρ b ad) (hL _)
  exact ⟨⟨h1.trans hI.1.1, xlv_mono hl h2⟩, hI.2⟩
theorem xInv.st2 {L1 : List Nat} {i v : Nat} {ls' : Array Slot} (hI : xInv ρ b cA D A H0 nL ad0 n0 ad H locs ls L Wd env) (hL : ∀ k : List Nat → xRes, xStL L i v k = k L1)
    (hl : lv_has ls' nL ((i, xg ρ b ad v) :: (xLl (xg ρ b ad) L).filter (fun q => !(q.1 == i) && (!(q.1 == i + 1) && !(q.1 + 1 == i && q.2.category == 2))))) : xInv ρ b cA D A H0 nL ad0 n0 ad H locs ls' (L1.set (i + 1) 11) Wd env := by
  obtain ⟨h1, h2⟩ := xlv_st1 (g := xg ρ b ad) (L := L) (i := i) (v := v) (L' := L1) (xg_cat ρ b ad) (hL _)
  refine ⟨⟨by rw [List.length_set]; exact h1.trans hI.1.1, xlv_mono hl fun q hq => ?_⟩, hI.2⟩
  obtain ⟨cq, e1, e2, e3⟩ := xLl_mem.mp hq
  by_cases hj : i + 1 = q.1
  · have hlt := (List.getElem?_eq_some_iff.mp e1).1
    rw [List.length_set] at hlt
    rw [← hj, List.getElem?_set_self (by rw [hj]; exact hlt)] at e1
    cases e1
    exact absurd rfl e2
  · rw [List.getElem?_set_ne hj] at e1
    rcases List.mem_cons.mp (h2 q (xLl_mem.mpr ⟨cq, e1, e2, e3⟩)) with hq2 | hq2
    · rw [hq2]; exact List.mem_cons_self
    · obtain ⟨f1, f2⟩ := List.mem_filter.mp hq2
      obtain ⟨g1, g2⟩ := xand f2
      refine List.mem_cons_of_mem _ (List.mem_filter.mpr ⟨f1, ?_⟩)
      have hb1 : (q.1 == i + 1) = false := by simpa using Ne.symm hj
      rw [hb1, g1, g2]
      rfl
theorem xs_istore1 (hx : p.tables.exec = Jvm.exec) (hb : c.code = bb) (hK : xHK p l e R s m args below meth c Q ρ b cA D A H0 nL ad0 n0 K outs) (hI : xInv ρ b cA D A H0 nL ad0 n0 ad H locs ls L Wd env) (ho : ∀ y ∈ o, y ∈ outs) (h : xo_istore1 K a1 a2 pc L S Wd cc cs env = some o)
    {n : Fin 4} (hdg : decode bb pc = .ok (.istore_n n, 1)) (hn : (n : Nat) = a1) : W p l e R s m args below meth c H locs cc cs Q (F0 m pc ls (S.map (xg ρ b ad))) := by
  unfold xo_istore1 at h
  cases S with
  | nil => cases h
  | cons v r =>
    obtain ⟨hc, h⟩ := xbif h
    obtain ⟨h1, h2⟩ := xand hc
    obtain ⟨L1, hL⟩ := xStL_ex L a1 v
    rw [hL, xF_eq] at h
    rw [List.map_cons, xgI h1]
    refine lv_istore_n hx hb hdg hn hI.1.2 (by rw [← hI.1.1, ← xLen_eq]; exact xblt h2) rfl fun ls' hl => ?_
    rw [← xgI (b := b) (ad := ad) h1] at hl
    exact hK _ _ _ _ _ _ _ _ h ho _ _ _ _ (hI.st1 hL hl)
theorem xs_istore2 (hx : p.tables.exec = Jvm.exec) (hb : c.code = bb) (hK : xHK p l e R s m args below meth c Q ρ b cA D A H0 nL ad0 n0 K outs) (hI : xInv ρ b cA D A H0 nL ad0 n0 ad H locs ls L Wd env) (ho : ∀ y ∈ o, y ∈ outs) (h : xo_istore2 K a1 a2 pc L S Wd cc cs env = some o)
    (hdg : decode bb pc = .ok (.istore a1, 2)) : W p l e R s m args below meth c H locs cc cs Q (F0 m pc ls (S.map (xg ρ b ad))) := by
  unfold xo_istore2 at h
  cases S with
  | nil => cases h
  | cons v r =>
    obtain ⟨hc, h⟩ := xbif h
    obtain ⟨h1, h2⟩ := xand hc
    obtain ⟨L1, hL⟩ := xStL_ex L a1 v
    rw [hL, xF_eq] at h
    rw [List.map_cons, xgI h1]
    refine lv_istore hx hb hdg hI.1.2 (by rw [← hI.1.1, ← xLen_eq]; exact xblt h2) rfl fun ls' hl => ?_
    rw [← xgI (b := b) (ad := ad) h1] at hl
    exact hK _ _ _ _ _ _ _ _ h ho _ _ _ _ (hI.st1 hL hl)
theorem xs_astore1 (hx : p.tables.exec = Jvm.exec) (hb : c.code = bb) (hK : xHK p l e R s m args below meth c Q ρ b cA D A H0 nL ad0 n0 K outs) (hI : xInv ρ b cA D A H0 nL ad0 n0 ad H locs ls L Wd env) (ho : ∀ y ∈ o, y ∈ outs) (h : xo_astore1 K a1 a2 pc L S Wd cc cs env = some o)
    {n : Fin 4} (hdg : decode bb pc = .ok (.astore_n n, 1)) (hn : (n : Nat) = a1) : W p l e R s m args below meth c H locs cc cs Q (F0 m pc ls (S.map (xg ρ b ad))) := by
  unfold xo_astore1 at h
  cases S with
  | nil => cases h
  | cons v r =>
    obtain ⟨hc, h⟩ := xbif h
    obtain ⟨h1, h2⟩ := xand hc
    obtain ⟨L1, hL⟩ := xStL_ex L a1 v
    rw [hL, xF_eq] at h
    obtain ⟨a, ha⟩ := xgR (ρ := ρ) (b := b) (ad := ad) h1
    rw [List.map_cons, ha]
    refine lv_astore_n hx hb hdg hn hI.1.2 (by rw [← hI.1.1, ← xLen_eq]; exact xblt h2) rfl fun ls' hl => ?_
    rw [← ha] at hl
    exact hK _ _ _ _ _ _ _ _ h ho _ _ _ _ (hI.st1 hL hl)
theorem xs_astore2 (hx : p.tables.exec = Jvm.exec) (hb : c.code = bb) (hK : xHK p l e R s m args below meth c Q ρ b cA D A H0 nL ad0 n0 K outs) (hI : xInv ρ b cA D A H0 nL ad0 n0 ad H locs ls L Wd env) (ho : ∀ y ∈ o, y ∈ outs) (h : xo_astore2 K a1 a2 pc L S Wd cc cs env = some o)
    (hdg : decode bb pc = .ok (.astore a1, 2)) : W p l e R s m args below meth c H locs cc cs Q (F0 m pc ls (S.map (xg ρ b ad))) := by
  unfold xo_astore2 at h
  cases S with
  | nil => cases h
  | cons v r =>
    obtain ⟨hc, h⟩ := xbif h
    obtain ⟨h1, h2⟩ := xand hc
    obtain ⟨L1, hL⟩ := xStL_ex L a1 v
    rw [hL, xF_eq] at h
    obtain ⟨a, ha⟩ := xgR (ρ := ρ) (b := b) (ad := ad) h1
    rw [List.map_cons, ha]
    refine lv_astore hx hb hdg hI.1.2 (by rw [← hI.1.1, ← xLen_eq]; exact xblt h2) rfl fun ls' hl => ?_
    rw [← ha] at hl
    exact hK _ _ _ _ _ _ _ _ h ho _ _ _ _ (hI.st1 hL hl)
theorem xs_lstore1 (hx : p.tables.exec = Jvm.exec) (hb : c.code = bb) (hK : xHK p l e R s m args below meth c Q ρ b cA D A H0 nL ad0 n0 K outs) (hI : xInv ρ b cA D A H0 nL ad0 n0 ad H locs ls L Wd env) (ho : ∀ y ∈ o, y ∈ outs) (h : xo_lstore1 K a1 a2 pc L S Wd cc cs env = some o)
    {n : Fin 4} (hdg : decode bb pc = .ok (.lstore_n n, 1)) (hn : (n : Nat) = a1) : W p l e R s m args below meth c H locs cc cs Q (F0 m pc ls (S.map (xg ρ b ad))) := by
  unfold xo_lstore1 at h
  cases S with
  | nil => cases h
  | cons v r =>
    obtain ⟨hc, h⟩ := xbif h
    obtain ⟨h1, h2⟩ := xand hc
    obtain ⟨L1, hL⟩ := xStL_ex L a1 v
    rw [hL, xSet_eq, xF_eq] at h
    rw [List.map_cons, xgL h1]
    refine lv_lstore_n hx hb hdg hn hI.1.2 (by rw [← hI.1.1, ← xLen_eq]; exact xblt h2) rfl fun ls' hl => ?_
    rw [← xgL (b := b) (ad := ad) h1] at hl
    exact hK _ _ _ _ _ _ _ _ h ho _ _ _ _ (hI.st2 hL hl)
theorem xs_lstore2 (hx : p.tables.exec = Jvm.exec) (hb : c.code = bb) (hK : xHK p l e R s m args below meth c Q ρ b cA D A H0 nL ad0 n0 K outs) (hI : xInv ρ b cA D A H0 nL ad0 n0 ad H locs ls L Wd env) (ho : ∀ y ∈ o, y ∈ outs) (h : xo_lstore2 K a1 a2 pc L S Wd cc cs env = some o)
    (hdg : decode bb pc = .ok (.lstore a1, 2)) : W p l e R s m args below meth c H locs cc cs Q (F0 m pc ls (S.map (xg ρ b ad))) := by
  unfold xo_lstore2 at h
  cases S with
  | nil => cases h
  | cons v r =>
    obtain ⟨hc, h⟩ := xbif h
    obtain ⟨h1, h2⟩ := xand hc
    obtain ⟨L1, hL⟩ := xStL_ex L a1 v
    rw [hL, xSet_eq, xF_eq] at h
    rw [List.map_cons, xgL h1]
    refine lv_lstore hx hb hdg hI.1.2 (by rw [← hI.1.1, ← xLen_eq]; exact xblt h2) rfl fun ls' hl => ?_
    rw [← xgL (b := b) (ad := ad) h1] at hl
    exact hK _ _ _ _ _ _ _ _ h ho _ _ _ _ (hI.st2 hL hl)
theorem xs_iinc (hx : p.tables.exec = Jvm.exec) (hb : c.code = bb) (hK : xHK p l e R s m args below meth c Q ρ b cA D A H0 nL ad0 n0 K outs) (hI : xInv ρ b cA D A H0 nL ad0 n0 ad H locs ls L Wd env) (ho : ∀ y ∈ o, y ∈ outs) (h : xo_iinc K a1 a2 pc L S Wd cc cs env = some o)
    {n : Int} (hdg : decode bb pc = .ok (.iinc a1 n, 3)) (hn : Int32.ofInt n = nI a2) : W p l e R s m args below meth c H locs cc cs Q (F0 m pc ls (S.map (xg ρ b ad))) := by
  unfold xo_iinc at h
  rw [xF_eq] at h
  obtain ⟨hc, h⟩ := xbif h
  obtain ⟨h1, h2⟩ := xand hc
  have h1 := xbeq h1
  obtain ⟨L1, hL⟩ := xStL_ex L a1 ((xGet L a1 / 8 + a2) % 4294967296 * 8)
  rw [xF_eq, hL, xF_eq] at h
  have hlt : a1 < L.length := by rw [← xLen_eq]; exact xblt h2
  obtain ⟨kk, hkk⟩ := List.getElem?_of_mem (xLl_mem.mpr ⟨xGet L a1, xGet_lt hlt, fun q => (by rw [q] at h1; cases h1), rfl⟩ : (a1, xg ρ b ad (xGet L a1)) ∈ xLl (xg ρ b ad) L)
  rw [xg0 h1] at hkk
  refine lv_iinc (v := nI ((xGet L a1 / 8 + a2) % 4294967296)) hx hb hdg hI.1.2 hkk (by rw [hn, xnI_mod, nI_add]) (by rw [← hI.1.1]; exact hlt) rfl fun ls' hl => ?_
  have e : xg ρ b ad ((xGet L a1 / 8 + a2) % 4294967296 * 8) = .int (nI ((xGet L a1 / 8 + a2) % 4294967296)) := by
    rw [xg0 (Nat.mul_mod_left _ _), Nat.mul_div_cancel _ (by decide)]
  rw [← e] at hl
  exact hK _ _ _ _ _ _ _ _ h ho _ _ _ _ (hI.st1 hL hl)
end XOP
