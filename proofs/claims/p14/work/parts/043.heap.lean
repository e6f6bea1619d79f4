/-- the tables' words that a call hands on as they are -/
def xTb : List Jvm.Cond := lw_tbl.filter goodWord
theorem xTb_of {i : Nat} {w : Jvm.Cond} (h : lw_tbl[i]? = some w) (hg : goodWord w = true) : w ∈ xTb := List.mem_filter.mpr ⟨List.mem_of_getElem? h, hg⟩
def xTys (cA : Nat → ClassId) : List (ClassId × FieldType) := [(cA 0, .int), (cA 1, .long), (cA 2, .boolean), (cA 3, .object RX5)]
/-- of each class of the worlds: its words stand in the tables, its fields' types, its fields' names apart -/
def xCls (ci : Nat) (q : vw_C) : Prop := (∀ w ∈ u_ws q.1 q.2.1 q.2.2, w ∈ xTb) ∧ (∀ k, k < q.2.2 → parseFieldDescriptor (q.2.1 k).2.2.1 = some (xTyOf ci k)) ∧ (∀ a, a < q.2.2 → ∀ b, b < q.2.2 → a ≠ b → (q.2.1 a).2.1 ≠ (q.2.1 b).2.1)
theorem xin0 : ∀ w ∈ u_ws RX1 TX1 7, w ∈ xTb := by decide +kernel
theorem xin1 : ∀ w ∈ u_ws RX2 TX2 10, w ∈ xTb := by decide +kernel
theorem xin2 : ∀ w ∈ u_ws RX3 TX3 2, w ∈ xTb := by decide +kernel
theorem xin3 : ∀ w ∈ u_ws RX4 TX4 6, w ∈ xTb := by decide +kernel
theorem xin4 : ∀ w ∈ u_ws RX5 TX5 18, w ∈ xTb := by decide +kernel
theorem xin5 : ∀ w ∈ u_ws RX6 TX6 3, w ∈ xTb := by decide +kernel
theorem xin6 : ∀ w ∈ u_ws RX7 TX7 6, w ∈ xTb := by decide +kernel
theorem xin7 : ∀ w ∈ u_ws RX8 TX8 7, w ∈ xTb := by decide +kernel
theorem xin8 : ∀ w ∈ u_ws RX9 TX9 9, w ∈ xTb := by decide +kernel
theorem xin9 : ∀ w ∈ u_ws RX10 TX10 27, w ∈ xTb := by decide +kernel
theorem xCls_ok {ci : Nat} {q : vw_C} (h : vwCl[ci]? = some q) : xCls ci q := by
  match ci, h with
  | 0, h => cases h; exact ⟨xin0, tyX1_ok, nmX1⟩
  | 1, h => cases h; exact ⟨xin1, tyX2_ok, nmX2⟩
  | 2, h => cases h; exact ⟨xin2, tyX3_ok, nmX3⟩
  | 3, h => cases h; exact ⟨xin3, tyX4_ok, nmX4⟩
  | 4, h => cases h; exact ⟨xin4, tyX5_ok, nmX5⟩
  | 5, h => cases h; exact ⟨xin5, tyX6_ok, nmX6⟩
  | 6, h => cases h; exact ⟨xin6, tyX7_ok, nmX7⟩
  | 7, h => cases h; exact ⟨xin7, tyX8_ok, nmX8⟩
  | 8, h => cases h; exact ⟨xin8, tyX9_ok, nmX9⟩
  | 9, h => cases h; exact ⟨xin9, tyX10_ok, nmX10⟩
  | k + 10, h => exact absurd h (by simp [vwCl])
theorem xDef_ok : ∀ ci, ci < 10 → (xDefO ci (xNf ci) % 18446744073709551616 = 8 * ci + 2 ∧ ∀ j, j < xNf ci → xDn (xDefO ci (xNf ci)) j 1 = xDefT (xTyOf ci j) ∧ (xTyOf ci j = .int ∨ xTyOf ci j = .long ∨ defaultValue (xTyOf ci j) = .null ∧ xDefT (xTyOf ci j) = 3)) := by decide +kernel
section XOH
variable {p : Program} {l : Launch} {e : Env} {R : Room} {s : State} {m : MethodId} {args : Array Value} {below : List Frame} {meth : Method} {c : Code} {Q : State → Prop}
variable {ρ : Nat → Int32} {b : Nat} {cA : Nat → ClassId} {D : va_G} {A : Nat → Prop} {H0 : Heap} {nL n0 : Nat} {ad0 : Nat → Nat} {K : xKt} {outs o : List xOut}
variable {bb : ByteArray} {a1 a2 pc cc cs : Nat} {L S Wd : List Nat} {env : xEv} {ad : Nat → Nat} {H : Heap} {locs : List Loc} {ls : Array Slot}
theorem xE_obj {cv ci : Nat} (h : cv % 18446744073709551616 = 8 * ci + 2) : xE ρ b cA ad cv = .inr (ci, (List.range (xNf ci)).map (fun k => xg ρ b ad (xDn cv k 1))) ∧ cv % 8 = 2 ∧ cv ≠ 0 := by
  have h2 : cv % 8 = 2 := by rw [← x8, h]; omega
  refine ⟨?_, h2, fun q => by rw [q] at h2; cases h2⟩
  unfold xE
  rw [if_pos h2, h, show (8 * ci + 2) / 8 = ci by omega]
theorem xE_int {cv : Nat} (h : cv % 8 = 1) : xE ρ b cA ad cv = .inl (cA 0, cv % 18446744073709551616 / 8, .inl (fun k => xd32 ρ (xDn cv k 1))) ∧ cv ≠ 0 := by
  refine ⟨?_, fun q => by rw [q] at h; cases h⟩
  unfold xE
  rw [if_neg (by omega), if_neg (by omega), if_neg (by omega), h]
theorem xE_boo {cv : Nat} (h : cv % 8 = 5) : xE ρ b cA ad cv = .inl (cA 2, cv % 18446744073709551616 / 8, .inl (fun k => xd32 ρ (xDn cv k 1))) ∧ cv ≠ 0 := by
  refine ⟨?_, fun q => by rw [q] at h; cases h⟩
  unfold xE
  rw [if_neg (by omega), if_neg (by omega), if_neg (by omega), h]
theorem xE_lon {cv : Nat} (h : cv % 8 = 3) : xE ρ b cA ad cv = .inl (cA 1, cv % 18446744073709551616 / 8, .inr (.inl (fun k => lN (xDn cv k 1)))) ∧ cv ≠ 0 := by
  refine ⟨?_, fun q => by rw [q] at h; cases h⟩
  unfold xE
  rw [if_neg (by omega), if_pos h, h]
theorem xE_ref {cv : Nat} (h : cv % 8 = 7) : xE ρ b cA ad cv = .inl (cA 3, cv % 18446744073709551616 / 8, .inr (.inr (.inr (.inr (fun k => if k < cv % 18446744073709551616 / 8 then xqf ad (xDn cv k 1) else none))))) ∧ cv ≠ 0 := by
  refine ⟨?_, fun q => by rw [q] at h; cases h⟩
  unfold xE
  rw [if_neg (by omega), if_neg (by omega), if_pos h, h]
theorem xNf_eq {ci : Nat} {q : vw_C} (h : vwCl[ci]? = some q) : xNf ci = q.2.2 := by unfold xNf; rw [h]
/-- another cell in a place -/
theorem xInv.cell {i cv : Nat} {H1 : Heap} {locs1 : List Loc} (hI : xInv ρ b cA D A H0 nL ad0 n0 ad H locs ls L Wd env) (hP : va_P D vwCl (xWs ρ b cA ad (Wd.set i cv)) H1) (hD : va_D A (xWs ρ b cA ad (Wd.set i cv))) (hS : va_S A H0 H1 locs1) : xInv ρ b cA D A H0 nL ad0 n0 ad H1 locs1 ls L (Wd.set i cv) env := by
  refine ⟨hI.1, ⟨hP, hD, hS⟩, hI.2.2.1, ?_⟩
  unfold xAg
  rw [List.length_set]
  exact hI.2.2.2
theorem xin_nI {u n : Nat} (h : u < n) (h2 : u < 2147483648) : vp_in (nI u) n := by
  intro q
  rcases q with q | q
  · exact nI_pos h2 q
  · rw [nI_clamp h2] at q; omega
theorem xs_getfield (hx : p.tables.exec = Jvm.exec) (hb : c.code = bb) (hK : xHK p l e R s m args below meth c Q ρ b cA D A H0 nL ad0 n0 K outs) (hI : xInv ρ b cA D A H0 nL ad0 n0 ad H locs ls L Wd env) (ho : ∀ y ∈ o, y ∈ outs) (h : xo_getfield K a1 a2 pc L S Wd cc cs env = some o)
    {own : String} (hts : ∀ w ∈ xTb, w.before args s = true) (hown : s.vm.findClass own = some m.cls) (hKt : va_K D vwCl (xTys cA) s) {idx : Nat} {q : vw_C} (hdg : decode bb pc = .ok (.getfield idx, 3)) (hq : vwCl[a1]? = some q) (hk : a2 < q.2.2) (hl : Jvm.Cond.fieldLink own idx (q.2.1 a2).1 (q.2.1 a2).2.1 (q.2.1 a2).2.2.1 ∈ xTb) : W p l e R s m args below meth c H locs cc cs Q (F0 m pc ls (S.map (xg ρ b ad))) := by
  unfold xo_getfield at h
  match S, h with
  | r :: t, h =>
    dsimp only at h
    obtain ⟨hr, h⟩ := xbif h
    rw [xF_eq] at h
    obtain ⟨hc, h⟩ := xbif h
    obtain ⟨e1, e2, e3⟩ := xE_obj (ρ := ρ) (b := b) (cA := cA) (ad := ad) (xbeq hc)
    rw [xF_eq, xF_eq] at h
    have k := hK _ _ _ _ _ _ _ _ h ho _ _ _ _ hI
    rw [List.map_cons] at k
    have he := xWs_get (ρ := ρ) (b := b) (cA := cA) (ad := ad) (xGet_some rfl e3)
    rw [e1] at he
    obtain ⟨C, T, N⟩ := q
    rw [List.map_cons, xg2 (xbeq hr)]
    exact va_get hx hb hts (xCls_ok hq).1 hown hKt hI.2.1.1 (r / 8) he hq a2 hk (hts _ hl) (fun _ h => h) (by rw [List.getElem?_map, List.getElem?_range (by rw [xNf_eq hq]; exact hk)]; rfl) hdg k
  | [], h => cases h
theorem xFit_ok {ty : FieldType} {v : Nat} (h : xFit ty v = true) : narrow ty (xg ρ b ad v) = xg ρ b ad v ∧ fits ty (xg ρ b ad v) = true := by
  unfold xFit at h
  have hR : (xIsR v || Nat.beq v 3) = true → xg ρ b ad v = .null ∨ ∃ a, xg ρ b ad v = .ref a := by
    intro h
    cases h1 : xIsR v with
    | true => exact Or.inr (xgR h1)
    | false =>
      rw [h1] at h
      have := xbeq (show Nat.beq v 3 = true from h)
      subst this
      exact Or.inl (xg3 rfl)
  cases ty with
  | int => rw [xgI h]; exact ⟨rfl, rfl⟩
  | long => rw [xgL h]; exact ⟨rfl, rfl⟩
  | object n => rcases hR h with e | ⟨a, e⟩ <;> rw [e] <;> exact ⟨rfl, rfl⟩
  | array t => rcases hR h with e | ⟨a, e⟩ <;> rw [e] <;> exact ⟨rfl, rfl⟩
  | _ => cases h
theorem xfs_set {cv v k n : Nat} (hv : v < 4722366482869645213696) : ((List.range n).map (fun j => xg ρ b ad (xDn cv j 1))).set k (xg ρ b ad v) = (List.range n).map (fun j => xg ρ b ad (xDn (xPn cv k 1 v) j 1)) := by
  apply List.ext_getElem?
  intro j
  by_cases hj : k = j
  · subst hj
    by_cases hl : k < n
    · rw [List.getElem?_set_self (by simpa using hl), List.getElem?_map, List.getElem?_range hl]
      show some (xg ρ b ad v) = some (xg ρ b ad (xDn (xPn cv k 1 v) k 1))
      rw [xPn_one hv, if_pos rfl]
    · rw [List.getElem?_eq_none (by simpa using Nat.not_lt.mp hl), List.getElem?_eq_none (by simpa using Nat.not_lt.mp hl)]
  · rw [List.getElem?_set_ne hj, List.getElem?_map, List.getElem?_map]
    cases hr : (List.range n)[j]? with
    | none => rfl
    | some i =>
      have hi : i = j := by
        obtain ⟨h1, h2⟩ := List.getElem?_eq_some_iff.mp hr
        rw [List.getElem_range] at h2
        exact h2.symm
      subst hi
      show some (xg ρ b ad (xDn cv i 1)) = some (xg ρ b ad (xDn (xPn cv k 1 v) i 1))
      rw [xPn_one hv, if_neg (Ne.symm hj)]
theorem xs_putfield (hx : p.tables.exec = Jvm.exec) (hb : c.code = bb) (hK : xHK p l e R s m args below meth c Q ρ b cA D A H0 nL ad0 n0 K outs) (hI : xInv ρ b cA D A H0 nL ad0 n0 ad H locs ls L Wd env) (ho : ∀ y ∈ o, y ∈ outs) (h : xo_putfield K a1 a2 pc L S Wd cc cs env = some o)
    {own : String} (hts : ∀ w ∈ xTb, w.before args s = true) (hown : s.vm.findClass own = some m.cls) (hKt : va_K D vwCl (xTys cA) s) {idx : Nat} {q : vw_C} (hdg : decode bb pc = .ok (.putfield idx, 3)) (hq : vwCl[a1]? = some q) (hk : a2 < q.2.2) (hl : Jvm.Cond.fieldLink own idx (q.2.1 a2).1 (q.2.1 a2).2.1 (q.2.1 a2).2.2.1 ∈ xTb) (hfin : (q.2.1 a2).2.2.2 = false ∨ ((q.2.1 a2).2.2.2 = true ∧ meth.name = "<init>" ∧ (q.2.1 a2).1 = own)) : W p l e R s m args below meth c H locs cc cs Q (F0 m pc ls (S.map (xg ρ b ad))) := by
  unfold xo_putfield at h
  match S, h with
  | v :: r :: t, h =>
    dsimp only at h
    obtain ⟨hc0, h⟩ := xbif h
    obtain ⟨hc1, hv⟩ := xand hc0
    obtain ⟨hr, hf⟩ := xand hc1
    rw [xF_eq] at h
    obtain ⟨hc, h⟩ := xbif h
    obtain ⟨e1, e2, e3⟩ := xE_obj (ρ := ρ) (b := b) (cA := cA) (ad := ad) (xbeq hc)
    rw [xF_eq, xSet_eq, xF_eq] at h
    have he := xWs_get (ρ := ρ) (b := b) (cA := cA) (ad := ad) (xGet_some rfl e3)
    rw [e1] at he
    have hcl := xCls_ok hq
    obtain ⟨hn1, hn2⟩ := xFit_ok (ρ := ρ) (b := b) (ad := ad) hf
    have hlen : a2 < ((List.range (xNf a1)).map (fun k => xg ρ b ad (xDn (xGet Wd (r / 8)) k 1))).length := by rw [List.length_map, List.length_range, xNf_eq hq]; exact hk
    have hset : xWs ρ b cA ad (Wd.set (r / 8) (xPn (xGet Wd (r / 8)) a2 1 v)) = (xWs ρ b cA ad Wd).set (r / 8) (ad (r / 8), .inr (a1, ((List.range (xNf a1)).map (fun k => xg ρ b ad (xDn (xGet Wd (r / 8)) k 1))).set a2 (xg ρ b ad v))) := by
      rw [xWs_set, xfs_set (xblt hv), (xE_obj (ρ := ρ) (b := b) (cA := cA) (ad := ad) (ci := a1) (by rw [xPn_hdr]; exact xbeq hc)).1]
    obtain ⟨C, T, N⟩ := q
    rw [List.map_cons, List.map_cons, xg2 (xbeq hr)]
    rcases hfin with hfin | ⟨hfin, hin, hdc⟩
    · refine va_put hx hb hts hcl.1 (xTyOf a1) hcl.2.1 hcl.2.2 hown hKt hI.2.1.1 hI.2.1.2.1 hI.2.1.2.2 (r / 8) he hq a2 hk (hts _ hl) (fun _ h => h) hfin (hcl.2.1 a2 hk) hn1 hn2 hlen hdg fun H1 locs1 hP1 hD1 hS1 => ?_
      rw [← hset] at hP1 hD1
      exact hK _ _ _ _ _ _ _ _ h ho _ _ _ _ (hI.cell hP1 hD1 hS1)
    · refine va_putF hx hb hts hcl.1 (xTyOf a1) hcl.2.1 hcl.2.2 hown hKt hI.2.1.1 hI.2.1.2.1 hI.2.1.2.2 (r / 8) he hq a2 hk (hts _ hl) (fun _ h => h) hfin hin hdc (hcl.2.1 a2 hk) hn1 hn2 hlen hdg fun H1 locs1 hP1 hD1 hS1 => ?_
      rw [← hset] at hP1 hD1
      exact hK _ _ _ _ _ _ _ _ h ho _ _ _ _ (hI.cell hP1 hD1 hS1)
  | [], h => cases h
  | [_], h => cases h
theorem xs_iaload (hx : p.tables.exec = Jvm.exec) (hb : c.code = bb) (hK : xHK p l e R s m args below meth c Q ρ b cA D A H0 nL ad0 n0 K outs) (hI : xInv ρ b cA D A H0 nL ad0 n0 ad H locs ls L Wd env) (ho : ∀ y ∈ o, y ∈ outs) (h : xo_iaload K a1 a2 pc L S Wd cc cs env = some o)
    (hKt : va_K D vwCl (xTys cA) s) (hdg : decode bb pc = .ok (.iaload, 1)) : W p l e R s m args below meth c H locs cc cs Q (F0 m pc ls (S.map (xg ρ b ad))) := by
  unfold xo_iaload at h
  match S, h with
  | x :: r :: t, h =>
    dsimp only at h
    cases hc4 : Nat.beq (x % 8) 4 with
    | true =>
      rw [hc4, cond_true] at h
      obtain ⟨x', e', o', f1, f2, f3, f4⟩ := xC0_sound (b := b) h (xbeq hc4) hI.2.2.1
      have k := hK _ _ _ _ _ _ _ _ f1 (fun z hz => ho z (f2 z hz)) _ _ _ _ (hI.env f3)
      rw [List.map_cons, f4] at k
      exact k
    | false =>
      rw [hc4, cond_false] at h
      obtain ⟨hc, h⟩ := xbif h
      obtain ⟨hx0, hxl⟩ := xand hc
      obtain ⟨hr, h⟩ := xbif h
      rw [xF_eq] at h
      obtain ⟨hc2, h⟩ := xbif h
      obtain ⟨hc3, hlt⟩ := xand hc2
      obtain ⟨e1, e3⟩ := xE_int (ρ := ρ) (b := b) (cA := cA) (ad := ad) (xbeq hc3)
      rw [xF_eq] at h
      obtain ⟨hvi, h⟩ := xbif h
      rw [xF_eq] at h
      have k := hK _ _ _ _ _ _ _ _ h ho _ _ _ _ hI
      have he := xWs_get (ρ := ρ) (b := b) (cA := cA) (ad := ad) (xGet_some rfl e3)
      rw [e1] at he
      rw [List.map_cons, xgI hvi] at k
      rw [List.map_cons, List.map_cons, xg0 (xbeq hx0), xg2 (xbeq hr)]
      refine va_iald hx hb hKt hI.2.1.1 (r / 8) 0 he rfl (xin_nI (xblt hlt) (xblt hxl)) hdg ?_
      rw [nI_clamp (xblt hxl)]
      exact k
  | [], h => cases h
  | [_], h => cases h
theorem xs_iastore (hx : p.tables.exec = Jvm.exec) (hb : c.code = bb) (hK : xHK p l e R s m args below meth c Q ρ b cA D A H0 nL ad0 n0 K outs) (hI : xInv ρ b cA D A H0 nL ad0 n0 ad H locs ls L Wd env) (ho : ∀ y ∈ o, y ∈ outs) (h : xo_iastore K a1 a2 pc L S Wd cc cs env = some o)
    (hKt : va_K D vwCl (xTys cA) s) (hdg : decode bb pc = .ok (.iastore, 1)) : W p l e R s m args below meth c H locs cc cs Q (F0 m pc ls (S.map (xg ρ b ad))) := by
  unfold xo_iastore at h
  match S, h with
  | v :: x :: r :: t, h =>
    dsimp only at h
    cases hc4 : Nat.beq (x % 8) 4 with
    | true =>
      rw [hc4, cond_true] at h
      obtain ⟨x', e', o', f1, f2, f3, f4⟩ := xC0_sound (b := b) h (xbeq hc4) hI.2.2.1
      have k := hK _ _ _ _ _ _ _ _ f1 (fun z hz => ho z (f2 z hz)) _ _ _ _ (hI.env f3)
      rw [List.map_cons, List.map_cons, f4] at k
      exact k
    | false =>
      rw [hc4, cond_false] at h
      obtain ⟨hc, h⟩ := xbif h
      obtain ⟨hc, hv⟩ := xand hc
      obtain ⟨hc, hvi⟩ := xand hc
      obtain ⟨hc, hr⟩ := xand hc
      obtain ⟨hx0, hxl⟩ := xand hc
      rw [xF_eq] at h
      obtain ⟨hc2, h⟩ := xbif h
      obtain ⟨hc3, hlt⟩ := xand hc2
      obtain ⟨e1, e3⟩ := xE_int (ρ := ρ) (b := b) (cA := cA) (ad := ad) (xbeq hc3)
      rw [xF_eq, xSet_eq, xF_eq] at h
      have he := xWs_get (ρ := ρ) (b := b) (cA := cA) (ad := ad) (xGet_some rfl e3)
      rw [e1] at he
      have hset : xWs ρ b cA ad (Wd.set (r / 8) (xPn (xGet Wd (r / 8)) (x / 8) 1 v)) = (xWs ρ b cA ad Wd).set (r / 8) (ad (r / 8), .inl (cA 0, xGet Wd (r / 8) % 18446744073709551616 / 8, .inl (upd (fun k => xd32 ρ (xDn (xGet Wd (r / 8)) k 1)) (x / 8) (xd32 ρ v)))) := by
        rw [xWs_set, (xE_int (ρ := ρ) (b := b) (cA := cA) (ad := ad) (by rw [xPn_8]; exact xbeq hc3)).1, xPn_hdr]
        have hf : (fun k => xd32 ρ (xDn (xPn (xGet Wd (r / 8)) (x / 8) 1 v) k 1)) = upd (fun k => xd32 ρ (xDn (xGet Wd (r / 8)) k 1)) (x / 8) (xd32 ρ v) := by
          funext k
          unfold upd
          rw [xPn_one (xblt hv)]
          split <;> rfl
        rw [hf]
      rw [List.map_cons, List.map_cons, List.map_cons, xgI hvi, xg0 (xbeq hx0), xg2 (xbeq hr)]
      refine va_iast hx hb hKt hI.2.1.1 hI.2.1.2.1 hI.2.1.2.2 (r / 8) 0 he rfl (xin_nI (xblt hlt) (xblt hxl)) hdg fun H1 locs1 hP1 hD1 hS1 => ?_
      rw [nI_clamp (xblt hxl), ← hset] at hP1 hD1
      exact hK _ _ _ _ _ _ _ _ h ho _ _ _ _ (hI.cell hP1 hD1 hS1)
  | [], h => cases h
  | [_], h => cases h
  | [_, _], h => cases h
theorem xs_laload (hx : p.tables.exec = Jvm.exec) (hb : c.code = bb) (hK : xHK p l e R s m args below meth c Q ρ b cA D A H0 nL ad0 n0 K outs) (hI : xInv ρ b cA D A H0 nL ad0 n0 ad H locs ls L Wd env) (ho : ∀ y ∈ o, y ∈ outs) (h : xo_laload K a1 a2 pc L S Wd cc cs env = some o)
    (hKt : va_K D vwCl (xTys cA) s) (hdg : decode bb pc = .ok (.laload, 1)) : W p l e R s m args below meth c H locs cc cs Q (F0 m pc ls (S.map (xg ρ b ad))) := by
  unfold xo_laload at h
  match S, h with
  | x :: r :: t, h =>
    dsimp only at h
    obtain ⟨hc, h⟩ := xbif h
    obtain ⟨hc, hr⟩ := xand hc
    obtain ⟨hx0, hxl⟩ := xand hc
    rw [xF_eq] at h
    obtain ⟨hc2, h⟩ := xbif h
    obtain ⟨hc3, hlt⟩ := xand hc2
    obtain ⟨e1, e3⟩ := xE_lon (ρ := ρ) (b := b) (cA := cA) (ad := ad) (xbeq hc3)
    rw [xF_eq, xF_eq] at h
    have k := hK _ _ _ _ _ _ _ _ h ho _ _ _ _ hI
    have he := xWs_get (ρ := ρ) (b := b) (cA := cA) (ad := ad) (xGet_some rfl e3)
    rw [e1] at he
    rw [List.map_cons, xg81] at k
    rw [List.map_cons, List.map_cons, xg0 (xbeq hx0), xg2 (xbeq hr)]
    refine va_lald hx hb hKt hI.2.1.1 (r / 8) 1 he rfl (xin_nI (xblt hlt) (xblt hxl)) hdg ?_
    rw [nI_clamp (xblt hxl)]
    exact k
  | [], h => cases h
  | [_], h => cases h
theorem xs_lastore (hx : p.tables.exec = Jvm.exec) (hb : c.code = bb) (hK : xHK p l e R s m args below meth c Q ρ b cA D A H0 nL ad0 n0 K outs) (hI : xInv ρ b cA D A H0 nL ad0 n0 ad H locs ls L Wd env) (ho : ∀ y ∈ o, y ∈ outs) (h : xo_lastore K a1 a2 pc L S Wd cc cs env = some o)
    (hKt : va_K D vwCl (xTys cA) s) (hdg : decode bb pc = .ok (.lastore, 1)) : W p l e R s m args below meth c H locs cc cs Q (F0 m pc ls (S.map (xg ρ b ad))) := by
  unfold xo_lastore at h
  match S, h with
  | v :: x :: r :: t, h =>
    dsimp only at h
    obtain ⟨hc, h⟩ := xbif h
    obtain ⟨hc, hv⟩ := xand hc
    obtain ⟨hc, hvi⟩ := xand hc
    obtain ⟨hc, hr⟩ := xand hc
    obtain ⟨hx0, hxl⟩ := xand hc
    rw [xF_eq] at h
    obtain ⟨hc2, h⟩ := xbif h
    obtain ⟨hc3, hlt⟩ := xand hc2
    obtain ⟨e1, e3⟩ := xE_lon (ρ := ρ) (b := b) (cA := cA) (ad := ad) (xbeq hc3)
    rw [xF_eq, xSet_eq, xF_eq] at h
    have he := xWs_get (ρ := ρ) (b := b) (cA := cA) (ad := ad) (xGet_some rfl e3)
    rw [e1] at he
    have hv8 : v / 8 < 4722366482869645213696 := Nat.lt_of_le_of_lt (Nat.div_le_self _ _) (xblt hv)
    have hset : xWs ρ b cA ad (Wd.set (r / 8) (xPn (xGet Wd (r / 8)) (x / 8) 1 (v / 8))) = (xWs ρ b cA ad Wd).set (r / 8) (ad (r / 8), .inl (cA 1, xGet Wd (r / 8) % 18446744073709551616 / 8, .inr (.inl (vp_updL (fun k => lN (xDn (xGet Wd (r / 8)) k 1)) (x / 8) (lN (v / 8)))))) := by
      rw [xWs_set, (xE_lon (ρ := ρ) (b := b) (cA := cA) (ad := ad) (by rw [xPn_8]; exact xbeq hc3)).1, xPn_hdr]
      have hf : (fun k => lN (xDn (xPn (xGet Wd (r / 8)) (x / 8) 1 (v / 8)) k 1)) = vp_updL (fun k => lN (xDn (xGet Wd (r / 8)) k 1)) (x / 8) (lN (v / 8)) := by
        funext k
        unfold vp_updL
        rw [xPn_one hv8]
        split <;> rfl
      rw [hf]
    rw [List.map_cons, List.map_cons, List.map_cons, xg1 (xbeq hvi), xg0 (xbeq hx0), xg2 (xbeq hr)]
    refine va_last hx hb hKt hI.2.1.1 hI.2.1.2.1 hI.2.1.2.2 (r / 8) 1 he rfl (xin_nI (xblt hlt) (xblt hxl)) hdg fun H1 locs1 hP1 hD1 hS1 => ?_
    rw [nI_clamp (xblt hxl), ← hset] at hP1 hD1
    exact hK _ _ _ _ _ _ _ _ h ho _ _ _ _ (hI.cell hP1 hD1 hS1)
  | [], h => cases h
  | [_], h => cases h
  | [_, _], h => cases h
theorem xs_baload (hx : p.tables.exec = Jvm.exec) (hb : c.code = bb) (hK : xHK p l e R s m args below meth c Q ρ b cA D A H0 nL ad0 n0 K outs) (hI : xInv ρ b cA D A H0 nL ad0 n0 ad H locs ls L Wd env) (ho : ∀ y ∈ o, y ∈ outs) (h : xo_baload K a1 a2 pc L S Wd cc cs env = some o)
    (hKt : va_K D vwCl (xTys cA) s) (hdg : decode bb pc = .ok (.baload, 1)) : W p l e R s m args below meth c H locs cc cs Q (F0 m pc ls (S.map (xg ρ b ad))) := by
  unfold xo_baload at h
  match S, h with
  | x :: r :: t, h =>
    dsimp only at h
    cases hc4 : Nat.beq (x % 8) 4 with
    | true =>
      rw [hc4, cond_true] at h
      obtain ⟨x', e', o', f1, f2, f3, f4⟩ := xC0_sound (b := b) h (xbeq hc4) hI.2.2.1
      have k := hK _ _ _ _ _ _ _ _ f1 (fun z hz => ho z (f2 z hz)) _ _ _ _ (hI.env f3)
      rw [List.map_cons, f4] at k
      exact k
    | false =>
      rw [hc4, cond_false] at h
      obtain ⟨hc, h⟩ := xbif h
      obtain ⟨hc, hr⟩ := xand hc
      obtain ⟨hx0, hxl⟩ := xand hc
      rw [xF_eq] at h
      obtain ⟨hc2, h⟩ := xbif h
      obtain ⟨hc3, hlt⟩ := xand hc2
      obtain ⟨e1, e3⟩ := xE_boo (ρ := ρ) (b := b) (cA := cA) (ad := ad) (xbeq hc3)
      rw [xF_eq] at h
      obtain ⟨hvi, h⟩ := xbif h
      rw [xF_eq] at h
      have k := hK _ _ _ _ _ _ _ _ h ho _ _ _ _ hI
      have he := xWs_get (ρ := ρ) (b := b) (cA := cA) (ad := ad) (xGet_some rfl e3)
      rw [e1] at he
      rw [List.map_cons, xgI hvi] at k
      rw [List.map_cons, List.map_cons, xg0 (xbeq hx0), xg2 (xbeq hr)]
      refine va_zald hx hb hKt hI.2.1.1 (r / 8) 2 he rfl (xin_nI (xblt hlt) (xblt hxl)) hdg ?_
      rw [nI_clamp (xblt hxl)]
      exact k
  | [], h => cases h
  | [_], h => cases h
theorem xs_bastore (hx : p.tables.exec = Jvm.exec) (hb : c.code = bb) (hK : xHK p l e R s m args below meth c Q ρ b cA D A H0 nL ad0 n0 K outs) (hI : xInv ρ b cA D A H0 nL ad0 n0 ad H locs ls L Wd env) (ho : ∀ y ∈ o, y ∈ outs) (h : xo_bastore K a1 a2 pc L S Wd cc cs env = some o)
    (hKt : va_K D vwCl (xTys cA) s) (hdg : decode bb pc = .ok (.bastore, 1)) : W p l e R s m args below meth c H locs cc cs Q (F0 m pc ls (S.map (xg ρ b ad))) := by
  unfold xo_bastore at h
  match S, h with
  | v :: x :: r :: t, h =>
    dsimp only at h
    cases hc4 : Nat.beq (x % 8) 4 with
    | true =>
      rw [hc4, cond_true] at h
      obtain ⟨x', e', o', f1, f2, f3, f4⟩ := xC0_sound (b := b) h (xbeq hc4) hI.2.2.1
      have k := hK _ _ _ _ _ _ _ _ f1 (fun z hz => ho z (f2 z hz)) _ _ _ _ (hI.env f3)
      rw [List.map_cons, List.map_cons, f4] at k
      exact k
    | false =>
      rw [hc4, cond_false] at h
      obtain ⟨hc, h⟩ := xbif h
      obtain ⟨hc, hv⟩ := xand hc
      obtain ⟨hc, hr⟩ := xand hc
      obtain ⟨hx0, hxl⟩ := xand hc
      rw [xF_eq] at h
      obtain ⟨hc2, h⟩ := xbif h
      obtain ⟨hc3, hlt⟩ := xand hc2
      obtain ⟨e1, e3⟩ := xE_boo (ρ := ρ) (b := b) (cA := cA) (ad := ad) (xbeq hc3)
      rw [xF_eq, xSet_eq, xF_eq] at h
      have he := xWs_get (ρ := ρ) (b := b) (cA := cA) (ad := ad) (xGet_some rfl e3)
      rw [e1] at he
      have hv2 : v = 0 ∨ v = 8 := by
        cases hq : Nat.beq v 0 with
        | true => exact Or.inl (xbeq hq)
        | false => rw [hq] at hv; exact Or.inr (xbeq (show Nat.beq v 8 = true from hv))
      have hvn : vp_nar .boolean (xd32 ρ v) = xd32 ρ v := by rcases hv2 with rfl | rfl <;> (unfold xd32; rw [if_neg (by decide)]; decide +kernel)
      have hvi : xIsI v = true := by rcases hv2 with rfl | rfl <;> rfl
      have hvb : v < 4722366482869645213696 := by omega
      have hset : xWs ρ b cA ad (Wd.set (r / 8) (xPn (xGet Wd (r / 8)) (x / 8) 1 v)) = (xWs ρ b cA ad Wd).set (r / 8) (ad (r / 8), .inl (cA 2, xGet Wd (r / 8) % 18446744073709551616 / 8, .inl (upd (fun k => xd32 ρ (xDn (xGet Wd (r / 8)) k 1)) (x / 8) (xd32 ρ v)))) := by
        rw [xWs_set, (xE_boo (ρ := ρ) (b := b) (cA := cA) (ad := ad) (by rw [xPn_8]; exact xbeq hc3)).1, xPn_hdr]
        have hf : (fun k => xd32 ρ (xDn (xPn (xGet Wd (r / 8)) (x / 8) 1 v) k 1)) = upd (fun k => xd32 ρ (xDn (xGet Wd (r / 8)) k 1)) (x / 8) (xd32 ρ v) := by
          funext k
          unfold upd
          rw [xPn_one hvb]
          split <;> rfl
        rw [hf]
      rw [List.map_cons, List.map_cons, List.map_cons, xgI hvi, xg0 (xbeq hx0), xg2 (xbeq hr)]
      refine va_zast hx hb hKt hI.2.1.1 hI.2.1.2.1 hI.2.1.2.2 (r / 8) 2 he rfl (xin_nI (xblt hlt) (xblt hxl)) hdg fun H1 locs1 hP1 hD1 hS1 => ?_
      rw [nI_clamp (xblt hxl), hvn, ← hset] at hP1 hD1
      exact hK _ _ _ _ _ _ _ _ h ho _ _ _ _ (hI.cell hP1 hD1 hS1)
  | [], h => cases h
  | [_], h => cases h
  | [_, _], h => cases h
theorem xs_aaload (hx : p.tables.exec = Jvm.exec) (hb : c.code = bb) (hK : xHK p l e R s m args below meth c Q ρ b cA D A H0 nL ad0 n0 K outs) (hI : xInv ρ b cA D A H0 nL ad0 n0 ad H locs ls L Wd env) (ho : ∀ y ∈ o, y ∈ outs) (h : xo_aaload K a1 a2 pc L S Wd cc cs env = some o)
    (hKt : va_K D vwCl (xTys cA) s) (hdg : decode bb pc = .ok (.aaload, 1)) : W p l e R s m args below meth c H locs cc cs Q (F0 m pc ls (S.map (xg ρ b ad))) := by
  unfold xo_aaload at h
  match S, h with
  | x :: r :: t, h =>
    dsimp only at h
    cases hc4 : Nat.beq (x % 8) 4 with
    | true =>
      rw [hc4, cond_true] at h
      obtain ⟨x', e', o', f1, f2, f3, f4⟩ := xC0_sound (b := b) h (xbeq hc4) hI.2.2.1
      have k := hK _ _ _ _ _ _ _ _ f1 (fun z hz => ho z (f2 z hz)) _ _ _ _ (hI.env f3)
      rw [List.map_cons, f4] at k
      exact k
    | false =>
      rw [hc4, cond_false] at h
      obtain ⟨hc, h⟩ := xbif h
      obtain ⟨hc, hr⟩ := xand hc
      obtain ⟨hx0, hxl⟩ := xand hc
      rw [xF_eq] at h
      obtain ⟨hc2, h⟩ := xbif h
      obtain ⟨hc3, hlt⟩ := xand hc2
      obtain ⟨e1, e3⟩ := xE_ref (ρ := ρ) (b := b) (cA := cA) (ad := ad) (xbeq hc3)
      rw [xF_eq] at h
      cases hz : Nat.beq (xDn (xGet Wd (r / 8)) (x / 8) 1) 0 with
      | true => rw [hz, cond_true] at h; cases h
      | false =>
        rw [hz, cond_false, xF_eq, xF_eq] at h
        have hnz : ¬ xDn (xGet Wd (r / 8)) (x / 8) 1 = 0 := fun q => by rw [q] at hz; cases hz
        have k := hK _ _ _ _ _ _ _ _ h ho _ _ _ _ hI
        have he := xWs_get (ρ := ρ) (b := b) (cA := cA) (ad := ad) (xGet_some rfl e3)
        rw [e1] at he
        rw [List.map_cons, xg2 (by omega), show ((xDn (xGet Wd (r / 8)) (x / 8) 1 - 1) * 8 + 2) / 8 = xDn (xGet Wd (r / 8)) (x / 8) 1 - 1 by omega] at k
        rw [List.map_cons, List.map_cons, xg0 (xbeq hx0), xg2 (xbeq hr)]
        refine va_aldq hx hb hKt hI.2.1.1 (r / 8) 3 he rfl (xin_nI (xblt hlt) (xblt hxl)) hdg ?_
        rw [nI_clamp (xblt hxl), if_pos (xblt hlt)]
        unfold xqf
        rw [if_neg hnz]
        exact k
  | [], h => cases h
  | [_], h => cases h
theorem xs_aastore (hx : p.tables.exec = Jvm.exec) (hb : c.code = bb) (hK : xHK p l e R s m args below meth c Q ρ b cA D A H0 nL ad0 n0 K outs) (hI : xInv ρ b cA D A H0 nL ad0 n0 ad H locs ls L Wd env) (ho : ∀ y ∈ o, y ∈ outs) (h : xo_aastore K a1 a2 pc L S Wd cc cs env = some o)
    (hKt : va_K D vwCl (xTys cA) s) (hdg : decode bb pc = .ok (.aastore, 1)) : W p l e R s m args below meth c H locs cc cs Q (F0 m pc ls (S.map (xg ρ b ad))) := by
  unfold xo_aastore at h
  match S, h with
  | v :: x :: r :: t, h =>
    dsimp only at h
    obtain ⟨hc, h⟩ := xbif h
    obtain ⟨hc, hv34⟩ := xand hc
    obtain ⟨hc, hv⟩ := xand hc
    obtain ⟨hc, hv2⟩ := xand hc
    obtain ⟨hc, hr⟩ := xand hc
    obtain ⟨hx0, hxl⟩ := xand hc
    rw [xF_eq] at h
    obtain ⟨hc2, h⟩ := xbif h
    obtain ⟨hc3, hlt⟩ := xand hc2
    obtain ⟨e1, e3⟩ := xE_ref (ρ := ρ) (b := b) (cA := cA) (ad := ad) (xbeq hc3)
    obtain ⟨g1, g2, g3⟩ := xE_obj (ρ := ρ) (b := b) (cA := cA) (ad := ad) (ci := 4) (xbeq hv34)
    rw [xF_eq, xSet_eq, xF_eq] at h
    have he := xWs_get (ρ := ρ) (b := b) (cA := cA) (ad := ad) (xGet_some rfl e3)
    rw [e1] at he
    have hg := xWs_get (ρ := ρ) (b := b) (cA := cA) (ad := ad) (xGet_some rfl g3)
    rw [g1] at hg
    have hv' := xblt hv
    have hv8 : v / 8 + 1 < 4722366482869645213696 := by omega
    have hlt' := xblt hlt
    have hset : xWs ρ b cA ad (Wd.set (r / 8) (xPn (xGet Wd (r / 8)) (x / 8) 1 (v / 8 + 1))) = (xWs ρ b cA ad Wd).set (r / 8) (ad (r / 8), .inl (cA 3, xGet Wd (r / 8) % 18446744073709551616 / 8, .inr (.inr (.inr (.inr (va_up (fun k => if k < xGet Wd (r / 8) % 18446744073709551616 / 8 then xqf ad (xDn (xGet Wd (r / 8)) k 1) else none) (x / 8) (some (ad (v / 8))))))))) := by
      rw [xWs_set, (xE_ref (ρ := ρ) (b := b) (cA := cA) (ad := ad) (by rw [xPn_8]; exact xbeq hc3)).1, xPn_hdr]
      have hf : (fun k => if k < xGet Wd (r / 8) % 18446744073709551616 / 8 then xqf ad (xDn (xPn (xGet Wd (r / 8)) (x / 8) 1 (v / 8 + 1)) k 1) else none) = va_up (fun k => if k < xGet Wd (r / 8) % 18446744073709551616 / 8 then xqf ad (xDn (xGet Wd (r / 8)) k 1) else none) (x / 8) (some (ad (v / 8))) := by
        funext k
        unfold va_up
        rw [xPn_one hv8]
        by_cases hk : k = x / 8
        · subst hk
          rw [if_pos rfl, if_pos rfl, if_pos hlt']
          unfold xqf
          rw [if_neg (by omega), show v / 8 + 1 - 1 = v / 8 by omega]
        · rw [if_neg hk, if_neg hk]
      rw [hf]
    rw [List.map_cons, List.map_cons, List.map_cons, xg2 (xbeq hv2), xg0 (xbeq hx0), xg2 (xbeq hr)]
    refine va_astq hx hb hKt hI.2.1.1 hI.2.1.2.1 hI.2.1.2.2 (r / 8) 3 (v / 8) 4 (r := (RX5, TX5, 18)) he rfl hg rfl (xin_nI hlt' (xblt hxl)) hdg fun H1 locs1 hP1 hD1 hS1 => ?_
    rw [nI_clamp (xblt hxl), ← hset] at hP1 hD1
    exact hK _ _ _ _ _ _ _ _ h ho _ _ _ _ (hI.cell hP1 hD1 hS1)
  | [], h => cases h
  | [_], h => cases h
  | [_, _], h => cases h
end XOH
