section XOA
variable {p : Program} {l : Launch} {e : Env} {R : Room} {s : State} {m : MethodId} {args : Array Value} {below : List Frame} {meth : Method} {c : Code} {Q : State → Prop}
variable {ρ : Nat → Int32} {b : Nat} {cA : Nat → ClassId} {D : va_G} {A : Nat → Prop} {H0 : Heap} {nL n0 : Nat} {ad0 : Nat → Nat} {K : xKt} {outs o : List xOut}
variable {bb : ByteArray} {a1 a2 pc cc cs Lz k0 mc ms d : Nat} {L S Wd : List Nat} {env : xEv} {ad : Nat → Nat} {H : Heap} {locs : List Loc} {ls : Array Slot}
theorem xWfW_mem {n : Nat} {l : List Nat} (h : xWfW n l = true) : ∀ cv ∈ l, xWfC n cv = true := by
  induction l with
  | nil => intro cv hc; cases hc
  | cons a t ih =>
    intro cv hc
    have h' : (xWfC n a && xWfW n t) = true := h
    rcases List.mem_cons.mp hc with rfl | hc
    · exact (xand h').1
    · exact ih (xand h').2 cv hc
/-- one more cell: the places keep their addresses -/
def xad (ad : Nat → Nat) (n q : Nat) : Nat → Nat := fun i => if i = n then q else ad i
theorem xWs_snoc {q cv : Nat} (h : xWfW Wd.length Wd = true) : xWs ρ b cA (xad ad Wd.length q) (Wd ++ [cv]) = xWs ρ b cA ad Wd ++ [(q, xE ρ b cA (xad ad Wd.length q) cv)] := by
  have hk : ∀ i, i < Wd.length → xad ad Wd.length q i = ad i := fun i hi => by unfold xad; rw [if_neg (by omega)]
  apply List.ext_getElem?
  intro j
  unfold xWs
  rw [List.getElem?_mapIdx]
  by_cases hj : j < Wd.length
  · rw [List.getElem?_append_left hj, List.getElem?_append_left (by simpa using hj), List.getElem?_mapIdx]
    rw [List.getElem?_eq_getElem hj]
    show some (xad ad Wd.length q j, xE ρ b cA (xad ad Wd.length q) Wd[j]) = some (ad j, xE ρ b cA ad Wd[j])
    rw [hk j hj, xE_keep hk (xWfW_mem h _ (List.getElem_mem hj))]
  · by_cases hj2 : j = Wd.length
    · subst hj2
      rw [List.getElem?_append_right (Nat.le_refl _), List.getElem?_append_right (by simp), Nat.sub_self]
      simp [xad]
    · rw [List.getElem?_eq_none (by simp; omega), List.getElem?_eq_none (by simp; omega)]
      rfl
theorem xInv.snoc {q cv : Nat} {H1 : Heap} {locs1 : List Loc} (hI : xInv ρ b cA D A H0 nL ad0 n0 ad H locs ls L Wd env) (hL : xWfL Wd.length L = true) (hW : xWfW Wd.length Wd = true) (hP : va_P D vwCl (xWs ρ b cA ad Wd ++ [(q, xE ρ b cA (xad ad Wd.length q) cv)]) H1) (hD : va_D A (xWs ρ b cA ad Wd ++ [(q, xE ρ b cA (xad ad Wd.length q) cv)])) (hS : va_S A H0 H1 locs1) : xInv ρ b cA D A H0 nL ad0 n0 (xad ad Wd.length q) H1 locs1 ls L (Wd ++ [cv]) env := by
  have hk : ∀ i, i < Wd.length → xad ad Wd.length q i = ad i := fun i hi => by unfold xad; rw [if_neg (by omega)]
  rw [← xWs_snoc hW] at hP hD
  refine ⟨⟨hI.1.1, xlv_mono hI.1.2 fun z hz => ?_⟩, ⟨hP, hD, hS⟩, hI.2.2.1, ?_⟩
  · obtain ⟨cz, e1, e2, e3⟩ := xLl_mem.mp hz
    refine xLl_mem.mpr ⟨cz, e1, e2, ?_⟩
    rw [e3, xg_keep hk (xWfL_mem hL cz (List.mem_of_getElem? e1))]
  · obtain ⟨g1, g2, g3⟩ := hI.2.2.2
    refine ⟨by rw [List.length_append]; omega, fun i hi => by rw [hk i (by omega), g2 i hi], fun hq => ?_⟩
    rw [List.length_append] at hq
    simp at hq
    omega
theorem xmapS {q : Nat} {l : List Nat} (h : xWfL Wd.length l = true) : l.map (xg ρ b (xad ad Wd.length q)) = l.map (xg ρ b ad) := xmap_keep (fun i hi => by unfold xad; rw [if_neg (by omega)]) h
theorem xg_new (q : Nat) : xg ρ b (xad ad Wd.length q) (Wd.length * 8 + 2) = .ref q := by
  rw [xg2 (by omega), show (Wd.length * 8 + 2) / 8 = Wd.length by omega]
  unfold xad
  rw [if_pos rfl]
theorem xs_new (hx : p.tables.exec = Jvm.exec) (hb : c.code = bb) (hK : xHK p l e R s m args below meth c Q ρ b cA D A H0 nL ad0 n0 K outs) (hI : xInv ρ b cA D A H0 nL ad0 n0 ad H locs ls L Wd env) (ho : ∀ y ∈ o, y ∈ outs) (h : xo_new Lz k0 mc ms K a1 a2 pc L S Wd cc cs env = some o)
    {own : String} (hts : ∀ w ∈ xTb, w.before args s = true) (hown : s.vm.findClass own = some m.cls) (hKt : va_K D vwCl (xTys cA) s) (hA : ∀ q, H0.size ≤ q → A q) (hmc : mc ≤ R.cells) (hms : ms ≤ R.slots) {idx : Nat} {q : vw_C} (hdg : decode bb pc = .ok (.new idx, 3)) (hq : vwCl[a1]? = some q) (hl : Jvm.Cond.classLink own idx q.1 ∈ xTb) (hi : Jvm.Cond.instantiable q.1 q.2.2 ∈ xTb) (hn : Jvm.Cond.initialized q.1 ∈ xTb) : W p l e R s m args below meth c H locs cc cs Q (F0 m pc ls (S.map (xg ρ b ad))) := by
  unfold xo_new at h
  rw [xF_eq] at h
  obtain ⟨hc, h⟩ := xbif h
  obtain ⟨hc, hW⟩ := xand hc
  obtain ⟨hc, hS⟩ := xand hc
  obtain ⟨hc, hL⟩ := xand hc
  obtain ⟨hc1, hc2⟩ := xand hc
  rw [xLen_eq] at hW hS hL
  rw [xF_eq, xSnoc_eq, xF_eq, xF_eq, xF_eq, xF_eq, xLen_eq] at h
  have ha1 : a1 < 10 := by
    have := (List.getElem?_eq_some_iff.mp hq).1
    simpa [vwCl] using this
  obtain ⟨d1, d2⟩ := xDef_ok a1 ha1
  have hcl := xCls_ok hq
  have hN : xNf a1 = q.2.2 := xNf_eq hq
  have hnr : ∀ j, j < xNf a1 → ¬ xDn (xDefO a1 (xNf a1)) j 1 % 8 = 2 := by
    intro j hj
    obtain ⟨f1, f2⟩ := d2 j hj
    rw [f1]
    rcases f2 with f2 | f2 | ⟨f2, f3⟩
    · rw [f2]; decide
    · rw [f2]; decide
    · rw [f3]; decide
  obtain ⟨C, T, N⟩ := q
  dsimp only at hN
  refine va_new hx hb hts hcl.1 (xTyOf a1) hcl.2.1 hown (hts _ hl) (hts _ hi) (hts _ hn) hKt hI.2.1.1 hI.2.1.2.1 hI.2.1.2.2 hA hq (fs := (List.range (xNf a1)).map (fun k => xg ρ b ad (xDn (xDefO a1 (xNf a1)) k 1))) (fun j hj => ?_) (Nat.le_trans (xble hc1) hmc) (by rw [← hN]; exact Nat.le_trans (xble hc2) hms) hdg (fun qa H1 hP1 hD1 hS1 => ?_)
  · have hj' : j < xNf a1 := by rw [hN]; exact hj
    unfold vp_V
    rw [List.getD_eq_getElem?_getD, List.getElem?_map, List.getElem?_range hj']
    show _ = xg ρ b ad (xDn (xDefO a1 (xNf a1)) j 1)
    obtain ⟨f1, f2⟩ := d2 j hj'
    rw [f1]
    rcases f2 with f2 | f2 | ⟨f2, f3⟩
    · rw [f2]; rfl
    · rw [f2]; rfl
    · rw [f2, f3]; rfl
  · have he : xE ρ b cA (xad ad Wd.length qa) (xDefO a1 (xNf a1)) = .inr (a1, (List.range (xNf a1)).map (fun k => xg ρ b ad (xDn (xDefO a1 (xNf a1)) k 1))) := by
      rw [(xE_obj (ρ := ρ) (b := b) (cA := cA) (ad := xad ad Wd.length qa) d1).1]
      congr 2
      apply List.map_congr_left
      intro k hk
      exact xg_keep (n := 0) (fun i hi => by omega) (fun z => absurd z (hnr k (List.mem_range.mp hk)))
    rw [← he] at hP1 hD1
    have k := hK _ _ _ _ _ _ _ _ h ho _ _ _ _ (hI.snoc hL hW hP1 hD1 hS1)
    rw [List.map_cons, xg_new, xmapS hS, hN] at k
    exact k
theorem xnewk {ty : FieldType} {t : Nat} (hKt : va_K D vwCl (xTys cA) s) (ht : (xTys cA)[t]? = some (cA t, ty)) {cB : ClassId} (hK' : va_K D vwCl (xTys cA ++ [(cB, ty)]) s) (hp : (∃ C, ty = .object C) ∨ (ty = .int ∨ ty = .long ∨ ty = .boolean)) : cB = cA t := by
  have h1 := (hKt.2 t _ ht).2
  have h2 := (hK'.2 4 (cB, ty) rfl).2
  rcases hp with ⟨C, rfl⟩ | rfl | rfl | rfl
  · obtain ⟨_, _, _, _, _, f1⟩ := h1
    obtain ⟨_, _, _, _, _, f2⟩ := h2
    exact Option.some.inj (f2.symm.trans f1)
  · exact Option.some.inj ((show s.vm.findClass _ = some cB from h2).symm.trans h1)
  · exact Option.some.inj ((show s.vm.findClass _ = some cB from h2).symm.trans h1)
  · exact Option.some.inj ((show s.vm.findClass _ = some cB from h2).symm.trans h1)
theorem xs_newa (hx : p.tables.exec = Jvm.exec) (hb : c.code = bb) (hK : xHK p l e R s m args below meth c Q ρ b cA D A H0 nL ad0 n0 K outs) (hI : xInv ρ b cA D A H0 nL ad0 n0 ad H locs ls L Wd env) (ho : ∀ y ∈ o, y ∈ outs) {t : ArrayType} (h : xo_newa mc ms K (.newarray t) pc L S Wd cc cs env = some o)
    (hts : ∀ w ∈ xTb, w.before args s = true) (hKt : va_K D vwCl (xTys cA) s) (hA : ∀ q, H0.size ≤ q → A q) (hmc : mc ≤ R.cells) (hms : ms ≤ R.slots) (hdg : decode bb pc = .ok (.newarray t, 2)) (hw : Jvm.Cond.arrayClass (newarray.typeOf t) ∈ xTb) : W p l e R s m args below meth c H locs cc cs Q (F0 m pc ls (S.map (xg ρ b ad))) := by
  unfold xo_newa at h
  match S, h with
  | x :: r, h =>
    dsimp only at h
    rw [xF_eq] at h
    obtain ⟨hc, h⟩ := xbif h
    obtain ⟨hc, hW⟩ := xand hc
    obtain ⟨hc, hS⟩ := xand hc
    obtain ⟨hc, hL⟩ := xand hc
    obtain ⟨hc, hc2⟩ := xand hc
    obtain ⟨hc, hc1⟩ := xand hc
    obtain ⟨hc, hty⟩ := xand hc
    obtain ⟨hx0, hxl⟩ := xand hc
    have hxl := xble hxl
    rw [xLen_eq] at hW hS hL
    rw [xF_eq, xSnoc_eq, xF_eq, xF_eq, xF_eq, xF_eq, xLen_eq] at h
    have hcl : 1 + 2 * xAty t + 8 * (x / 8) < 18446744073709551616 := by
      have := xblt hty
      omega
    have hlen : (1 + 2 * xAty t + 8 * (x / 8)) % 18446744073709551616 / 8 = x / 8 := by
      have := xblt hty
      rw [Nat.mod_eq_of_lt hcl]
      omega
    have hcl0 : (nI (x / 8)).toNatClampNeg = x / 8 := nI_clamp (by omega)
    have hn0 : ¬ nI (x / 8) < 0 := nI_pos (by omega)
    rw [List.map_cons, xg0 (xbeq hx0)]
    have go : ∀ (ty : FieldType) (tt : Nat) (a0 : vp_A), newarray.typeOf t = ty → (xTys cA)[tt]? = some (cA tt, ty) → ((∃ C, ty = .object C) ∨ (ty = .int ∨ ty = .long ∨ ty = .boolean)) → (∀ cB : ClassId, vp_cell cB a0 = arrV cB (x / 8) (fun _ => defaultValue ty)) → (componentBytes ty ≤ 8) → (∀ ad', xE ρ b cA ad' (1 + 2 * xAty t + 8 * (x / 8)) = .inl (cA tt, a0)) → W p l e R s m args below meth c H locs cc cs Q (F0 m pc ls (.int (nI (x / 8)) :: r.map (xg ρ b ad))) := by
      intro ty tt a0 g1 g2 g3 g4 g5 g6
      refine va_newa hx hb (hts _ hw) g1 hKt hI.2.1.1 hI.2.1.2.1 hI.2.1.2.2 hA g4 hn0 hcl0 (by have := Nat.mul_le_mul hxl g5; omega) (Nat.le_trans (xble hc1) hmc) (Nat.le_trans (xble hc2) hms) hdg (fun qa cB H1 hK1 hP1 hD1 hS1 => ?_)
      have e := xnewk hKt g2 hK1 g3
      subst e
      rw [← g6 (xad ad Wd.length qa)] at hP1 hD1
      have k := hK _ _ _ _ _ _ _ _ h ho _ _ _ _ (hI.snoc hL hW hP1 hD1 hS1)
      rw [List.map_cons, xg_new, xmapS hS] at k
      exact k
    cases t with
    | int =>
      refine go .int 0 (x / 8, .inl (fun k => xd32 ρ (xDn (1 + 2 * xAty .int + 8 * (x / 8)) k 1))) rfl rfl (Or.inr (Or.inl rfl)) (fun cB => ?_) (by decide) (fun ad' => ?_)
      · rw [vp_cell_i]
        congr 1
        funext j
        rw [xDn_small hcl]
        rfl
      · rw [(xE_int (by show (1 + 2 * 0 + 8 * (x / 8)) % 8 = 1; omega)).1, hlen]
    | long =>
      refine go .long 1 (x / 8, .inr (.inl (fun k => lN (xDn (1 + 2 * xAty .long + 8 * (x / 8)) k 1)))) rfl rfl (Or.inr (Or.inr (Or.inl rfl))) (fun cB => ?_) (by decide) (fun ad' => ?_)
      · rw [vp_cell_l]
        congr 1
        funext j
        rw [xDn_small hcl]
        rfl
      · rw [(xE_lon (by show (1 + 2 * 1 + 8 * (x / 8)) % 8 = 3; omega)).1, hlen]
    | boolean =>
      refine go .boolean 2 (x / 8, .inl (fun k => xd32 ρ (xDn (1 + 2 * xAty .boolean + 8 * (x / 8)) k 1))) rfl rfl (Or.inr (Or.inr (Or.inr rfl))) (fun cB => ?_) (by decide) (fun ad' => ?_)
      · rw [vp_cell_i]
        congr 1
        funext j
        rw [xDn_small hcl]
        rfl
      · rw [(xE_boo (by show (1 + 2 * 2 + 8 * (x / 8)) % 8 = 5; omega)).1, hlen]
    | char => exact absurd hty (by decide)
    | float => exact absurd hty (by decide)
    | double => exact absurd hty (by decide)
    | byte => exact absurd hty (by decide)
    | short => exact absurd hty (by decide)
  | [], h => cases h
theorem xs_anewa (hx : p.tables.exec = Jvm.exec) (hb : c.code = bb) (hK : xHK p l e R s m args below meth c Q ρ b cA D A H0 nL ad0 n0 K outs) (hI : xInv ρ b cA D A H0 nL ad0 n0 ad H locs ls L Wd env) (ho : ∀ y ∈ o, y ∈ outs) (h : xo_anewa Lz k0 mc ms K a1 a2 pc L S Wd cc cs env = some o)
    {own : String} (hts : ∀ w ∈ xTb, w.before args s = true) (hown : s.vm.findClass own = some m.cls) (hKt : va_K D vwCl (xTys cA) s) (hA : ∀ q, H0.size ≤ q → A q) (hmc : mc ≤ R.cells) (hms : ms ≤ R.slots) {idx : Nat} (hdg : decode bb pc = .ok (.anewarray idx, 3)) (hl : Jvm.Cond.classLink own idx RX5 ∈ xTb) (hw : va_AO RX5 s) : W p l e R s m args below meth c H locs cc cs Q (F0 m pc ls (S.map (xg ρ b ad))) := by
  unfold xo_anewa at h
  match S, h with
  | x :: r, h =>
    dsimp only at h
    rw [xF_eq] at h
    obtain ⟨hc, h⟩ := xbif h
    obtain ⟨hc, hW⟩ := xand hc
    obtain ⟨hc, hS⟩ := xand hc
    obtain ⟨hc, hL⟩ := xand hc
    obtain ⟨hc, hc2⟩ := xand hc
    obtain ⟨hc, hc1⟩ := xand hc
    obtain ⟨hx0, hxl⟩ := xand hc
    have hxl := xble hxl
    rw [xLen_eq] at hW hS hL
    rw [xF_eq, xSnoc_eq, xF_eq, xF_eq, xF_eq, xF_eq, xLen_eq] at h
    have hcl : 7 + 8 * (x / 8) < 18446744073709551616 := by omega
    have hlen : (7 + 8 * (x / 8)) % 18446744073709551616 / 8 = x / 8 := by
      rw [Nat.mod_eq_of_lt hcl]
      omega
    rw [List.map_cons, xg0 (xbeq hx0)]
    refine va_newq hx hb hown (hts _ hl) hw hKt hI.2.1.1 hI.2.1.2.1 hI.2.1.2.2 hA (nI_pos (by omega)) (nI_clamp (by omega)) (by omega) (Nat.le_trans (xble hc1) hmc) (Nat.le_trans (xble hc2) hms) hdg (fun qa cB H1 hK1 hP1 hD1 hS1 => ?_)
    have e : cB = cA 3 := xnewk (t := 3) hKt rfl hK1 (Or.inl ⟨RX5, rfl⟩)
    subst e
    have g6 : xE ρ b cA (xad ad Wd.length qa) (7 + 8 * (x / 8)) = .inl (cA 3, x / 8, .inr (.inr (.inr (.inr (fun _ => none))))) := by
      rw [(xE_ref (by omega)).1, hlen]
      congr 7
      funext j
      rw [xDn_small hcl]
      split <;> rfl
    rw [← g6] at hP1 hD1
    have k := hK _ _ _ _ _ _ _ _ h ho _ _ _ _ (hI.snoc hL hW hP1 hD1 hS1)
    rw [List.map_cons, xg_new, xmapS hS] at k
    exact k
  | [], h => cases h
theorem xs_sload (hx : p.tables.exec = Jvm.exec) (hb : c.code = bb) (hK : xHK p l e R s m args below meth c Q ρ b cA D A H0 nL ad0 n0 K outs) (hI : xInv ρ b cA D A H0 nL ad0 n0 ad H locs ls L Wd env) (ho : ∀ y ∈ o, y ∈ outs) {sc : Nat → Nat} (hsc : ∀ i, sc i = xN32 (ρ i) * 8) (h : xo_sload Lz sc k0 mc ms K a1 a2 pc L S Wd cc cs env = some o)
    (hX : k0 = 0 → va_X b Lz ρ s H0 ∧ b < H0.size ∧ ¬ A b) (hdg : decode bb pc = .ok (.iaload, 1)) : W p l e R s m args below meth c H locs cc cs Q (F0 m pc ls (S.map (xg ρ b ad))) := by
  unfold xo_sload at h
  match S, h with
  | x :: r :: t, h =>
    dsimp only at h
    obtain ⟨hc, h⟩ := xbif h
    obtain ⟨hc, hlt⟩ := xand hc
    obtain ⟨hc, hk⟩ := xand hc
    obtain ⟨hc, hr⟩ := xand hc
    obtain ⟨hx0, hxl⟩ := xand hc
    obtain ⟨f1, f2, f3⟩ := hX (xbeq hk)
    have hr := xbeq hr
    rw [xF_eq, xF_eq] at h
    have k := hK _ _ _ _ _ _ _ _ h ho _ _ _ _ hI
    rw [List.map_cons, hsc, xg8, xN32_eq] at k
    rw [List.map_cons, List.map_cons, xg0 (xbeq hx0), hr, xg6 rfl]
    refine va_sld hx hb f1 f2 f3 hI.2.1.2.2 (xin_nI (xblt hlt) (xblt hxl)) hdg ?_
    rw [nI_clamp (xblt hxl)]
    exact k
  | [], h => cases h
  | [_], h => cases h
theorem xs_alen (hx : p.tables.exec = Jvm.exec) (hb : c.code = bb) (hK : xHK p l e R s m args below meth c Q ρ b cA D A H0 nL ad0 n0 K outs) (hI : xInv ρ b cA D A H0 nL ad0 n0 ad H locs ls L Wd env) (ho : ∀ y ∈ o, y ∈ outs) (h : xo_alen Lz k0 mc ms K a1 a2 pc L S Wd cc cs env = some o)
    (hKt : va_K D vwCl (xTys cA) s) (hX : k0 = 0 → va_X b Lz ρ s H0 ∧ b < H0.size ∧ ¬ A b) (hdg : decode bb pc = .ok (.arraylength, 1)) : W p l e R s m args below meth c H locs cc cs Q (F0 m pc ls (S.map (xg ρ b ad))) := by
  unfold xo_alen at h
  match S, h with
  | r :: t, h =>
    dsimp only at h
    cases hr : Nat.beq (r % 8) 2 with
    | true =>
      rw [hr, cond_true, xF_eq] at h
      obtain ⟨hc, h⟩ := xbif h
      have hc := xbeq hc
      rw [xF_eq, xF_eq] at h
      have k := hK _ _ _ _ _ _ _ _ h ho _ _ _ _ hI
      rw [List.map_cons, xg8] at k
      rw [List.map_cons, xg2 (xbeq hr)]
      have h4 : xGet Wd (r / 8) % 8 = 1 ∨ xGet Wd (r / 8) % 8 = 3 ∨ xGet Wd (r / 8) % 8 = 5 ∨ xGet Wd (r / 8) % 8 = 7 := by omega
      rcases h4 with h4 | h4 | h4 | h4
      · obtain ⟨e1, e3⟩ := xE_int (ρ := ρ) (b := b) (cA := cA) (ad := ad) h4
        have he := xWs_get (ρ := ρ) (b := b) (cA := cA) (ad := ad) (xGet_some rfl e3)
        rw [e1] at he
        exact va_alen hx hb hKt hI.2.1.1 (r / 8) 0 he rfl rfl hdg k
      · obtain ⟨e1, e3⟩ := xE_lon (ρ := ρ) (b := b) (cA := cA) (ad := ad) h4
        have he := xWs_get (ρ := ρ) (b := b) (cA := cA) (ad := ad) (xGet_some rfl e3)
        rw [e1] at he
        exact va_alen hx hb hKt hI.2.1.1 (r / 8) 1 he rfl rfl hdg k
      · obtain ⟨e1, e3⟩ := xE_boo (ρ := ρ) (b := b) (cA := cA) (ad := ad) h4
        have he := xWs_get (ρ := ρ) (b := b) (cA := cA) (ad := ad) (xGet_some rfl e3)
        rw [e1] at he
        exact va_alen hx hb hKt hI.2.1.1 (r / 8) 2 he rfl rfl hdg k
      · obtain ⟨e1, e3⟩ := xE_ref (ρ := ρ) (b := b) (cA := cA) (ad := ad) h4
        have he := xWs_get (ρ := ρ) (b := b) (cA := cA) (ad := ad) (xGet_some rfl e3)
        rw [e1] at he
        exact va_alen hx hb hKt hI.2.1.1 (r / 8) 3 he rfl rfl hdg k
    | false =>
      rw [hr, cond_false] at h
      obtain ⟨hc, h⟩ := xbif h
      obtain ⟨h6, hk⟩ := xand hc
      obtain ⟨f1, f2, f3⟩ := hX (xbeq hk)
      have h6 := xbeq h6
      rw [xF_eq, xF_eq] at h
      have k := hK _ _ _ _ _ _ _ _ h ho _ _ _ _ hI
      rw [List.map_cons, xg8] at k
      rw [List.map_cons, h6, xg6 rfl]
      exact va_slen hx hb f1 f2 f3 hI.2.1.2.2 hdg k
  | [], h => cases h
theorem xCats_eq (l : List Nat) : ((l.map (xg ρ b ad)).map (fun v => v.category)).sum = xCats l := by
  induction l with
  | nil => rfl
  | cons a t ih =>
    rw [List.map_cons, List.map_cons, List.sum_cons, ih, xg_cat, xCats_cons]
theorem xs_objI (hx : p.tables.exec = Jvm.exec) (hb : c.code = bb) (hK : xHK p l e R s m args below meth c Q ρ b cA D A H0 nL ad0 n0 K outs) (hI : xInv ρ b cA D A H0 nL ad0 n0 ad H locs ls L Wd env) (ho : ∀ y ∈ o, y ∈ outs) (h : xo_objI d K pc L S Wd cc cs env = some o)
    {own : String} (hts : ∀ w ∈ xTb, w.before args s = true) (hown : s.vm.findClass own = some m.cls) (hml : c.maxLocals = nL) (hfr : d ≤ R.frames) (hlo : 60 * d ≤ R.locals) {idx : Nat} (hdg : decode bb pc = .ok (.invokespecial idx, 3)) (hl : Jvm.Cond.methodLink own idx Lib.objectInit ∈ xTb) (hi : Jvm.Cond.instanceMethod Lib.objectInit ∈ xTb) (hc : Jvm.Cond.code Lib.objectInit ⟨#[0xb1]⟩ 1 none ∈ xTb) : W p l e R s m args below meth c H locs cc cs Q (F0 m pc ls (S.map (xg ρ b ad))) := by
  unfold xo_objI at h
  match S, h with
  | r :: t, h =>
    dsimp only at h
    obtain ⟨hb1, h⟩ := xbif h
    obtain ⟨hb2, hd⟩ := xand hb1
    obtain ⟨hr, hca⟩ := xand hb2
    have hd := xblt hd
    have hca := xble hca
    rw [xF_eq] at h
    have k := hK _ _ _ _ _ _ _ _ h ho _ _ _ _ hI
    rw [List.map_cons, xg2 (xbeq hr)]
    refine W.objInit hx hb hown (hts _ hl) (hts _ hi) (hts _ hc) rfl (hI.1.2.1.trans hml.symm) rfl hdg (by omega) ?_ k
    have e := xCats_eq (ρ := ρ) (b := b) (ad := ad) t
    have e2 := lv_room (m := m) (pc := pc) (ls := ls) (rest := xg ρ b ad r :: t.map (xg ρ b ad)) (st := t.map (xg ρ b ad)) (by rw [e]; exact hca)
    rw [xg2 (xbeq hr)] at e2
    refine Nat.le_trans (Nat.add_le_add_right e2 12) ?_
    omega
  | [], h => cases h
theorem xs_acopy (hx : p.tables.exec = Jvm.exec) (hb : c.code = bb) (hK : xHK p l e R s m args below meth c Q ρ b cA D A H0 nL ad0 n0 K outs) (hI : xInv ρ b cA D A H0 nL ad0 n0 ad H locs ls L Wd env) (ho : ∀ y ∈ o, y ∈ outs) (h : xo_acopy d K pc L S Wd cc cs env = some o)
    {own : String} (hts : ∀ w ∈ xTb, w.before args s = true) (hown : s.vm.findClass own = some m.cls) (hKt : va_K D vwCl (xTys cA) s) (hml : c.maxLocals = nL) (hfr : d ≤ R.frames) (hlo : 60 * d ≤ R.locals) {idx : Nat} (hdg : decode bb pc = .ok (.invokestatic idx, 3)) (hl : Jvm.Cond.methodLink own idx arraycopyName ∈ xTb) (hn : Jvm.Cond.native arraycopyName ∈ xTb) (hst : Jvm.Cond.static arraycopyName ∈ xTb) (hi : Jvm.Cond.initialized "java/lang/System" ∈ xTb) : W p l e R s m args below meth c H locs cc cs Q (F0 m pc ls (S.map (xg ρ b ad))) := by
  unfold xo_acopy at h
  match S, h with
  | n :: dp :: dst :: sp :: src :: t, h =>
    dsimp only at h
    obtain ⟨hc, h⟩ := xbif h
    obtain ⟨hc, hne⟩ := xand hc
    obtain ⟨hc, hd⟩ := xand hc
    obtain ⟨hc, hca⟩ := xand hc
    obtain ⟨hc, hspl⟩ := xand hc
    obtain ⟨hc, hdpl⟩ := xand hc
    obtain ⟨hc, hnl⟩ := xand hc
    obtain ⟨hc, hsrc⟩ := xand hc
    obtain ⟨hc, hdst⟩ := xand hc
    obtain ⟨hc, hsp⟩ := xand hc
    obtain ⟨hn0, hdp⟩ := xand hc
    have hspl := xblt hspl
    have hdpl := xblt hdpl
    have hnl := xblt hnl
    have hd := xblt hd
    have hca := xble hca
    rw [xF_eq, xF_eq] at h
    obtain ⟨hc, h⟩ := xbif h
    obtain ⟨hc, hle0⟩ := xand hc
    obtain ⟨hc, hle1⟩ := xand hc
    obtain ⟨ht1, ht0⟩ := xand hc
    rw [xF_eq, xSet_eq, xF_eq] at h
    obtain ⟨e1, e3⟩ := xE_int (ρ := ρ) (b := b) (cA := cA) (ad := ad) (xbeq ht1)
    obtain ⟨f1, f3⟩ := xE_int (ρ := ρ) (b := b) (cA := cA) (ad := ad) (xbeq ht0)
    have he := xWs_get (ρ := ρ) (b := b) (cA := cA) (ad := ad) (xGet_some rfl e3)
    rw [e1] at he
    have hf := xWs_get (ρ := ρ) (b := b) (cA := cA) (ad := ad) (xGet_some rfl f3)
    rw [f1] at hf
    have hv : xDn (xGet Wd (src / 8)) (sp / 8) (n / 8) < 2 ^ (72 * (n / 8)) := Nat.mod_lt _ (Nat.two_pow_pos _)
    have hset : xWs ρ b cA ad (Wd.set (dst / 8) (xPn (xGet Wd (dst / 8)) (dp / 8) (n / 8) (xDn (xGet Wd (src / 8)) (sp / 8) (n / 8)))) = (xWs ρ b cA ad Wd).set (dst / 8) (ad (dst / 8), .inl (cA 0, xGet Wd (dst / 8) % 18446744073709551616 / 8, .inl (va_cpy (fun k => xd32 ρ (xDn (xGet Wd (src / 8)) k 1)) (fun k => xd32 ρ (xDn (xGet Wd (dst / 8)) k 1)) (sp / 8) (dp / 8) (n / 8)))) := by
      rw [xWs_set, (xE_int (ρ := ρ) (b := b) (cA := cA) (ad := ad) (by rw [xPn_8]; exact xbeq ht1)).1, xPn_hdr]
      have hff : (fun k => xd32 ρ (xDn (xPn (xGet Wd (dst / 8)) (dp / 8) (n / 8) (xDn (xGet Wd (src / 8)) (sp / 8) (n / 8))) k 1)) = va_cpy (fun k => xd32 ρ (xDn (xGet Wd (src / 8)) k 1)) (fun k => xd32 ρ (xDn (xGet Wd (dst / 8)) k 1)) (sp / 8) (dp / 8) (n / 8) := by
        funext k
        unfold va_cpy
        rw [xPn_dig hv]
        by_cases hk : dp / 8 ≤ k ∧ k < dp / 8 + n / 8
        · rw [if_pos hk, if_pos hk, xDn_sub (by omega)]
        · rw [if_neg hk, if_neg hk]
      rw [hff]
    rw [List.map_cons, List.map_cons, List.map_cons, List.map_cons, List.map_cons, xg0 (xbeq hn0), xg0 (xbeq hdp), xg2 (xbeq hdst), xg0 (xbeq hsp), xg2 (xbeq hsrc)]
    have ecat := xCats_eq (ρ := ρ) (b := b) (ad := ad) t
    have e5 : nativeFrameWords "java/lang/System" "arraycopy" 5 + 11 ≤ 50 := by decide +kernel
    refine va_copyi hx hb (hml.trans hI.1.2.1.symm) hown (hts _ hl) (hts _ hn) (hts _ hst) (hts _ hi) hKt hI.2.1.1 hI.2.1.2.1 hI.2.1.2.2 (src / 8) (dst / 8) 0 0 hf he rfl rfl rfl (nI_pos hspl) (nI_pos hdpl) (nI_pos hnl) (by rw [nI_clamp hspl, nI_clamp hnl]; exact xble hle0) (by rw [nI_clamp hdpl, nI_clamp hnl]; exact xble hle1) (fun _ _ => rfl) (by omega) (by rw [ecat]; omega) hdg fun H1 locs1 hP1 hD1 hS1 => ?_
    rw [nI_clamp hspl, nI_clamp hdpl, nI_clamp hnl, ← hset] at hP1 hD1
    exact hK _ _ _ _ _ _ _ _ h ho _ _ _ _ (hI.cell hP1 hD1 hS1)
  | [], h => cases h
  | [_], h => cases h
  | [_, _], h => cases h
  | [_, _, _], h => cases h
  | [_, _, _, _], h => cases h
theorem xs_tsw (hx : p.tables.exec = Jvm.exec) (hb : c.code = bb) (hK : xHK p l e R s m args below meth c Q ρ b cA D A H0 nL ad0 n0 K outs) (hI : xInv ρ b cA D A H0 nL ad0 n0 ad H locs ls L Wd env) (ho : ∀ y ∈ o, y ∈ outs) {df lo hi : Int} {offs : Array Int} {len : Nat} (h : xo_tsw K (.tableswitch df lo hi offs) pc L S Wd cc cs env = some o)
    (hdg : decode bb pc = .ok (.tableswitch df lo hi offs, len)) : W p l e R s m args below meth c H locs cc cs Q (F0 m pc ls (S.map (xg ρ b ad))) := by
  have hif : ∀ {P : Prop} [Decidable P] {x : xRes} {o : List xOut}, (if P then x else none) = some o → P ∧ x = some o := by
    intro P _ x o hq
    by_cases hp : P
    · rw [if_pos hp] at hq; exact ⟨hp, hq⟩
    · rw [if_neg hp] at hq; cases hq
  unfold xo_tsw at h
  match S, h with
  | x :: r, h =>
    dsimp only at h
    cases h0 : Nat.beq (x % 8) 0 with
    | true =>
      rw [h0, cond_true] at h
      rw [List.map_cons, xg0 (xbeq h0)]
      by_cases hr : xs32 (x / 8) < lo ∨ hi < xs32 (x / 8)
      · rw [if_pos hr] at h
        obtain ⟨hp, h⟩ := hif h
        rw [xF_eq] at h
        exact lv_tableOut hx hb hdg (by rw [xs32_eq]; exact hr) (tgt := ((pc : Int) + df).toNat) (by omega) (hK _ _ _ _ _ _ _ _ h ho _ _ _ _ hI)
      · rw [if_neg hr] at h
        cases ho2 : offs[(xs32 (x / 8) - lo).toNat]? with
        | none => rw [ho2] at h; cases h
        | some off =>
          rw [ho2] at h
          dsimp only at h
          obtain ⟨hp, h⟩ := hif h
          rw [xF_eq] at h
          exact lv_tableIn hx hb hdg (by rw [xs32_eq]; omega) (by rw [xs32_eq]; omega) (by rw [xs32_eq]; exact ho2) (tgt := ((pc : Int) + off).toNat) (by omega) (hK _ _ _ _ _ _ _ _ h ho _ _ _ _ hI)
    | false =>
      rw [h0, cond_false] at h
      obtain ⟨h4, h⟩ := xbif h
      obtain ⟨h7, h⟩ := xbif h
      have h7 : ¬ x / 8 = 7 := fun q => by rw [q] at h7; cases h7
      have hz : xz ρ (x / 8) = (ρ (x / 8)).toInt := by unfold xz; rw [if_neg h7]
      obtain ⟨sg, e', o', f1, f2, f3, f4⟩ := xTri_sound h hI.2.2.1
      cases hs : Nat.beq (xSgI sg) 0 with
      | true =>
        rw [hs, cond_true] at f1
        obtain ⟨hp, f1⟩ := hif f1
        rw [xF_eq] at f1
        rw [List.map_cons, xg4 (xbeq h4)]
        refine lv_tableOut hx hb hdg (Or.inl ?_) (tgt := ((pc : Int) + df).toNat) (by omega) (hK _ _ _ _ _ _ _ _ f1 (fun z hz => ho z (f2 z hz)) _ _ _ _ (hI.env f3))
        have := xbeq hs
        rw [← hz]
        omega
      | false =>
        rw [hs, cond_false] at f1
        obtain ⟨sg2, e2, o2, g1, g2, g3, g4⟩ := xTri_sound f1 f3
        cases hs2 : Nat.beq (xSgI sg2) 2 with
        | true =>
          rw [hs2, cond_true] at g1
          obtain ⟨hp, g1⟩ := hif g1
          rw [xF_eq] at g1
          rw [List.map_cons, xg4 (xbeq h4)]
          refine lv_tableOut hx hb hdg (Or.inr ?_) (tgt := ((pc : Int) + df).toNat) (by omega) (hK _ _ _ _ _ _ _ _ g1 (fun z hz => ho z (f2 z (g2 z hz))) _ _ _ _ (hI.env g3))
          have := xbeq hs2
          rw [← hz]
          omega
        | false =>
          rw [hs2, cond_false] at g1
          obtain ⟨x', e3, o3, k1, k2, k3, k4⟩ := xC0_sound (b := b) g1 (xbeq h4) g3
          have k := hK _ _ _ _ _ _ _ _ k1 (fun z hz => ho z (f2 z (g2 z (k2 z hz)))) _ _ _ _ (hI.env k3)
          rw [List.map_cons, k4] at k
          exact k
  | [], h => cases h
theorem xs_lsw (hx : p.tables.exec = Jvm.exec) (hb : c.code = bb) (hK : xHK p l e R s m args below meth c Q ρ b cA D A H0 nL ad0 n0 K outs) (hI : xInv ρ b cA D A H0 nL ad0 n0 ad H locs ls L Wd env) (ho : ∀ y ∈ o, y ∈ outs) {df : Int} {ps : Array (Int × Int)} {len : Nat} (h : xo_lsw K (.lookupswitch df ps) pc L S Wd cc cs env = some o)
    (hdg : decode bb pc = .ok (.lookupswitch df ps, len)) (hps : (ps.toList.zip (ps.toList.drop 1)).all (fun (a, next) => a.1 < next.1) = true) : W p l e R s m args below meth c H locs cc cs Q (F0 m pc ls (S.map (xg ρ b ad))) := by
  unfold xo_lsw at h
  match S, h with
  | x :: r, h =>
    dsimp only at h
    obtain ⟨h0, h⟩ := xbif h
    by_cases hp : 0 ≤ (pc : Int) + Op.lookupswitch.offset ps.toList df (xs32 (x / 8))
    · rw [if_pos hp, xF_eq] at h
      rw [List.map_cons, xg0 (xbeq h0)]
      exact lv_lookup hx hb hdg hps (by rw [xs32_eq]) (tgt := ((pc : Int) + Op.lookupswitch.offset ps.toList df (xs32 (x / 8))).toNat) (by omega) (hK _ _ _ _ _ _ _ _ h ho _ _ _ _ hI)
    · rw [if_neg hp] at h; cases h
  | [], h => cases h
/-! Math -/
theorem xs_math120 (hx : p.tables.exec = Jvm.exec) (hb : c.code = bb) (hK : xHK p l e R s m args below meth c Q ρ b cA D A H0 nL ad0 n0 K outs) (hI : xInv ρ b cA D A H0 nL ad0 n0 ad H locs ls L Wd env) (ho : ∀ y ∈ o, y ∈ outs) (h : xo_mi2 (fun x y => xN32 (if nI x < nI y then nI y else nI x)) mc ms d K pc L S Wd cc cs env = some o)
    {own : String} (hts : ∀ w ∈ xTb, w.before args s = true) (hown : s.vm.findClass own = some m.cls) (hml : c.maxLocals = nL) (hmc : mc ≤ R.cells) (hms : ms ≤ R.slots) (hfr : d ≤ R.frames) (hlo : 60 * d ≤ R.locals) {idx : Nat} (hdg : decode bb pc = .ok (.invokestatic idx, 3)) (hl : Jvm.Cond.methodLink own idx Lib.Math.max.name ∈ xTb) (h1 : Jvm.Cond.static Lib.Math.max.name ∈ xTb) (h2 : Jvm.Cond.initialized "java/lang/Math" ∈ xTb) (h3 : Jvm.Cond.code Lib.Math.max.name Lib.Math.max.code 2 (some .int) ∈ xTb) : W p l e R s m args below meth c H locs cc cs Q (F0 m pc ls (S.map (xg ρ b ad))) := by
  unfold xo_mi2 at h
  match S, h with
  | y :: x :: r, h =>
    dsimp only at h
    obtain ⟨hc, h⟩ := xbif h
    obtain ⟨hc, hcs⟩ := xand hc
    obtain ⟨hc, hcc⟩ := xand hc
    obtain ⟨hc, hd⟩ := xand hc
    obtain ⟨hc, hca⟩ := xand hc
    obtain ⟨hx0, hy0⟩ := xand hc
    have hd := xblt hd
    have hca := xble hca
    have hcs := xble hcs
    have hcc := xble hcc
    rw [xF_eq, xF_eq] at h
    have k := hK _ _ _ _ _ _ _ _ h ho _ _ _ _ hI
    rw [List.map_cons, xg8, xN32_eq] at k
    have e := xCats_eq (ρ := ρ) (b := b) (ad := ad) r
    rw [List.map_cons, List.map_cons, xg0 (xbeq hy0), xg0 (xbeq hx0)]
    exact va_mmax hx hb (hml.trans hI.1.2.1.symm) hown (hts _ hl) (hts _ h1) (hts _ h2) (hts _ h3) (by omega) (by rw [e]; omega) (by omega) (by omega) hdg k
  | [], h => cases h
  | [_], h => cases h
theorem xs_math121 (hx : p.tables.exec = Jvm.exec) (hb : c.code = bb) (hK : xHK p l e R s m args below meth c Q ρ b cA D A H0 nL ad0 n0 K outs) (hI : xInv ρ b cA D A H0 nL ad0 n0 ad H locs ls L Wd env) (ho : ∀ y ∈ o, y ∈ outs) (h : xo_mi2 (fun x y => xN32 (if nI y < nI x then nI y else nI x)) mc ms d K pc L S Wd cc cs env = some o)
    {own : String} (hts : ∀ w ∈ xTb, w.before args s = true) (hown : s.vm.findClass own = some m.cls) (hml : c.maxLocals = nL) (hmc : mc ≤ R.cells) (hms : ms ≤ R.slots) (hfr : d ≤ R.frames) (hlo : 60 * d ≤ R.locals) {idx : Nat} (hdg : decode bb pc = .ok (.invokestatic idx, 3)) (hl : Jvm.Cond.methodLink own idx Lib.Math.min.name ∈ xTb) (h1 : Jvm.Cond.static Lib.Math.min.name ∈ xTb) (h2 : Jvm.Cond.initialized "java/lang/Math" ∈ xTb) (h3 : Jvm.Cond.code Lib.Math.min.name Lib.Math.min.code 2 (some .int) ∈ xTb) : W p l e R s m args below meth c H locs cc cs Q (F0 m pc ls (S.map (xg ρ b ad))) := by
  unfold xo_mi2 at h
  match S, h with
  | y :: x :: r, h =>
    dsimp only at h
    obtain ⟨hc, h⟩ := xbif h
    obtain ⟨hc, hcs⟩ := xand hc
    obtain ⟨hc, hcc⟩ := xand hc
    obtain ⟨hc, hd⟩ := xand hc
    obtain ⟨hc, hca⟩ := xand hc
    obtain ⟨hx0, hy0⟩ := xand hc
    have hd := xblt hd
    have hca := xble hca
    have hcs := xble hcs
    have hcc := xble hcc
    rw [xF_eq, xF_eq] at h
    have k := hK _ _ _ _ _ _ _ _ h ho _ _ _ _ hI
    rw [List.map_cons, xg8, xN32_eq] at k
    have e := xCats_eq (ρ := ρ) (b := b) (ad := ad) r
    rw [List.map_cons, List.map_cons, xg0 (xbeq hy0), xg0 (xbeq hx0)]
    exact va_mmin hx hb (hml.trans hI.1.2.1.symm) hown (hts _ hl) (hts _ h1) (hts _ h2) (hts _ h3) (by omega) (by rw [e]; omega) (by omega) (by omega) hdg k
  | [], h => cases h
  | [_], h => cases h
theorem xs_math122 (hx : p.tables.exec = Jvm.exec) (hb : c.code = bb) (hK : xHK p l e R s m args below meth c Q ρ b cA D A H0 nL ad0 n0 K outs) (hI : xInv ρ b cA D A H0 nL ad0 n0 ad H locs ls L Wd env) (ho : ∀ y ∈ o, y ∈ outs) (h : xo_mi1 (fun x => xN32 (if 0 ≤ nI x then nI x else 0 - nI x)) mc ms d K pc L S Wd cc cs env = some o)
    {own : String} (hts : ∀ w ∈ xTb, w.before args s = true) (hown : s.vm.findClass own = some m.cls) (hml : c.maxLocals = nL) (hmc : mc ≤ R.cells) (hms : ms ≤ R.slots) (hfr : d ≤ R.frames) (hlo : 60 * d ≤ R.locals) {idx : Nat} (hdg : decode bb pc = .ok (.invokestatic idx, 3)) (hl : Jvm.Cond.methodLink own idx Lib.Math.abs.name ∈ xTb) (h1 : Jvm.Cond.static Lib.Math.abs.name ∈ xTb) (h2 : Jvm.Cond.initialized "java/lang/Math" ∈ xTb) (h3 : Jvm.Cond.code Lib.Math.abs.name Lib.Math.abs.code 1 (some .int) ∈ xTb) : W p l e R s m args below meth c H locs cc cs Q (F0 m pc ls (S.map (xg ρ b ad))) := by
  unfold xo_mi1 at h
  match S, h with
  | x :: r, h =>
    dsimp only at h
    obtain ⟨hc, h⟩ := xbif h
    obtain ⟨hc, hcs⟩ := xand hc
    obtain ⟨hc, hcc⟩ := xand hc
    obtain ⟨hc, hd⟩ := xand hc
    obtain ⟨hc, hca⟩ := xand hc
    have hx0 := hc
    have hd := xblt hd
    have hca := xble hca
    have hcs := xble hcs
    have hcc := xble hcc
    rw [xF_eq, xF_eq] at h
    have k := hK _ _ _ _ _ _ _ _ h ho _ _ _ _ hI
    rw [List.map_cons, xg8, xN32_eq] at k
    have e := xCats_eq (ρ := ρ) (b := b) (ad := ad) r
    rw [List.map_cons, xg0 (xbeq hx0)]
    exact va_mabs hx hb (hml.trans hI.1.2.1.symm) hown (hts _ hl) (hts _ h1) (hts _ h2) (hts _ h3) (by omega) (by rw [e]; omega) (by omega) (by omega) hdg k
  | [], h => cases h
theorem xs_math123 (hx : p.tables.exec = Jvm.exec) (hb : c.code = bb) (hK : xHK p l e R s m args below meth c Q ρ b cA D A H0 nL ad0 n0 K outs) (hI : xInv ρ b cA D A H0 nL ad0 n0 ad H locs ls L Wd env) (ho : ∀ y ∈ o, y ∈ outs) (h : xo_ml2 (fun x y => xN64 (if lN y < lN x then lN x else lN y)) mc ms d K pc L S Wd cc cs env = some o)
    {own : String} (hts : ∀ w ∈ xTb, w.before args s = true) (hown : s.vm.findClass own = some m.cls) (hml : c.maxLocals = nL) (hmc : mc ≤ R.cells) (hms : ms ≤ R.slots) (hfr : d ≤ R.frames) (hlo : 60 * d ≤ R.locals) {idx : Nat} (hdg : decode bb pc = .ok (.invokestatic idx, 3)) (hl : Jvm.Cond.methodLink own idx Lib.MathLoose.max_long.x ∈ xTb) (h1 : Jvm.Cond.static Lib.MathLoose.max_long.x ∈ xTb) (h2 : Jvm.Cond.initialized "java/lang/Math" ∈ xTb) (h3 : Jvm.Cond.code Lib.MathLoose.max_long.x Lib.MathLoose.max_long.code 4 (some .long) ∈ xTb) : W p l e R s m args below meth c H locs cc cs Q (F0 m pc ls (S.map (xg ρ b ad))) := by
  unfold xo_ml2 at h
  match S, h with
  | y :: x :: r, h =>
    dsimp only at h
    obtain ⟨hc, h⟩ := xbif h
    obtain ⟨hc, hcs⟩ := xand hc
    obtain ⟨hc, hcc⟩ := xand hc
    obtain ⟨hc, hd⟩ := xand hc
    obtain ⟨hc, hca⟩ := xand hc
    obtain ⟨hx0, hy0⟩ := xand hc
    have hd := xblt hd
    have hca := xble hca
    have hcs := xble hcs
    have hcc := xble hcc
    rw [xF_eq, xF_eq] at h
    have k := hK _ _ _ _ _ _ _ _ h ho _ _ _ _ hI
    rw [List.map_cons, xg81, xN64_eq] at k
    have e := xCats_eq (ρ := ρ) (b := b) (ad := ad) r
    rw [List.map_cons, List.map_cons, xg1 (xbeq hy0), xg1 (xbeq hx0)]
    exact va_mmax_long hx hb (hml.trans hI.1.2.1.symm) hown (hts _ hl) (hts _ h1) (hts _ h2) (hts _ h3) (by omega) (by rw [e]; omega) (by omega) (by omega) hdg k
  | [], h => cases h
  | [_], h => cases h
theorem xs_math124 (hx : p.tables.exec = Jvm.exec) (hb : c.code = bb) (hK : xHK p l e R s m args below meth c Q ρ b cA D A H0 nL ad0 n0 K outs) (hI : xInv ρ b cA D A H0 nL ad0 n0 ad H locs ls L Wd env) (ho : ∀ y ∈ o, y ∈ outs) (h : xo_ml2 (fun x y => xN64 (if lN y < lN x then lN y else lN x)) mc ms d K pc L S Wd cc cs env = some o)
    {own : String} (hts : ∀ w ∈ xTb, w.before args s = true) (hown : s.vm.findClass own = some m.cls) (hml : c.maxLocals = nL) (hmc : mc ≤ R.cells) (hms : ms ≤ R.slots) (hfr : d ≤ R.frames) (hlo : 60 * d ≤ R.locals) {idx : Nat} (hdg : decode bb pc = .ok (.invokestatic idx, 3)) (hl : Jvm.Cond.methodLink own idx Lib.MathLoose.min_long.x ∈ xTb) (h1 : Jvm.Cond.static Lib.MathLoose.min_long.x ∈ xTb) (h2 : Jvm.Cond.initialized "java/lang/Math" ∈ xTb) (h3 : Jvm.Cond.code Lib.MathLoose.min_long.x Lib.MathLoose.min_long.code 4 (some .long) ∈ xTb) : W p l e R s m args below meth c H locs cc cs Q (F0 m pc ls (S.map (xg ρ b ad))) := by
  unfold xo_ml2 at h
  match S, h with
  | y :: x :: r, h =>
    dsimp only at h
    obtain ⟨hc, h⟩ := xbif h
    obtain ⟨hc, hcs⟩ := xand hc
    obtain ⟨hc, hcc⟩ := xand hc
    obtain ⟨hc, hd⟩ := xand hc
    obtain ⟨hc, hca⟩ := xand hc
    obtain ⟨hx0, hy0⟩ := xand hc
    have hd := xblt hd
    have hca := xble hca
    have hcs := xble hcs
    have hcc := xble hcc
    rw [xF_eq, xF_eq] at h
    have k := hK _ _ _ _ _ _ _ _ h ho _ _ _ _ hI
    rw [List.map_cons, xg81, xN64_eq] at k
    have e := xCats_eq (ρ := ρ) (b := b) (ad := ad) r
    rw [List.map_cons, List.map_cons, xg1 (xbeq hy0), xg1 (xbeq hx0)]
    exact va_mmin_long hx hb (hml.trans hI.1.2.1.symm) hown (hts _ hl) (hts _ h1) (hts _ h2) (hts _ h3) (by omega) (by rw [e]; omega) (by omega) (by omega) hdg k
  | [], h => cases h
  | [_], h => cases h
theorem xs_math125 (hx : p.tables.exec = Jvm.exec) (hb : c.code = bb) (hK : xHK p l e R s m args below meth c Q ρ b cA D A H0 nL ad0 n0 K outs) (hI : xInv ρ b cA D A H0 nL ad0 n0 ad H locs ls L Wd env) (ho : ∀ y ∈ o, y ∈ outs) (h : xo_ml1 (fun x => xN64 (if 0 < lN x then lN x else -(lN x))) mc ms d K pc L S Wd cc cs env = some o)
    {own : String} (hts : ∀ w ∈ xTb, w.before args s = true) (hown : s.vm.findClass own = some m.cls) (hml : c.maxLocals = nL) (hmc : mc ≤ R.cells) (hms : ms ≤ R.slots) (hfr : d ≤ R.frames) (hlo : 60 * d ≤ R.locals) {idx : Nat} (hdg : decode bb pc = .ok (.invokestatic idx, 3)) (hl : Jvm.Cond.methodLink own idx Lib.MathLoose.abs_long.x ∈ xTb) (h1 : Jvm.Cond.static Lib.MathLoose.abs_long.x ∈ xTb) (h2 : Jvm.Cond.initialized "java/lang/Math" ∈ xTb) (h3 : Jvm.Cond.code Lib.MathLoose.abs_long.x Lib.MathLoose.abs_long.code 2 (some .long) ∈ xTb) : W p l e R s m args below meth c H locs cc cs Q (F0 m pc ls (S.map (xg ρ b ad))) := by
  unfold xo_ml1 at h
  match S, h with
  | x :: r, h =>
    dsimp only at h
    obtain ⟨hc, h⟩ := xbif h
    obtain ⟨hc, hcs⟩ := xand hc
    obtain ⟨hc, hcc⟩ := xand hc
    obtain ⟨hc, hd⟩ := xand hc
    obtain ⟨hc, hca⟩ := xand hc
    have hx0 := hc
    have hd := xblt hd
    have hca := xble hca
    have hcs := xble hcs
    have hcc := xble hcc
    rw [xF_eq, xF_eq] at h
    have k := hK _ _ _ _ _ _ _ _ h ho _ _ _ _ hI
    rw [List.map_cons, xg81, xN64_eq] at k
    have e := xCats_eq (ρ := ρ) (b := b) (ad := ad) r
    rw [List.map_cons, xg1 (xbeq hx0)]
    exact va_mabs_long hx hb (hml.trans hI.1.2.1.symm) hown (hts _ hl) (hts _ h1) (hts _ h2) (hts _ h3) (by omega) (by rw [e]; omega) (by omega) (by omega) hdg k
  | [], h => cases h
end XOA
