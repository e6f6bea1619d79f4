section XOQ
variable {p : Program} {l : Launch} {e : Env} {R : Room} {s : State} {m : MethodId} {args : Array Value} {below : List Frame} {meth : Method} {c : Code} {Q : State → Prop}
variable {ρ : Nat → Int32} {b : Nat} {cA : Nat → ClassId} {D : va_G} {A : Nat → Prop} {H0 : Heap} {nL n0 : Nat} {ad0 : Nat → Nat} {K : xKt} {outs o : List xOut}
variable {bb : ByteArray} {a1 a2 pc cc cs : Nat} {L S Wd : List Nat} {env : xEv} {ad : Nat → Nat} {H : Heap} {locs : List Loc} {ls : Array Slot}
theorem xg8 (ρ : Nat → Int32) (b : Nat) (ad : Nat → Nat) (u : Nat) : xg ρ b ad (u * 8) = .int (nI u) := by rw [xg0 (Nat.mul_mod_left _ _), Nat.mul_div_cancel _ (by decide)]
theorem xg81 (ρ : Nat → Int32) (b : Nat) (ad : Nat → Nat) (u : Nat) : xg ρ b ad (u * 8 + 1) = .long (lN u) := by rw [xg1 (by omega), show (u * 8 + 1) / 8 = u by omega]
/-- two ints: known, or one of them an unknown that is taken apart -/
theorem xI2_sound {f : Nat → Nat → Nat} {k : List Nat → xRes} {re : List Nat → xEv → xRes} (h : xI2 S env f k re = some o) (hE : xEO ρ env) : (∃ y x r, S = y :: x :: r ∧ x % 8 = 0 ∧ y % 8 = 0 ∧ k (f (x / 8) (y / 8) * 8 :: r) = some o) ∨ ∃ S' e' o', re S' e' = some o' ∧ (∀ z ∈ o', z ∈ o) ∧ xEO ρ e' ∧ S'.map (xg ρ b ad) = S.map (xg ρ b ad) := by
  unfold xI2 at h
  match S, h with
  | y :: x :: r, h =>
    dsimp only at h
    cases hc : (Nat.beq (x % 8) 0 && Nat.beq (y % 8) 0) with
    | true =>
      rw [hc] at h
      dsimp only [cond] at h
      rw [xF_eq] at h
      exact Or.inl ⟨y, x, r, rfl, xbeq (xand hc).1, xbeq (xand hc).2, h⟩
    | false =>
      rw [hc] at h
      dsimp only [cond] at h
      cases hy : Nat.beq (y % 8) 4 with
      | true =>
        rw [hy] at h
        dsimp only at h
        obtain ⟨y', e', o', f1, f2, f3, f4⟩ := xC0_sound (b := b) h (xbeq hy) hE
        exact Or.inr ⟨_, e', o', f1, f2, f3, by simp only [List.map_cons, f4]⟩
      | false =>
        rw [hy] at h
        dsimp only at h
        obtain ⟨hx4, h⟩ := xbif h
        obtain ⟨x', e', o', f1, f2, f3, f4⟩ := xC0_sound (b := b) h (xbeq hx4) hE
        exact Or.inr ⟨_, e', o', f1, f2, f3, by simp only [List.map_cons, f4]⟩
  | [], h => cases h
  | [_], h => cases h
theorem xs_iadd (hx : p.tables.exec = Jvm.exec) (hb : c.code = bb) (hK : xHK p l e R s m args below meth c Q ρ b cA D A H0 nL ad0 n0 K outs) (hI : xInv ρ b cA D A H0 nL ad0 n0 ad H locs ls L Wd env) (ho : ∀ y ∈ o, y ∈ outs) (h : xo_iadd K a1 a2 pc L S Wd cc cs env = some o) (hdg : decode bb pc = .ok (.iadd, 1)) : W p l e R s m args below meth c H locs cc cs Q (F0 m pc ls (S.map (xg ρ b ad))) := by
  unfold xo_iadd at h
  rcases xI2_sound (b := b) (ad := ad) h hI.2.2.1 with ⟨y, x, r, rfl, h1, h2, h⟩ | ⟨S', e', o', f1, f2, f3, f4⟩
  · rw [xF_eq] at h
    have k := hK _ _ _ _ _ _ _ _ h ho _ _ _ _ hI
    rw [List.map_cons, xg8, xnI_mod, ← nI_add] at k
    rw [List.map_cons, List.map_cons, xg0 h1, xg0 h2]
    exact lv_iadd hx hb hdg k
  · rw [← f4]; exact hK _ _ _ _ _ _ _ _ f1 (fun z hz => ho z (f2 z hz)) _ _ _ _ (hI.env f3)
theorem xs_isub (hx : p.tables.exec = Jvm.exec) (hb : c.code = bb) (hK : xHK p l e R s m args below meth c Q ρ b cA D A H0 nL ad0 n0 K outs) (hI : xInv ρ b cA D A H0 nL ad0 n0 ad H locs ls L Wd env) (ho : ∀ y ∈ o, y ∈ outs) (h : xo_isub K a1 a2 pc L S Wd cc cs env = some o) (hdg : decode bb pc = .ok (.isub, 1)) : W p l e R s m args below meth c H locs cc cs Q (F0 m pc ls (S.map (xg ρ b ad))) := by
  unfold xo_isub at h
  rcases xI2_sound (b := b) (ad := ad) h hI.2.2.1 with ⟨y, x, r, rfl, h1, h2, h⟩ | ⟨S', e', o', f1, f2, f3, f4⟩
  · rw [xF_eq] at h
    have k := hK _ _ _ _ _ _ _ _ h ho _ _ _ _ hI
    rw [List.map_cons, xg8, xsub_eq] at k
    rw [List.map_cons, List.map_cons, xg0 h1, xg0 h2]
    exact lv_isub hx hb hdg k
  · rw [← f4]; exact hK _ _ _ _ _ _ _ _ f1 (fun z hz => ho z (f2 z hz)) _ _ _ _ (hI.env f3)
theorem xs_imul (hx : p.tables.exec = Jvm.exec) (hb : c.code = bb) (hK : xHK p l e R s m args below meth c Q ρ b cA D A H0 nL ad0 n0 K outs) (hI : xInv ρ b cA D A H0 nL ad0 n0 ad H locs ls L Wd env) (ho : ∀ y ∈ o, y ∈ outs) (h : xo_imul K a1 a2 pc L S Wd cc cs env = some o) (hdg : decode bb pc = .ok (.imul, 1)) : W p l e R s m args below meth c H locs cc cs Q (F0 m pc ls (S.map (xg ρ b ad))) := by
  unfold xo_imul at h
  rcases xI2_sound (b := b) (ad := ad) h hI.2.2.1 with ⟨y, x, r, rfl, h1, h2, h⟩ | ⟨S', e', o', f1, f2, f3, f4⟩
  · rw [xF_eq] at h
    have k := hK _ _ _ _ _ _ _ _ h ho _ _ _ _ hI
    rw [List.map_cons, xg8, xnI_mod, ← pk_mul] at k
    rw [List.map_cons, List.map_cons, xg0 h1, xg0 h2]
    exact lv_imul hx hb hdg k
  · rw [← f4]; exact hK _ _ _ _ _ _ _ _ f1 (fun z hz => ho z (f2 z hz)) _ _ _ _ (hI.env f3)
theorem xs_idiv (hx : p.tables.exec = Jvm.exec) (hb : c.code = bb) (hK : xHK p l e R s m args below meth c Q ρ b cA D A H0 nL ad0 n0 K outs) (hI : xInv ρ b cA D A H0 nL ad0 n0 ad H locs ls L Wd env) (ho : ∀ y ∈ o, y ∈ outs) (h : xo_idiv K a1 a2 pc L S Wd cc cs env = some o) (hdg : decode bb pc = .ok (.idiv, 1)) : W p l e R s m args below meth c H locs cc cs Q (F0 m pc ls (S.map (xg ρ b ad))) := by
  unfold xo_idiv at h
  rcases xI2_sound (b := b) (ad := ad) h hI.2.2.1 with ⟨y, x, r, rfl, h1, h2, h⟩ | ⟨S', e', o', f1, f2, f3, f4⟩
  · have hne : ¬ nI (y / 8) = 0 := fun q => by
      have q2 : (nI (y / 8)).toInt = 0 := by rw [q]; rfl
      rw [xs32_eq] at q2
      unfold xs32 xb32 at q2
      have h3 : y / 8 % 4294967296 = 0 := by omega
      rw [show xGet (y :: x :: r) 0 = y from rfl, h3] at h
      cases h
    have h4 : Nat.beq (xGet (y :: x :: r) 0 / 8 % 4294967296) 0 = false := by
      cases hq : Nat.beq (xGet (y :: x :: r) 0 / 8 % 4294967296) 0 with
      | false => rfl
      | true => rw [hq] at h; cases h
    rw [h4] at h
    dsimp only [cond] at h
    rw [xF_eq] at h
    have k := hK _ _ _ _ _ _ _ _ h ho _ _ _ _ hI
    rw [List.map_cons, xg8, xN32_eq] at k
    rw [List.map_cons, List.map_cons, xg0 h1, xg0 h2]
    exact lv_idiv hx hb hdg hne k
  · rw [← f4]; exact hK _ _ _ _ _ _ _ _ f1 (fun z hz => ho z (f2 z hz)) _ _ _ _ (hI.env f3)
theorem xs_irem (hx : p.tables.exec = Jvm.exec) (hb : c.code = bb) (hK : xHK p l e R s m args below meth c Q ρ b cA D A H0 nL ad0 n0 K outs) (hI : xInv ρ b cA D A H0 nL ad0 n0 ad H locs ls L Wd env) (ho : ∀ y ∈ o, y ∈ outs) (h : xo_irem K a1 a2 pc L S Wd cc cs env = some o) (hdg : decode bb pc = .ok (.irem, 1)) : W p l e R s m args below meth c H locs cc cs Q (F0 m pc ls (S.map (xg ρ b ad))) := by
  unfold xo_irem at h
  rcases xI2_sound (b := b) (ad := ad) h hI.2.2.1 with ⟨y, x, r, rfl, h1, h2, h⟩ | ⟨S', e', o', f1, f2, f3, f4⟩
  · have hne : ¬ nI (y / 8) = 0 := fun q => by
      have q2 : (nI (y / 8)).toInt = 0 := by rw [q]; rfl
      rw [xs32_eq] at q2
      unfold xs32 xb32 at q2
      have h3 : y / 8 % 4294967296 = 0 := by omega
      rw [show xGet (y :: x :: r) 0 = y from rfl, h3] at h
      cases h
    have h4 : Nat.beq (xGet (y :: x :: r) 0 / 8 % 4294967296) 0 = false := by
      cases hq : Nat.beq (xGet (y :: x :: r) 0 / 8 % 4294967296) 0 with
      | false => rfl
      | true => rw [hq] at h; cases h
    rw [h4] at h
    dsimp only [cond] at h
    rw [xF_eq] at h
    have k := hK _ _ _ _ _ _ _ _ h ho _ _ _ _ hI
    rw [List.map_cons, xg8, xN32_eq] at k
    rw [List.map_cons, List.map_cons, xg0 h1, xg0 h2]
    exact lv_irem hx hb hdg hne k
  · rw [← f4]; exact hK _ _ _ _ _ _ _ _ f1 (fun z hz => ho z (f2 z hz)) _ _ _ _ (hI.env f3)
theorem xs_ior (hx : p.tables.exec = Jvm.exec) (hb : c.code = bb) (hK : xHK p l e R s m args below meth c Q ρ b cA D A H0 nL ad0 n0 K outs) (hI : xInv ρ b cA D A H0 nL ad0 n0 ad H locs ls L Wd env) (ho : ∀ y ∈ o, y ∈ outs) (h : xo_ior K a1 a2 pc L S Wd cc cs env = some o) (hdg : decode bb pc = .ok (.ior, 1)) : W p l e R s m args below meth c H locs cc cs Q (F0 m pc ls (S.map (xg ρ b ad))) := by
  unfold xo_ior at h
  rcases xI2_sound (b := b) (ad := ad) h hI.2.2.1 with ⟨y, x, r, rfl, h1, h2, h⟩ | ⟨S', e', o', f1, f2, f3, f4⟩
  · rw [xF_eq] at h
    have k := hK _ _ _ _ _ _ _ _ h ho _ _ _ _ hI
    rw [List.map_cons, xg8, xN32_eq] at k
    rw [List.map_cons, List.map_cons, xg0 h1, xg0 h2]
    exact lv_ior hx hb hdg k
  · rw [← f4]; exact hK _ _ _ _ _ _ _ _ f1 (fun z hz => ho z (f2 z hz)) _ _ _ _ (hI.env f3)
theorem xs_ixor (hx : p.tables.exec = Jvm.exec) (hb : c.code = bb) (hK : xHK p l e R s m args below meth c Q ρ b cA D A H0 nL ad0 n0 K outs) (hI : xInv ρ b cA D A H0 nL ad0 n0 ad H locs ls L Wd env) (ho : ∀ y ∈ o, y ∈ outs) (h : xo_ixor K a1 a2 pc L S Wd cc cs env = some o) (hdg : decode bb pc = .ok (.ixor, 1)) : W p l e R s m args below meth c H locs cc cs Q (F0 m pc ls (S.map (xg ρ b ad))) := by
  unfold xo_ixor at h
  rcases xI2_sound (b := b) (ad := ad) h hI.2.2.1 with ⟨y, x, r, rfl, h1, h2, h⟩ | ⟨S', e', o', f1, f2, f3, f4⟩
  · rw [xF_eq] at h
    have k := hK _ _ _ _ _ _ _ _ h ho _ _ _ _ hI
    rw [List.map_cons, xg8, xN32_eq] at k
    rw [List.map_cons, List.map_cons, xg0 h1, xg0 h2]
    exact lv_ixor hx hb hdg k
  · rw [← f4]; exact hK _ _ _ _ _ _ _ _ f1 (fun z hz => ho z (f2 z hz)) _ _ _ _ (hI.env f3)
theorem xs_ishl (hx : p.tables.exec = Jvm.exec) (hb : c.code = bb) (hK : xHK p l e R s m args below meth c Q ρ b cA D A H0 nL ad0 n0 K outs) (hI : xInv ρ b cA D A H0 nL ad0 n0 ad H locs ls L Wd env) (ho : ∀ y ∈ o, y ∈ outs) (h : xo_ishl K a1 a2 pc L S Wd cc cs env = some o) (hdg : decode bb pc = .ok (.ishl, 1)) : W p l e R s m args below meth c H locs cc cs Q (F0 m pc ls (S.map (xg ρ b ad))) := by
  unfold xo_ishl at h
  rcases xI2_sound (b := b) (ad := ad) h hI.2.2.1 with ⟨y, x, r, rfl, h1, h2, h⟩ | ⟨S', e', o', f1, f2, f3, f4⟩
  · rw [xF_eq] at h
    have k := hK _ _ _ _ _ _ _ _ h ho _ _ _ _ hI
    rw [List.map_cons, xg8, xN32_eq] at k
    rw [List.map_cons, List.map_cons, xg0 h1, xg0 h2]
    exact lv_ishl hx hb hdg k
  · rw [← f4]; exact hK _ _ _ _ _ _ _ _ f1 (fun z hz => ho z (f2 z hz)) _ _ _ _ (hI.env f3)
theorem xs_ishr (hx : p.tables.exec = Jvm.exec) (hb : c.code = bb) (hK : xHK p l e R s m args below meth c Q ρ b cA D A H0 nL ad0 n0 K outs) (hI : xInv ρ b cA D A H0 nL ad0 n0 ad H locs ls L Wd env) (ho : ∀ y ∈ o, y ∈ outs) (h : xo_ishr K a1 a2 pc L S Wd cc cs env = some o) (hdg : decode bb pc = .ok (.ishr, 1)) : W p l e R s m args below meth c H locs cc cs Q (F0 m pc ls (S.map (xg ρ b ad))) := by
  unfold xo_ishr at h
  rcases xI2_sound (b := b) (ad := ad) h hI.2.2.1 with ⟨y, x, r, rfl, h1, h2, h⟩ | ⟨S', e', o', f1, f2, f3, f4⟩
  · rw [xF_eq] at h
    have k := hK _ _ _ _ _ _ _ _ h ho _ _ _ _ hI
    rw [List.map_cons, xg8, xN32_eq] at k
    rw [List.map_cons, List.map_cons, xg0 h1, xg0 h2]
    exact lv_ishr hx hb hdg k
  · rw [← f4]; exact hK _ _ _ _ _ _ _ _ f1 (fun z hz => ho z (f2 z hz)) _ _ _ _ (hI.env f3)
theorem xs_iushr (hx : p.tables.exec = Jvm.exec) (hb : c.code = bb) (hK : xHK p l e R s m args below meth c Q ρ b cA D A H0 nL ad0 n0 K outs) (hI : xInv ρ b cA D A H0 nL ad0 n0 ad H locs ls L Wd env) (ho : ∀ y ∈ o, y ∈ outs) (h : xo_iushr K a1 a2 pc L S Wd cc cs env = some o) (hdg : decode bb pc = .ok (.iushr, 1)) : W p l e R s m args below meth c H locs cc cs Q (F0 m pc ls (S.map (xg ρ b ad))) := by
  unfold xo_iushr at h
  rcases xI2_sound (b := b) (ad := ad) h hI.2.2.1 with ⟨y, x, r, rfl, h1, h2, h⟩ | ⟨S', e', o', f1, f2, f3, f4⟩
  · rw [xF_eq] at h
    have k := hK _ _ _ _ _ _ _ _ h ho _ _ _ _ hI
    rw [List.map_cons, xg8, xN32_eq] at k
    rw [List.map_cons, List.map_cons, xg0 h1, xg0 h2]
    exact lv_iushr hx hb hdg rfl k
  · rw [← f4]; exact hK _ _ _ _ _ _ _ _ f1 (fun z hz => ho z (f2 z hz)) _ _ _ _ (hI.env f3)
theorem xs_iand (hx : p.tables.exec = Jvm.exec) (hb : c.code = bb) (hK : xHK p l e R s m args below meth c Q ρ b cA D A H0 nL ad0 n0 K outs) (hI : xInv ρ b cA D A H0 nL ad0 n0 ad H locs ls L Wd env) (ho : ∀ y ∈ o, y ∈ outs) (h : xo_iand K a1 a2 pc L S Wd cc cs env = some o) (hdg : decode bb pc = .ok (.iand, 1)) : W p l e R s m args below meth c H locs cc cs Q (F0 m pc ls (S.map (xg ρ b ad))) := by
  unfold xo_iand at h
  rcases xI2_sound (b := b) (ad := ad) h hI.2.2.1 with ⟨y', x', r', hS, h1, h2, hh⟩ | ⟨S', e', o', f1, f2, f3, f4⟩
  · subst hS
    rw [xF_eq] at hh
    have k := hK _ _ _ _ _ _ _ _ hh ho _ _ _ _ hI
    rw [List.map_cons, xg8, xN32_eq] at k
    rw [List.map_cons, List.map_cons, xg0 h1, xg0 h2]
    exact lv_iand hx hb hdg k
  · rw [← f4]; exact hK _ _ _ _ _ _ _ _ f1 (fun z hz => ho z (f2 z hz)) _ _ _ _ (hI.env f3)
theorem xL2_sound {f : Nat → Nat → Nat} {k : List Nat → xRes} (h : xL2 S f k = some o) : ∃ y x r, S = y :: x :: r ∧ x % 8 = 1 ∧ y % 8 = 1 ∧ k ((f (x / 8) (y / 8) * 8 + 1) :: r) = some o := by
  unfold xL2 at h
  match S, h with
  | y :: x :: r, h =>
    dsimp only at h
    obtain ⟨hc, h⟩ := xbif h
    rw [xF_eq] at h
    exact ⟨y, x, r, rfl, xbeq (xand hc).1, xbeq (xand hc).2, h⟩
  | [], h => cases h
  | [_], h => cases h
theorem xLI_sound {f : Nat → Nat → Nat} {k : List Nat → xRes} (h : xLI S f k = some o) : ∃ y x r, S = y :: x :: r ∧ x % 8 = 1 ∧ y % 8 = 0 ∧ k ((f (x / 8) (y / 8) * 8 + 1) :: r) = some o := by
  unfold xLI at h
  match S, h with
  | y :: x :: r, h =>
    dsimp only at h
    obtain ⟨hc, h⟩ := xbif h
    rw [xF_eq] at h
    exact ⟨y, x, r, rfl, xbeq (xand hc).1, xbeq (xand hc).2, h⟩
  | [], h => cases h
  | [_], h => cases h
theorem xs_lsub (hx : p.tables.exec = Jvm.exec) (hb : c.code = bb) (hK : xHK p l e R s m args below meth c Q ρ b cA D A H0 nL ad0 n0 K outs) (hI : xInv ρ b cA D A H0 nL ad0 n0 ad H locs ls L Wd env) (ho : ∀ y ∈ o, y ∈ outs) (h : xo_lsub K a1 a2 pc L S Wd cc cs env = some o) (hdg : decode bb pc = .ok (.lsub, 1)) : W p l e R s m args below meth c H locs cc cs Q (F0 m pc ls (S.map (xg ρ b ad))) := by
  unfold xo_lsub at h
  obtain ⟨y, x, r, rfl, h1, h2, h⟩ := xL2_sound h
  rw [xF_eq] at h
  have k := hK _ _ _ _ _ _ _ _ h ho _ _ _ _ hI
  rw [List.map_cons, xg81, xN64_eq] at k
  rw [List.map_cons, List.map_cons, xg1 h1, xg1 h2]
  exact lv_lsub hx hb hdg k
theorem xs_lmul (hx : p.tables.exec = Jvm.exec) (hb : c.code = bb) (hK : xHK p l e R s m args below meth c Q ρ b cA D A H0 nL ad0 n0 K outs) (hI : xInv ρ b cA D A H0 nL ad0 n0 ad H locs ls L Wd env) (ho : ∀ y ∈ o, y ∈ outs) (h : xo_lmul K a1 a2 pc L S Wd cc cs env = some o) (hdg : decode bb pc = .ok (.lmul, 1)) : W p l e R s m args below meth c H locs cc cs Q (F0 m pc ls (S.map (xg ρ b ad))) := by
  unfold xo_lmul at h
  obtain ⟨y, x, r, rfl, h1, h2, h⟩ := xL2_sound h
  rw [xF_eq] at h
  have k := hK _ _ _ _ _ _ _ _ h ho _ _ _ _ hI
  rw [List.map_cons, xg81, xlN_mod, ← lN_mul] at k
  rw [List.map_cons, List.map_cons, xg1 h1, xg1 h2]
  exact lv_lmul hx hb hdg k
theorem xs_land (hx : p.tables.exec = Jvm.exec) (hb : c.code = bb) (hK : xHK p l e R s m args below meth c Q ρ b cA D A H0 nL ad0 n0 K outs) (hI : xInv ρ b cA D A H0 nL ad0 n0 ad H locs ls L Wd env) (ho : ∀ y ∈ o, y ∈ outs) (h : xo_land K a1 a2 pc L S Wd cc cs env = some o) (hdg : decode bb pc = .ok (.land, 1)) : W p l e R s m args below meth c H locs cc cs Q (F0 m pc ls (S.map (xg ρ b ad))) := by
  unfold xo_land at h
  obtain ⟨y, x, r, rfl, h1, h2, h⟩ := xL2_sound h
  rw [xF_eq] at h
  have k := hK _ _ _ _ _ _ _ _ h ho _ _ _ _ hI
  rw [List.map_cons, xg81, xN64_eq] at k
  rw [List.map_cons, List.map_cons, xg1 h1, xg1 h2]
  exact lv_land hx hb hdg k
theorem xs_lor (hx : p.tables.exec = Jvm.exec) (hb : c.code = bb) (hK : xHK p l e R s m args below meth c Q ρ b cA D A H0 nL ad0 n0 K outs) (hI : xInv ρ b cA D A H0 nL ad0 n0 ad H locs ls L Wd env) (ho : ∀ y ∈ o, y ∈ outs) (h : xo_lor K a1 a2 pc L S Wd cc cs env = some o) (hdg : decode bb pc = .ok (.lor, 1)) : W p l e R s m args below meth c H locs cc cs Q (F0 m pc ls (S.map (xg ρ b ad))) := by
  unfold xo_lor at h
  obtain ⟨y, x, r, rfl, h1, h2, h⟩ := xL2_sound h
  rw [xF_eq] at h
  have k := hK _ _ _ _ _ _ _ _ h ho _ _ _ _ hI
  rw [List.map_cons, xg81, xN64_eq] at k
  rw [List.map_cons, List.map_cons, xg1 h1, xg1 h2]
  exact lv_lor hx hb hdg k
theorem xs_lxor (hx : p.tables.exec = Jvm.exec) (hb : c.code = bb) (hK : xHK p l e R s m args below meth c Q ρ b cA D A H0 nL ad0 n0 K outs) (hI : xInv ρ b cA D A H0 nL ad0 n0 ad H locs ls L Wd env) (ho : ∀ y ∈ o, y ∈ outs) (h : xo_lxor K a1 a2 pc L S Wd cc cs env = some o) (hdg : decode bb pc = .ok (.lxor, 1)) : W p l e R s m args below meth c H locs cc cs Q (F0 m pc ls (S.map (xg ρ b ad))) := by
  unfold xo_lxor at h
  obtain ⟨y, x, r, rfl, h1, h2, h⟩ := xL2_sound h
  rw [xF_eq] at h
  have k := hK _ _ _ _ _ _ _ _ h ho _ _ _ _ hI
  rw [List.map_cons, xg81, xN64_eq] at k
  rw [List.map_cons, List.map_cons, xg1 h1, xg1 h2]
  exact lv_lxor hx hb hdg k
theorem xs_lshl (hx : p.tables.exec = Jvm.exec) (hb : c.code = bb) (hK : xHK p l e R s m args below meth c Q ρ b cA D A H0 nL ad0 n0 K outs) (hI : xInv ρ b cA D A H0 nL ad0 n0 ad H locs ls L Wd env) (ho : ∀ y ∈ o, y ∈ outs) (h : xo_lshl K a1 a2 pc L S Wd cc cs env = some o) (hdg : decode bb pc = .ok (.lshl, 1)) : W p l e R s m args below meth c H locs cc cs Q (F0 m pc ls (S.map (xg ρ b ad))) := by
  unfold xo_lshl at h
  obtain ⟨y, x, r, rfl, h1, h2, h⟩ := xLI_sound h
  rw [xF_eq] at h
  have k := hK _ _ _ _ _ _ _ _ h ho _ _ _ _ hI
  rw [List.map_cons, xg81, xN64_eq] at k
  rw [List.map_cons, List.map_cons, xg1 h1, xg0 h2]
  exact lv_lshl hx hb hdg rfl k
theorem xs_lshr (hx : p.tables.exec = Jvm.exec) (hb : c.code = bb) (hK : xHK p l e R s m args below meth c Q ρ b cA D A H0 nL ad0 n0 K outs) (hI : xInv ρ b cA D A H0 nL ad0 n0 ad H locs ls L Wd env) (ho : ∀ y ∈ o, y ∈ outs) (h : xo_lshr K a1 a2 pc L S Wd cc cs env = some o) (hdg : decode bb pc = .ok (.lshr, 1)) : W p l e R s m args below meth c H locs cc cs Q (F0 m pc ls (S.map (xg ρ b ad))) := by
  unfold xo_lshr at h
  obtain ⟨y, x, r, rfl, h1, h2, h⟩ := xLI_sound h
  rw [xF_eq] at h
  have k := hK _ _ _ _ _ _ _ _ h ho _ _ _ _ hI
  rw [List.map_cons, xg81, xN64_eq] at k
  rw [List.map_cons, List.map_cons, xg1 h1, xg0 h2]
  exact lv_lshr hx hb hdg rfl k
theorem xs_lushr (hx : p.tables.exec = Jvm.exec) (hb : c.code = bb) (hK : xHK p l e R s m args below meth c Q ρ b cA D A H0 nL ad0 n0 K outs) (hI : xInv ρ b cA D A H0 nL ad0 n0 ad H locs ls L Wd env) (ho : ∀ y ∈ o, y ∈ outs) (h : xo_lushr K a1 a2 pc L S Wd cc cs env = some o) (hdg : decode bb pc = .ok (.lushr, 1)) : W p l e R s m args below meth c H locs cc cs Q (F0 m pc ls (S.map (xg ρ b ad))) := by
  unfold xo_lushr at h
  obtain ⟨y, x, r, rfl, h1, h2, h⟩ := xLI_sound h
  rw [xF_eq] at h
  have k := hK _ _ _ _ _ _ _ _ h ho _ _ _ _ hI
  rw [List.map_cons, xg81, xN64_eq] at k
  rw [List.map_cons, List.map_cons, xg1 h1, xg0 h2]
  exact lv_lushr hx hb hdg rfl k
theorem xs_ladd (hx : p.tables.exec = Jvm.exec) (hb : c.code = bb) (hK : xHK p l e R s m args below meth c Q ρ b cA D A H0 nL ad0 n0 K outs) (hI : xInv ρ b cA D A H0 nL ad0 n0 ad H locs ls L Wd env) (ho : ∀ y ∈ o, y ∈ outs) (h : xo_ladd K a1 a2 pc L S Wd cc cs env = some o) (hdg : decode bb pc = .ok (.ladd, 1)) : W p l e R s m args below meth c H locs cc cs Q (F0 m pc ls (S.map (xg ρ b ad))) := by
  unfold xo_ladd at h
  match S, h with
  | y :: x :: r, h =>
    dsimp only at h
    cases hc : (Nat.beq y 9 && Nat.beq x 21) with
    | true =>
      rw [hc] at h
      dsimp only [cond] at h
      rw [xF_eq] at h
      have hy := xbeq (xand hc).1
      have hx4 := xbeq (xand hc).2
      subst hy; subst hx4
      have k := hK _ _ _ _ _ _ _ _ h ho _ _ _ _ hI
      rw [List.map_cons, xg7 (c := 23) rfl] at k
      rw [List.map_cons, List.map_cons, xg1 (c := 9) rfl, xg5 (c := 21) rfl]
      exact lv_ladd hx hb hdg k
    | false =>
      rw [hc] at h
      dsimp only [cond] at h
      obtain ⟨y', x', r', hS, h1, h2, h⟩ := xL2_sound h
      cases hS
      rw [xF_eq] at h
      have k := hK _ _ _ _ _ _ _ _ h ho _ _ _ _ hI
      rw [List.map_cons, xg81, xlN_mod, ← lN_add] at k
      rw [List.map_cons, List.map_cons, xg1 h1, xg1 h2]
      exact lv_ladd hx hb hdg k
  | [], h => cases h
  | [_], h => cases h
theorem xs_i2l (hx : p.tables.exec = Jvm.exec) (hb : c.code = bb) (hK : xHK p l e R s m args below meth c Q ρ b cA D A H0 nL ad0 n0 K outs) (hI : xInv ρ b cA D A H0 nL ad0 n0 ad H locs ls L Wd env) (ho : ∀ y ∈ o, y ∈ outs) (h : xo_i2l K a1 a2 pc L S Wd cc cs env = some o) (hdg : decode bb pc = .ok (.i2l, 1)) : W p l e R s m args below meth c H locs cc cs Q (F0 m pc ls (S.map (xg ρ b ad))) := by
  unfold xo_i2l at h
  match S, h with
  | x :: r, h =>
    dsimp only at h
    cases hc : Nat.beq (x % 8) 0 with
    | true =>
      rw [hc] at h
      dsimp only [cond] at h
      rw [xF_eq, xF_eq] at h
      have k := hK _ _ _ _ _ _ _ _ h ho _ _ _ _ hI
      rw [List.map_cons, xg81, xN64_eq] at k
      rw [List.map_cons, xg0 (xbeq hc)]
      exact lv_i2l hx hb hdg rfl k
    | false =>
      rw [hc] at h
      dsimp only [cond] at h
      obtain ⟨h4, h⟩ := xbif h
      have h4 := xbeq h4
      rw [xF_eq, xF_eq] at h
      have k := hK _ _ _ _ _ _ _ _ h ho _ _ _ _ hI
      rw [List.map_cons, xg5 (by omega), show (x + 1) / 8 = x / 8 by omega] at k
      rw [List.map_cons, xg4 h4]
      exact lv_i2l hx hb hdg rfl k
  | [], h => cases h
theorem xs_l2i (hx : p.tables.exec = Jvm.exec) (hb : c.code = bb) (hK : xHK p l e R s m args below meth c Q ρ b cA D A H0 nL ad0 n0 K outs) (hI : xInv ρ b cA D A H0 nL ad0 n0 ad H locs ls L Wd env) (ho : ∀ y ∈ o, y ∈ outs) (h : xo_l2i K a1 a2 pc L S Wd cc cs env = some o) (hdg : decode bb pc = .ok (.l2i, 1)) : W p l e R s m args below meth c H locs cc cs Q (F0 m pc ls (S.map (xg ρ b ad))) := by
  unfold xo_l2i at h
  match S, h with
  | x :: r, h =>
    dsimp only at h
    obtain ⟨h4, h⟩ := xbif h
    rw [xF_eq, xF_eq] at h
    have k := hK _ _ _ _ _ _ _ _ h ho _ _ _ _ hI
    rw [List.map_cons, xg8, xN32_eq] at k
    rw [List.map_cons, xg1 (xbeq h4)]
    exact lv_l2i hx hb hdg rfl k
  | [], h => cases h
theorem xs_ineg (hx : p.tables.exec = Jvm.exec) (hb : c.code = bb) (hK : xHK p l e R s m args below meth c Q ρ b cA D A H0 nL ad0 n0 K outs) (hI : xInv ρ b cA D A H0 nL ad0 n0 ad H locs ls L Wd env) (ho : ∀ y ∈ o, y ∈ outs) (h : xo_ineg K a1 a2 pc L S Wd cc cs env = some o) (hdg : decode bb pc = .ok (.ineg, 1)) : W p l e R s m args below meth c H locs cc cs Q (F0 m pc ls (S.map (xg ρ b ad))) := by
  unfold xo_ineg at h
  match S, h with
  | x :: r, h =>
    dsimp only at h
    obtain ⟨h4, h⟩ := xbif h
    rw [xF_eq, xF_eq] at h
    have k := hK _ _ _ _ _ _ _ _ h ho _ _ _ _ hI
    rw [List.map_cons, xg8, xN32_eq] at k
    rw [List.map_cons, xg0 (xbeq h4)]
    exact lv_ineg hx hb hdg k
  | [], h => cases h
theorem xs_pop (hx : p.tables.exec = Jvm.exec) (hb : c.code = bb) (hK : xHK p l e R s m args below meth c Q ρ b cA D A H0 nL ad0 n0 K outs) (hI : xInv ρ b cA D A H0 nL ad0 n0 ad H locs ls L Wd env) (ho : ∀ y ∈ o, y ∈ outs) (h : xo_pop K pc L S Wd cc cs env = some o) (hdg : decode bb pc = .ok (.pop, 1)) : W p l e R s m args below meth c H locs cc cs Q (F0 m pc ls (S.map (xg ρ b ad))) := by
  unfold xo_pop at h
  match S, h with
  | v :: r, h =>
    dsimp only at h
    obtain ⟨h4, h⟩ := xbif h
    rw [xF_eq] at h
    have k := hK _ _ _ _ _ _ _ _ h ho _ _ _ _ hI
    rw [List.map_cons]
    exact lv_pop hx hb hdg (by rw [xg_cat]; exact xbeq h4) k
  | [], h => cases h
theorem xs_pop2 (hx : p.tables.exec = Jvm.exec) (hb : c.code = bb) (hK : xHK p l e R s m args below meth c Q ρ b cA D A H0 nL ad0 n0 K outs) (hI : xInv ρ b cA D A H0 nL ad0 n0 ad H locs ls L Wd env) (ho : ∀ y ∈ o, y ∈ outs) (h : xo_pop2 K pc L S Wd cc cs env = some o) (hdg : decode bb pc = .ok (.pop2, 1)) : W p l e R s m args below meth c H locs cc cs Q (F0 m pc ls (S.map (xg ρ b ad))) := by
  unfold xo_pop2 at h
  match S, h with
  | v :: r, h =>
    dsimp only at h
    obtain ⟨h4, h⟩ := xbif h
    rw [xF_eq] at h
    have k := hK _ _ _ _ _ _ _ _ h ho _ _ _ _ hI
    rw [List.map_cons]
    exact lv_pop2_2 hx hb hdg (by rw [xg_cat]; exact xbeq h4) k
  | [], h => cases h
theorem xs_lneg (hx : p.tables.exec = Jvm.exec) (hb : c.code = bb) (hK : xHK p l e R s m args below meth c Q ρ b cA D A H0 nL ad0 n0 K outs) (hI : xInv ρ b cA D A H0 nL ad0 n0 ad H locs ls L Wd env) (ho : ∀ y ∈ o, y ∈ outs) (h : xo_lneg K pc L S Wd cc cs env = some o) (hdg : decode bb pc = .ok (.lneg, 1)) : W p l e R s m args below meth c H locs cc cs Q (F0 m pc ls (S.map (xg ρ b ad))) := by
  unfold xo_lneg at h
  match S, h with
  | x :: r, h =>
    dsimp only at h
    obtain ⟨h4, h⟩ := xbif h
    rw [xF_eq, xF_eq] at h
    have k := hK _ _ _ _ _ _ _ _ h ho _ _ _ _ hI
    rw [List.map_cons, xg81, xN64_eq] at k
    rw [List.map_cons, xg1 (xbeq h4)]
    exact lv_lneg hx hb hdg k
  | [], h => cases h
theorem xs_ldiv (hx : p.tables.exec = Jvm.exec) (hb : c.code = bb) (hK : xHK p l e R s m args below meth c Q ρ b cA D A H0 nL ad0 n0 K outs) (hI : xInv ρ b cA D A H0 nL ad0 n0 ad H locs ls L Wd env) (ho : ∀ y ∈ o, y ∈ outs) (h : xo_ldiv K pc L S Wd cc cs env = some o) (hdg : decode bb pc = .ok (.ldiv, 1)) : W p l e R s m args below meth c H locs cc cs Q (F0 m pc ls (S.map (xg ρ b ad))) := by
  unfold xo_ldiv at h
  obtain ⟨y, x, r, rfl, h1, h2, h⟩ := xL2_sound h
  cases hz : decide (lN (xGet (y :: x :: r) 0 / 8) = 0) with
  | true => rw [hz] at h; cases h
  | false =>
    rw [hz, cond_false, xF_eq] at h
    have hne : ¬ lN (y / 8) = 0 := of_decide_eq_false hz
    have k := hK _ _ _ _ _ _ _ _ h ho _ _ _ _ hI
    rw [List.map_cons, xg81, xN64_eq] at k
    rw [List.map_cons, List.map_cons, xg1 h1, xg1 h2]
    exact lv_ldiv hx hb hdg hne k
theorem xs_lrem (hx : p.tables.exec = Jvm.exec) (hb : c.code = bb) (hK : xHK p l e R s m args below meth c Q ρ b cA D A H0 nL ad0 n0 K outs) (hI : xInv ρ b cA D A H0 nL ad0 n0 ad H locs ls L Wd env) (ho : ∀ y ∈ o, y ∈ outs) (h : xo_lrem K pc L S Wd cc cs env = some o) (hdg : decode bb pc = .ok (.lrem, 1)) : W p l e R s m args below meth c H locs cc cs Q (F0 m pc ls (S.map (xg ρ b ad))) := by
  unfold xo_lrem at h
  obtain ⟨y, x, r, rfl, h1, h2, h⟩ := xL2_sound h
  cases hz : decide (lN (xGet (y :: x :: r) 0 / 8) = 0) with
  | true => rw [hz] at h; cases h
  | false =>
    rw [hz, cond_false, xF_eq] at h
    have hne : ¬ lN (y / 8) = 0 := of_decide_eq_false hz
    have k := hK _ _ _ _ _ _ _ _ h ho _ _ _ _ hI
    rw [List.map_cons, xg81, xN64_eq] at k
    rw [List.map_cons, List.map_cons, xg1 h1, xg1 h2]
    exact lv_lrem hx hb hdg hne k
/-! signs and branches -/
def xSgn (x y : Int) (sg : Nat) : Prop := (sg = 0 ∧ x < y) ∨ (sg = 1 ∧ x = y) ∨ (sg = 2 ∧ y < x)
theorem xSg_n (a b : Nat) (z : Int) : xSgn ((a : Int) - z) ((b : Int) - z) (xSg a b) := by
  unfold xSgn xSg
  cases h1 : Nat.blt a b with
  | true => have := xblt h1; exact Or.inl ⟨rfl, by omega⟩
  | false =>
    have n1 : ¬ a < b := fun q => by rw [show Nat.blt a b = true from Nat.ble_eq_true_of_le q] at h1; cases h1
    cases h2 : Nat.blt b a with
    | true => have := xblt h2; exact Or.inr (Or.inr ⟨rfl, by omega⟩)
    | false =>
      have n2 : ¬ b < a := fun q => by rw [show Nat.blt b a = true from Nat.ble_eq_true_of_le q] at h2; cases h2
      exact Or.inr (Or.inl ⟨rfl, by omega⟩)
theorem xSg_32 (x y : Nat) : xSgn (nI x).toInt (nI y).toInt (xSg (xb32 x) (xb32 y)) := by
  rw [xs32_eq, xs32_eq]
  exact xSg_n _ _ _
theorem xSg_64 (x y : Nat) : xSgn (lN x).toInt (lN y).toInt (xSg (xb64 x) (xb64 y)) := by
  rw [xs64_eq, xs64_eq]
  exact xSg_n _ _ _
theorem xRelI_sound {x y sy : Nat} {cv : Int} (h : xRelI x y = some (sy, cv)) : ∃ vx vy : Int32, (∀ ad : Nat → Nat, xg ρ b ad x = .int vx ∧ xg ρ b ad y = .int vy) ∧ vx.toInt - vy.toInt = xz ρ sy - cv := by
  unfold xRelI at h
  cases h7 : Nat.beq (x / 8) 7 with
  | true => rw [h7] at h; cases h
  | false =>
    have hne : ¬ x / 8 = 7 := fun q => by rw [q] at h7; cases h7
    rw [h7] at h
    dsimp only [cond] at h
    cases hc : (Nat.beq (x % 8) 4 && Nat.beq (y % 8) 0) with
    | true =>
      rw [hc] at h
      cases h
      refine ⟨ρ (x / 8), nI (y / 8), fun ad => ⟨xg4 (xbeq (xand hc).1), xg0 (xbeq (xand hc).2)⟩, ?_⟩
      rw [xs32_eq]
      unfold xz
      rw [if_neg hne]
    | false =>
      rw [hc] at h
      dsimp only at h
      cases hc2 : (Nat.beq x 28 && Nat.beq y 20) with
      | false => rw [hc2] at h; cases h
      | true =>
        rw [hc2] at h
        cases h
        have e1 := xbeq (xand hc2).1
        have e2 := xbeq (xand hc2).2
        subst e1; subst e2
        exact ⟨ρ 3, ρ 2, fun ad => ⟨xg4 rfl, xg4 rfl⟩, by unfold xz; rw [if_pos rfl]; omega⟩
theorem xi64 (x : Int32) : x.toInt64.toInt = x.toInt := Int32.toInt_toInt64 x
theorem xi64p (x : Int32) : (x.toInt64 + 1).toInt = x.toInt + 1 := by
  rw [Int64.toInt_add, xi64]
  have h1 := x.le_toInt
  have h2 := x.toInt_lt
  rw [show (1 : Int64).toInt = 1 from rfl, Int.bmod]
  split <;> omega
theorem xRelL_sound {x y sy : Nat} {cv : Int} (h : xRelL x y = some (sy, cv)) : ∃ vx vy : Int64, (∀ ad : Nat → Nat, xg ρ b ad x = .long vx ∧ xg ρ b ad y = .long vy) ∧ vx.toInt - vy.toInt = xz ρ sy - cv := by
  unfold xRelL at h
  cases h7 : Nat.beq (x / 8) 7 with
  | true => rw [h7] at h; cases h
  | false =>
    have hne : ¬ x / 8 = 7 := fun q => by rw [q] at h7; cases h7
    rw [h7] at h
    dsimp only [cond] at h
    cases hc : (Nat.beq (x % 8) 5 && Nat.beq (y % 8) 1) with
    | true =>
      rw [hc] at h
      cases h
      refine ⟨(ρ (x / 8)).toInt64, lN (y / 8), fun ad => ⟨xg5 (xbeq (xand hc).1), xg1 (xbeq (xand hc).2)⟩, ?_⟩
      rw [xs64_eq, xi64]
      unfold xz
      rw [if_neg hne]
    | false =>
      rw [hc] at h
      dsimp only at h
      cases hc2 : (Nat.beq x 29 && Nat.beq y 23) with
      | false => rw [hc2] at h; cases h
      | true =>
        rw [hc2] at h
        cases h
        have e1 := xbeq (xand hc2).1
        have e2 := xbeq (xand hc2).2
        subst e1; subst e2
        refine ⟨(ρ 3).toInt64, (ρ 2).toInt64 + 1, fun ad => ⟨xg5 rfl, xg7 rfl⟩, ?_⟩
        rw [xi64, xi64p]
        unfold xz
        rw [if_pos rfl]
        omega
theorem xSgn_of {x y : Int} {sy : Nat} {cv : Int} {sg : Nat} (he : x - y = xz ρ sy - cv) (h : (sg = 0 ∧ xz ρ sy < cv) ∨ (sg = 1 ∧ xz ρ sy = cv) ∨ (sg = 2 ∧ cv < xz ρ sy)) : xSgn x y sg := by
  rcases h with ⟨h1, h2⟩ | ⟨h1, h2⟩ | ⟨h1, h2⟩
  · exact Or.inl ⟨h1, by omega⟩
  · exact Or.inr (Or.inl ⟨h1, by omega⟩)
  · exact Or.inr (Or.inr ⟨h1, by omega⟩)
def xCn (op : Jvm.ClassFile.Cond) : Nat := match op with
  | .lt => 0
  | .eq => 1
  | .gt => 2
  | .ge => 3
  | .ne => 4
  | .le => 5
theorem xs_if {rest : List Value} {tgt sg : Nat} {x : Int32} {off : Int} (hx : p.tables.exec = Jvm.exec) (hb : c.code = bb) (op : Jvm.ClassFile.Cond) (hdg : decode bb pc = .ok (.ifCond op off, 3)) (ht : (pc : Int) + off = (tgt : Int)) (hs : xSgn x.toInt 0 sg)
    (kt : xHo (xCn op) sg = true → W p l e R s m args below meth c H locs cc cs Q (F0 m tgt ls rest)) (kf : xHo (xCn op) sg = false → W p l e R s m args below meth c H locs cc cs Q (F0 m (pc + 3) ls rest)) : W p l e R s m args below meth c H locs cc cs Q (F0 m pc ls (.int x :: rest)) := by
  have z : (0 : Int32).toInt = 0 := rfl
  cases op with
  | eq => exact lv_if_eq hx hb hdg ht (fun q => kt (by rcases hs with ⟨rfl, h⟩ | ⟨rfl, h⟩ | ⟨rfl, h⟩ <;> first | rfl | (rw [q, z] at h; omega))) (fun q => kf (by rcases hs with ⟨rfl, h⟩ | ⟨rfl, h⟩ | ⟨rfl, h⟩ <;> first | rfl | exact absurd (Int32.toInt_inj.mp (h.trans z.symm)) q))
  | ne => exact lv_if_ne hx hb hdg ht (fun q => kt (by rcases hs with ⟨rfl, h⟩ | ⟨rfl, h⟩ | ⟨rfl, h⟩ <;> first | rfl | exact absurd (Int32.toInt_inj.mp (h.trans z.symm)) q)) (fun q => kf (by rcases hs with ⟨rfl, h⟩ | ⟨rfl, h⟩ | ⟨rfl, h⟩ <;> first | rfl | (rw [q, z] at h; omega)))
  | lt => exact lv_if_lt hx hb hdg ht (fun q => kt (by rw [Int32.lt_iff_toInt_lt, z] at q; rcases hs with ⟨rfl, h⟩ | ⟨rfl, h⟩ | ⟨rfl, h⟩ <;> first | rfl | omega)) (fun q => kf (by rw [Int32.lt_iff_toInt_lt, z] at q; rcases hs with ⟨rfl, h⟩ | ⟨rfl, h⟩ | ⟨rfl, h⟩ <;> first | rfl | omega))
  | ge => exact lv_if_ge hx hb hdg ht (fun q => kt (by rw [Int32.le_iff_toInt_le, z] at q; rcases hs with ⟨rfl, h⟩ | ⟨rfl, h⟩ | ⟨rfl, h⟩ <;> first | rfl | omega)) (fun q => kf (by rw [Int32.le_iff_toInt_le, z] at q; rcases hs with ⟨rfl, h⟩ | ⟨rfl, h⟩ | ⟨rfl, h⟩ <;> first | rfl | omega))
  | gt => exact lv_if_gt hx hb hdg ht (fun q => kt (by rw [Int32.lt_iff_toInt_lt, z] at q; rcases hs with ⟨rfl, h⟩ | ⟨rfl, h⟩ | ⟨rfl, h⟩ <;> first | rfl | omega)) (fun q => kf (by rw [Int32.lt_iff_toInt_lt, z] at q; rcases hs with ⟨rfl, h⟩ | ⟨rfl, h⟩ | ⟨rfl, h⟩ <;> first | rfl | omega))
  | le => exact lv_if_le hx hb hdg ht (fun q => kt (by rw [Int32.le_iff_toInt_le, z] at q; rcases hs with ⟨rfl, h⟩ | ⟨rfl, h⟩ | ⟨rfl, h⟩ <;> first | rfl | omega)) (fun q => kf (by rw [Int32.le_iff_toInt_le, z] at q; rcases hs with ⟨rfl, h⟩ | ⟨rfl, h⟩ | ⟨rfl, h⟩ <;> first | rfl | omega))
theorem xs_icm {rest : List Value} {tgt sg : Nat} {x y : Int32} {off : Int} (hx : p.tables.exec = Jvm.exec) (hb : c.code = bb) (op : Jvm.ClassFile.Cond) (hdg : decode bb pc = .ok (.if_icmp op off, 3)) (ht : (pc : Int) + off = (tgt : Int)) (hs : xSgn x.toInt y.toInt sg)
    (kt : xHo (xCn op) sg = true → W p l e R s m args below meth c H locs cc cs Q (F0 m tgt ls rest)) (kf : xHo (xCn op) sg = false → W p l e R s m args below meth c H locs cc cs Q (F0 m (pc + 3) ls rest)) : W p l e R s m args below meth c H locs cc cs Q (F0 m pc ls (.int y :: .int x :: rest)) := by
  cases op with
  | eq => exact lv_icmp_eq hx hb hdg ht (fun q => kt (by rcases hs with ⟨rfl, h⟩ | ⟨rfl, h⟩ | ⟨rfl, h⟩ <;> first | rfl | (rw [q] at h; omega))) (fun q => kf (by rcases hs with ⟨rfl, h⟩ | ⟨rfl, h⟩ | ⟨rfl, h⟩ <;> first | rfl | exact absurd (Int32.toInt_inj.mp h) q))
  | ne => exact lv_icmp_ne hx hb hdg ht (fun q => kt (by rcases hs with ⟨rfl, h⟩ | ⟨rfl, h⟩ | ⟨rfl, h⟩ <;> first | rfl | exact absurd (Int32.toInt_inj.mp h) q)) (fun q => kf (by rcases hs with ⟨rfl, h⟩ | ⟨rfl, h⟩ | ⟨rfl, h⟩ <;> first | rfl | (rw [q] at h; omega)))
  | lt => exact lv_icmp_lt hx hb hdg ht (fun q => kt (by rw [Int32.lt_iff_toInt_lt] at q; rcases hs with ⟨rfl, h⟩ | ⟨rfl, h⟩ | ⟨rfl, h⟩ <;> first | rfl | omega)) (fun q => kf (by rw [Int32.lt_iff_toInt_lt] at q; rcases hs with ⟨rfl, h⟩ | ⟨rfl, h⟩ | ⟨rfl, h⟩ <;> first | rfl | omega))
  | ge => exact lv_icmp_ge hx hb hdg ht (fun q => kt (by rw [Int32.le_iff_toInt_le] at q; rcases hs with ⟨rfl, h⟩ | ⟨rfl, h⟩ | ⟨rfl, h⟩ <;> first | rfl | omega)) (fun q => kf (by rw [Int32.le_iff_toInt_le] at q; rcases hs with ⟨rfl, h⟩ | ⟨rfl, h⟩ | ⟨rfl, h⟩ <;> first | rfl | omega))
  | gt => exact lv_icmp_gt hx hb hdg ht (fun q => kt (by rw [Int32.lt_iff_toInt_lt] at q; rcases hs with ⟨rfl, h⟩ | ⟨rfl, h⟩ | ⟨rfl, h⟩ <;> first | rfl | omega)) (fun q => kf (by rw [Int32.lt_iff_toInt_lt] at q; rcases hs with ⟨rfl, h⟩ | ⟨rfl, h⟩ | ⟨rfl, h⟩ <;> first | rfl | omega))
  | le => exact lv_icmp_le hx hb hdg ht (fun q => kt (by rw [Int32.le_iff_toInt_le] at q; rcases hs with ⟨rfl, h⟩ | ⟨rfl, h⟩ | ⟨rfl, h⟩ <;> first | rfl | omega)) (fun q => kf (by rw [Int32.le_iff_toInt_le] at q; rcases hs with ⟨rfl, h⟩ | ⟨rfl, h⟩ | ⟨rfl, h⟩ <;> first | rfl | omega))
theorem xs_ifC (hx : p.tables.exec = Jvm.exec) (hb : c.code = bb) (hK : xHK p l e R s m args below meth c Q ρ b cA D A H0 nL ad0 n0 K outs) (hI : xInv ρ b cA D A H0 nL ad0 n0 ad H locs ls L Wd env) (ho : ∀ y ∈ o, y ∈ outs) (h : xo_ifC K a1 a2 pc L S Wd cc cs env = some o) {op : Jvm.ClassFile.Cond} {off : Int} (hdg : decode bb pc = .ok (.ifCond op off, 3)) (ht : (pc : Int) + off = (a1 : Int)) (h2 : xCn op = a2) : W p l e R s m args below meth c H locs cc cs Q (F0 m pc ls (S.map (xg ρ b ad))) := by
  subst h2
  unfold xo_ifC at h
  match S, h with
  | x :: r, h =>
    dsimp only at h
    cases hc : Nat.beq (x % 8) 0 with
    | true =>
      rw [hc] at h
      dsimp only [cond] at h
      rw [List.map_cons, xg0 (xbeq hc)]
      refine xs_if hx hb op hdg ht (sg := xSg (xb32 (x / 8)) 2147483648) (xSg_32 (x / 8) 0) (fun q => ?_) (fun q => ?_)
      · rw [q] at h
        exact hK _ _ _ _ _ _ _ _ h ho _ _ _ _ hI
      · rw [q] at h
        dsimp only at h
        rw [xF_eq] at h
        exact hK _ _ _ _ _ _ _ _ h ho _ _ _ _ hI
    | false =>
      rw [hc] at h
      dsimp only [cond] at h
      cases hr : xRelI x 0 with
      | none => rw [hr] at h; cases h
      | some q =>
        obtain ⟨sy, cv⟩ := q
        rw [hr] at h
        dsimp only at h
        obtain ⟨vx, vy, hv, hd⟩ := xRelI_sound (ρ := ρ) (b := b) hr
        have hvy : vy = 0 := by
          have e := (hv ad).2
          rw [xg0 rfl] at e
          cases e
          rfl
        subst hvy
        obtain ⟨sg, e', o', f1, f2, f3, f4⟩ := xTri_sound h hI.2.2.1
        rw [List.map_cons, (hv ad).1]
        refine xs_if hx hb op hdg ht (sg := xSgI sg) (xSgn_of hd f4) (fun q => ?_) (fun q => ?_)
        · rw [q] at f1
          exact hK _ _ _ _ _ _ _ _ f1 (fun z hz => ho z (f2 z hz)) _ _ _ _ (hI.env f3)
        · rw [q] at f1
          dsimp only [cond] at f1
          rw [xF_eq] at f1
          exact hK _ _ _ _ _ _ _ _ f1 (fun z hz => ho z (f2 z hz)) _ _ _ _ (hI.env f3)
  | [], h => cases h
theorem xs_icmp (hx : p.tables.exec = Jvm.exec) (hb : c.code = bb) (hK : xHK p l e R s m args below meth c Q ρ b cA D A H0 nL ad0 n0 K outs) (hI : xInv ρ b cA D A H0 nL ad0 n0 ad H locs ls L Wd env) (ho : ∀ y ∈ o, y ∈ outs) (h : xo_icmp K a1 a2 pc L S Wd cc cs env = some o) {op : Jvm.ClassFile.Cond} {off : Int} (hdg : decode bb pc = .ok (.if_icmp op off, 3)) (ht : (pc : Int) + off = (a1 : Int)) (h2 : xCn op = a2) : W p l e R s m args below meth c H locs cc cs Q (F0 m pc ls (S.map (xg ρ b ad))) := by
  subst h2
  unfold xo_icmp at h
  match S, h with
  | y :: x :: r, h =>
    dsimp only at h
    cases hc : (Nat.beq (x % 8) 0 && Nat.beq (y % 8) 0) with
    | true =>
      rw [hc] at h
      dsimp only [cond] at h
      rw [List.map_cons, List.map_cons, xg0 (xbeq (xand hc).1), xg0 (xbeq (xand hc).2)]
      refine xs_icm hx hb op hdg ht (sg := xSg (xb32 (x / 8)) (xb32 (y / 8))) (xSg_32 (x / 8) (y / 8)) (fun q => ?_) (fun q => ?_)
      · rw [q] at h
        exact hK _ _ _ _ _ _ _ _ h ho _ _ _ _ hI
      · rw [q] at h
        dsimp only at h
        rw [xF_eq] at h
        exact hK _ _ _ _ _ _ _ _ h ho _ _ _ _ hI
    | false =>
      rw [hc] at h
      dsimp only [cond] at h
      cases hr : xRelI x y with
      | none => rw [hr] at h; cases h
      | some q =>
        obtain ⟨sy, cv⟩ := q
        rw [hr] at h
        dsimp only at h
        obtain ⟨vx, vy, hv, hd⟩ := xRelI_sound (ρ := ρ) (b := b) hr
        obtain ⟨sg, e', o', f1, f2, f3, f4⟩ := xTri_sound h hI.2.2.1
        rw [List.map_cons, List.map_cons, (hv ad).1, (hv ad).2]
        refine xs_icm hx hb op hdg ht (sg := xSgI sg) (xSgn_of hd f4) (fun q => ?_) (fun q => ?_)
        · rw [q] at f1
          exact hK _ _ _ _ _ _ _ _ f1 (fun z hz => ho z (f2 z hz)) _ _ _ _ (hI.env f3)
        · rw [q] at f1
          dsimp only [cond] at f1
          rw [xF_eq] at f1
          exact hK _ _ _ _ _ _ _ _ f1 (fun z hz => ho z (f2 z hz)) _ _ _ _ (hI.env f3)
  | [], h => cases h
  | [_], h => cases h
def xCmpC (sg : Nat) : Nat := bif Nat.beq sg 0 then 34359738360 else bif Nat.beq sg 1 then 0 else 8
theorem xCmp_eq {x y : Int64} {sg : Nat} (h : xSgn x.toInt y.toInt sg) : xg ρ b ad (xCmpC sg) = .int (lg_cmp x y) := by
  unfold lg_cmp
  rcases h with ⟨rfl, h⟩ | ⟨rfl, h⟩ | ⟨rfl, h⟩
  · rw [if_neg (fun q => by rw [gt_iff_lt, Int64.lt_iff_toInt_lt] at q; omega), if_neg (fun q => by rw [q] at h; omega)]
    rfl
  · rw [if_neg (fun q => by rw [gt_iff_lt, Int64.lt_iff_toInt_lt] at q; omega), if_pos (Int64.toInt_inj.mp h)]
    rfl
  · rw [if_pos (by rw [gt_iff_lt, Int64.lt_iff_toInt_lt]; exact h)]
    rfl
theorem xs_lcmp (hx : p.tables.exec = Jvm.exec) (hb : c.code = bb) (hK : xHK p l e R s m args below meth c Q ρ b cA D A H0 nL ad0 n0 K outs) (hI : xInv ρ b cA D A H0 nL ad0 n0 ad H locs ls L Wd env) (ho : ∀ y ∈ o, y ∈ outs) (h : xo_lcmp K a1 a2 pc L S Wd cc cs env = some o) (hdg : decode bb pc = .ok (.lcmp, 1)) : W p l e R s m args below meth c H locs cc cs Q (F0 m pc ls (S.map (xg ρ b ad))) := by
  unfold xo_lcmp at h
  match S, h with
  | y :: x :: r, h =>
    dsimp only at h
    cases hc : (Nat.beq (x % 8) 1 && Nat.beq (y % 8) 1) with
    | true =>
      rw [hc] at h
      rw [cond_true, xF_eq, xF_eq] at h
      have k := hK _ _ _ _ _ _ _ _ h ho _ _ _ _ hI
      have e := xCmp_eq (ρ := ρ) (b := b) (ad := ad) (xSg_64 (x / 8) (y / 8))
      unfold xCmpC at e
      rw [List.map_cons] at k
      rw [List.map_cons, List.map_cons, xg1 (xbeq (xand hc).1), xg1 (xbeq (xand hc).2)]
      refine W.lcmp hx hb hdg ?_
      rw [← e]
      exact k
    | false =>
      rw [hc] at h
      rw [cond_false] at h
      cases hr : xRelL x y with
      | none => rw [hr] at h; cases h
      | some q =>
        obtain ⟨sy, cv⟩ := q
        rw [hr] at h
        dsimp only at h
        obtain ⟨vx, vy, hv, hd⟩ := xRelL_sound (ρ := ρ) (b := b) hr
        obtain ⟨sg, e', o', f1, f2, f3, f4⟩ := xTri_sound h hI.2.2.1
        rw [xF_eq, xF_eq] at f1
        have k := hK _ _ _ _ _ _ _ _ f1 (fun z hz => ho z (f2 z hz)) _ _ _ _ (hI.env f3)
        have e := xCmp_eq (ρ := ρ) (b := b) (ad := ad) (xSgn_of hd f4)
        unfold xCmpC at e
        rw [List.map_cons] at k
        rw [List.map_cons, List.map_cons, (hv ad).1, (hv ad).2]
        refine W.lcmp hx hb hdg ?_
        rw [← e]
        exact k
  | [], h => cases h
  | [_], h => cases h
theorem xs_goto (hx : p.tables.exec = Jvm.exec) (hb : c.code = bb) (hK : xHK p l e R s m args below meth c Q ρ b cA D A H0 nL ad0 n0 K outs) (hI : xInv ρ b cA D A H0 nL ad0 n0 ad H locs ls L Wd env) (ho : ∀ y ∈ o, y ∈ outs) (h : xo_goto K a1 a2 pc L S Wd cc cs env = some o) {off : Int} (hdg : decode bb pc = .ok (.goto off, 3)) (ht : (pc : Int) + off = (a1 : Int)) : W p l e R s m args below meth c H locs cc cs Q (F0 m pc ls (S.map (xg ρ b ad))) := lv_goto hx hb hdg ht (hK _ _ _ _ _ _ _ _ h ho _ _ _ _ hI)
theorem xs_dup (hx : p.tables.exec = Jvm.exec) (hb : c.code = bb) (hK : xHK p l e R s m args below meth c Q ρ b cA D A H0 nL ad0 n0 K outs) (hI : xInv ρ b cA D A H0 nL ad0 n0 ad H locs ls L Wd env) (ho : ∀ y ∈ o, y ∈ outs) (h : xo_dup K a1 a2 pc L S Wd cc cs env = some o) (hdg : decode bb pc = .ok (.dup, 1)) : W p l e R s m args below meth c H locs cc cs Q (F0 m pc ls (S.map (xg ρ b ad))) := by
  unfold xo_dup at h
  match S, h with
  | v :: r, h =>
    dsimp only at h
    obtain ⟨hc, h⟩ := xbif h
    rw [xF_eq] at h
    exact lv_dup hx hb hdg (by rw [xg_cat]; exact xbeq hc) (hK _ _ _ _ _ _ _ _ h ho _ _ _ _ hI)
  | [], h => cases h
theorem xs_dup_x1 (hx : p.tables.exec = Jvm.exec) (hb : c.code = bb) (hK : xHK p l e R s m args below meth c Q ρ b cA D A H0 nL ad0 n0 K outs) (hI : xInv ρ b cA D A H0 nL ad0 n0 ad H locs ls L Wd env) (ho : ∀ y ∈ o, y ∈ outs) (h : xo_dup_x1 K a1 a2 pc L S Wd cc cs env = some o) (hdg : decode bb pc = .ok (.dup_x1, 1)) : W p l e R s m args below meth c H locs cc cs Q (F0 m pc ls (S.map (xg ρ b ad))) := by
  unfold xo_dup_x1 at h
  match S, h with
  | v :: w :: r, h =>
    dsimp only at h
    obtain ⟨hc, h⟩ := xbif h
    rw [xF_eq] at h
    exact lv_dup_x1 hx hb hdg (by rw [xg_cat]; exact xbeq (xand hc).1) (by rw [xg_cat]; exact xbeq (xand hc).2) (hK _ _ _ _ _ _ _ _ h ho _ _ _ _ hI)
  | [], h => cases h
  | [_], h => cases h
theorem xs_dup2 (hx : p.tables.exec = Jvm.exec) (hb : c.code = bb) (hK : xHK p l e R s m args below meth c Q ρ b cA D A H0 nL ad0 n0 K outs) (hI : xInv ρ b cA D A H0 nL ad0 n0 ad H locs ls L Wd env) (ho : ∀ y ∈ o, y ∈ outs) (h : xo_dup2 K a1 a2 pc L S Wd cc cs env = some o) (hdg : decode bb pc = .ok (.dup2, 1)) : W p l e R s m args below meth c H locs cc cs Q (F0 m pc ls (S.map (xg ρ b ad))) := by
  unfold xo_dup2 at h
  match S, h with
  | v :: r, h =>
    dsimp only at h
    cases hc : Nat.beq (xCat v) 2 with
    | true =>
      rw [hc] at h
      dsimp only [cond] at h
      rw [xF_eq] at h
      exact lv_dup2_2 hx hb hdg (by rw [xg_cat]; exact xbeq hc) (hK _ _ _ _ _ _ _ _ h ho _ _ _ _ hI)
    | false =>
      rw [hc] at h
      dsimp only [cond] at h
      match r, h with
      | w :: r', h =>
        dsimp only at h
        obtain ⟨hc2, h⟩ := xbif h
        rw [xF_eq] at h
        have h1 : xCat v = 1 := by
          unfold xCat at hc ⊢
          cases hl : xIsL v with
          | true => rw [hl] at hc; cases hc
          | false => rfl
        exact lv_dup2_11 hx hb hdg (by rw [xg_cat]; exact h1) (by rw [xg_cat]; exact xbeq hc2) (hK _ _ _ _ _ _ _ _ h ho _ _ _ _ hI)
      | [], h => cases h
  | [], h => cases h
end XOQ
