/-! the plain operations -/
def yDs (K : yKt) (sp : List yCell) (o a1 a2 : Nat) (pc : Nat) (LA SA : List yA) (env : xEv) (fs : List yF) (ca : yCa) : Bool := bif Nat.blt o 54 then (bif Nat.blt o 27 then (bif Nat.blt o 13 then (bif Nat.blt o 6 then (bif Nat.blt o 3 then (bif Nat.blt o 1 then yo_const K 1 a1 pc LA SA env fs ca else (bif Nat.blt o 2 then yo_const K 2 a1 pc LA SA env fs ca else yo_const K 3 a1 pc LA SA env fs ca)) else (bif Nat.blt o 4 then yo_ld K 0 1 a1 pc LA SA env fs ca else (bif Nat.blt o 5 then yo_ld K 0 2 a1 pc LA SA env fs ca else yo_ld K 1 1 a1 pc LA SA env fs ca))) else (bif Nat.blt o 9 then (bif Nat.blt o 7 then yo_ld K 1 2 a1 pc LA SA env fs ca else (bif Nat.blt o 8 then yo_ld K 2 1 a1 pc LA SA env fs ca else yo_ld K 2 2 a1 pc LA SA env fs ca)) else (bif Nat.blt o 11 then (bif Nat.blt o 10 then yo_st K 0 1 a1 pc LA SA env fs ca else yo_st K 0 2 a1 pc LA SA env fs ca) else (bif Nat.blt o 12 then yo_st K 2 1 a1 pc LA SA env fs ca else yo_st K 2 2 a1 pc LA SA env fs ca)))) else (bif Nat.blt o 20 then (bif Nat.blt o 16 then (bif Nat.blt o 14 then yo_lst K 1 a1 pc LA SA env fs ca else (bif Nat.blt o 15 then yo_lst K 2 a1 pc LA SA env fs ca else yo_iinc K a1 a2 pc LA SA env fs ca)) else (bif Nat.blt o 18 then (bif Nat.blt o 17 then yo_i2 K (fun X Y => some (yAdd X Y)) pc LA SA env fs ca else yo_i2 K (fun X Y => some (ySub X Y)) pc LA SA env fs ca) else (bif Nat.blt o 19 then yo_i2 K yMul pc LA SA env fs ca else yo_ir K yRgDiv pc LA SA env fs ca))) else (bif Nat.blt o 23 then (bif Nat.blt o 21 then yo_ir K yRgRem pc LA SA env fs ca else (bif Nat.blt o 22 then yo_ir K yRgAnd pc LA SA env fs ca else yo_i2 K (fun _ _ => none) pc LA SA env fs ca)) else (bif Nat.blt o 25 then (bif Nat.blt o 24 then yo_i2 K (fun _ _ => none) pc LA SA env fs ca else yo_i2 K (fun _ _ => none) pc LA SA env fs ca) else (bif Nat.blt o 26 then yo_i2 K (fun _ _ => none) pc LA SA env fs ca else yo_i2 K (fun _ _ => none) pc LA SA env fs ca))))) else (bif Nat.blt o 40 then (bif Nat.blt o 33 then (bif Nat.blt o 30 then (bif Nat.blt o 28 then yo_l2 K 1 (fun X Y => some (yAdd X Y)) pc LA SA env fs ca else (bif Nat.blt o 29 then yo_l2 K 1 (fun X Y => some (ySub X Y)) pc LA SA env fs ca else yo_l2 K 1 yMul pc LA SA env fs ca)) else (bif Nat.blt o 31 then yo_l2 K 1 (fun _ _ => none) pc LA SA env fs ca else (bif Nat.blt o 32 then yo_l2 K 1 (fun _ _ => none) pc LA SA env fs ca else yo_l2 K 1 (fun _ _ => none) pc LA SA env fs ca))) else (bif Nat.blt o 36 then (bif Nat.blt o 34 then yo_l2 K 0 (fun _ _ => none) pc LA SA env fs ca else (bif Nat.blt o 35 then yo_l2 K 0 (fun _ _ => none) pc LA SA env fs ca else yo_l2 K 0 (fun _ _ => none) pc LA SA env fs ca)) else (bif Nat.blt o 38 then (bif Nat.blt o 37 then yo_i2l K pc LA SA env fs ca else yo_l2i K pc LA SA env fs ca) else (bif Nat.blt o 39 then yo_ineg K pc LA SA env fs ca else yo_lcmp K pc LA SA env fs ca)))) else (bif Nat.blt o 47 then (bif Nat.blt o 43 then (bif Nat.blt o 41 then yo_if K a1 a2 pc LA SA env fs ca else (bif Nat.blt o 42 then yo_icmp K a1 a2 pc LA SA env fs ca else K a1 LA SA env fs ca)) else (bif Nat.blt o 45 then (bif Nat.blt o 44 then yo_dup K pc LA SA env fs ca else yo_dup_x1 K pc LA SA env fs ca) else (bif Nat.blt o 46 then yo_dup2 K pc LA SA env fs ca else yo_gf K sp a1 a2 pc LA SA env fs ca))) else (bif Nat.blt o 50 then (bif Nat.blt o 48 then yo_pf K sp a1 a2 pc LA SA env fs ca else (bif Nat.blt o 49 then yo_ial K sp 1 pc LA SA env fs ca else yo_ias K sp pc LA SA env fs ca)) else (bif Nat.blt o 52 then (bif Nat.blt o 51 then yo_lal K sp pc LA SA env fs ca else yo_las K sp pc LA SA env fs ca) else (bif Nat.blt o 53 then yo_ial K sp 5 pc LA SA env fs ca else yo_bas K sp pc LA SA env fs ca)))))) else false
section YST
variable {G : Nat → List Nat → List Nat → List Nat → Prop} {sp : List yCell} {K : yKt} {Kc : xKt} {cc cs : Nat}
variable {γ : yLk} {τ : Nat → Int} {L S Wd : List Nat} {LA SA : List yA} {env : xEv} {fs : List yF} {ca : yCa} {a1 a2 pc : Nat}
theorem yDs_ok {o : Nat} (hKc : ∀ pc L S Wd, G pc L S Wd → Kc pc L S Wd cc cs [] = some []) (hK : yHK G sp γ K) (hs : ySt sp γ τ L S Wd LA SA env fs ca) (h : yDs K sp o a1 a2 pc LA SA env fs ca = true) : Nat.blt o 56 = true ∧ xDs o Kc a1 a2 pc L S Wd cc cs [] = some [] := by
  match o, h with
  | 0, h => exact ⟨rfl, yc_push1 (a1 := a1) (a2 := a2) (pc := pc) hKc hK hs h⟩
  | 1, h => exact ⟨rfl, yc_push2 (a1 := a1) (a2 := a2) (pc := pc) hKc hK hs h⟩
  | 2, h => exact ⟨rfl, yc_push3 (a1 := a1) (a2 := a2) (pc := pc) hKc hK hs h⟩
  | 3, h => exact ⟨rfl, yc_iload1 (a1 := a1) (a2 := a2) (pc := pc) hKc hK hs h⟩
  | 4, h => exact ⟨rfl, yc_iload2 (a1 := a1) (a2 := a2) (pc := pc) hKc hK hs h⟩
  | 5, h => exact ⟨rfl, yc_lload1 (a1 := a1) (a2 := a2) (pc := pc) hKc hK hs h⟩
  | 6, h => exact ⟨rfl, yc_lload2 (a1 := a1) (a2 := a2) (pc := pc) hKc hK hs h⟩
  | 7, h => exact ⟨rfl, yc_aload1 (a1 := a1) (a2 := a2) (pc := pc) hKc hK hs h⟩
  | 8, h => exact ⟨rfl, yc_aload2 (a1 := a1) (a2 := a2) (pc := pc) hKc hK hs h⟩
  | 9, h => exact ⟨rfl, yc_istore1 (a1 := a1) (a2 := a2) (pc := pc) hKc hK hs h⟩
  | 10, h => exact ⟨rfl, yc_istore2 (a1 := a1) (a2 := a2) (pc := pc) hKc hK hs h⟩
  | 11, h => exact ⟨rfl, yc_astore1 (a1 := a1) (a2 := a2) (pc := pc) hKc hK hs h⟩
  | 12, h => exact ⟨rfl, yc_astore2 (a1 := a1) (a2 := a2) (pc := pc) hKc hK hs h⟩
  | 13, h => exact ⟨rfl, yc_lstore1 (a1 := a1) (a2 := a2) (pc := pc) hKc hK hs h⟩
  | 14, h => exact ⟨rfl, yc_lstore2 (a1 := a1) (a2 := a2) (pc := pc) hKc hK hs h⟩
  | 15, h => exact ⟨rfl, yc_iinc (a1 := a1) (a2 := a2) (pc := pc) hKc hK hs h⟩
  | 16, h => exact ⟨rfl, yc_iadd (a1 := a1) (a2 := a2) (pc := pc) hKc hK hs h⟩
  | 17, h => exact ⟨rfl, yc_isub (a1 := a1) (a2 := a2) (pc := pc) hKc hK hs h⟩
  | 18, h => exact ⟨rfl, yc_imul (a1 := a1) (a2 := a2) (pc := pc) hKc hK hs h⟩
  | 19, h => exact ⟨rfl, yc_idiv (a1 := a1) (a2 := a2) (pc := pc) hKc hK hs h⟩
  | 20, h => exact ⟨rfl, yc_irem (a1 := a1) (a2 := a2) (pc := pc) hKc hK hs h⟩
  | 21, h => exact ⟨rfl, yc_iand (a1 := a1) (a2 := a2) (pc := pc) hKc hK hs h⟩
  | 22, h => exact ⟨rfl, yc_ior (a1 := a1) (a2 := a2) (pc := pc) hKc hK hs h⟩
  | 23, h => exact ⟨rfl, yc_ixor (a1 := a1) (a2 := a2) (pc := pc) hKc hK hs h⟩
  | 24, h => exact ⟨rfl, yc_ishl (a1 := a1) (a2 := a2) (pc := pc) hKc hK hs h⟩
  | 25, h => exact ⟨rfl, yc_ishr (a1 := a1) (a2 := a2) (pc := pc) hKc hK hs h⟩
  | 26, h => exact ⟨rfl, yc_iushr (a1 := a1) (a2 := a2) (pc := pc) hKc hK hs h⟩
  | 27, h => exact ⟨rfl, yc_ladd (a1 := a1) (a2 := a2) (pc := pc) hKc hK hs h⟩
  | 28, h => exact ⟨rfl, yc_lsub (a1 := a1) (a2 := a2) (pc := pc) hKc hK hs h⟩
  | 29, h => exact ⟨rfl, yc_lmul (a1 := a1) (a2 := a2) (pc := pc) hKc hK hs h⟩
  | 30, h => exact ⟨rfl, yc_land (a1 := a1) (a2 := a2) (pc := pc) hKc hK hs h⟩
  | 31, h => exact ⟨rfl, yc_lor (a1 := a1) (a2 := a2) (pc := pc) hKc hK hs h⟩
  | 32, h => exact ⟨rfl, yc_lxor (a1 := a1) (a2 := a2) (pc := pc) hKc hK hs h⟩
  | 33, h => exact ⟨rfl, yc_lshl (a1 := a1) (a2 := a2) (pc := pc) hKc hK hs h⟩
  | 34, h => exact ⟨rfl, yc_lshr (a1 := a1) (a2 := a2) (pc := pc) hKc hK hs h⟩
  | 35, h => exact ⟨rfl, yc_lushr (a1 := a1) (a2 := a2) (pc := pc) hKc hK hs h⟩
  | 36, h => exact ⟨rfl, yc_i2l (a1 := a1) (a2 := a2) (pc := pc) hKc hK hs h⟩
  | 37, h => exact ⟨rfl, yc_l2i (a1 := a1) (a2 := a2) (pc := pc) hKc hK hs h⟩
  | 38, h => exact ⟨rfl, yc_ineg (a1 := a1) (a2 := a2) (pc := pc) hKc hK hs h⟩
  | 39, h => exact ⟨rfl, yc_lcmp (a1 := a1) (a2 := a2) (pc := pc) hKc hK hs h⟩
  | 40, h => exact ⟨rfl, yc_ifC (a1 := a1) (a2 := a2) (pc := pc) hKc hK hs h⟩
  | 41, h => exact ⟨rfl, yc_icmp (a1 := a1) (a2 := a2) (pc := pc) hKc hK hs h⟩
  | 42, h => exact ⟨rfl, yc_goto (a1 := a1) (a2 := a2) (pc := pc) hKc hK hs h⟩
  | 43, h => exact ⟨rfl, yc_dup (a1 := a1) (a2 := a2) (pc := pc) hKc hK hs h⟩
  | 44, h => exact ⟨rfl, yc_dup_x1 (a1 := a1) (a2 := a2) (pc := pc) hKc hK hs h⟩
  | 45, h => exact ⟨rfl, yc_dup2 (a1 := a1) (a2 := a2) (pc := pc) hKc hK hs h⟩
  | 46, h => exact ⟨rfl, yc_getfield (a1 := a1) (a2 := a2) (pc := pc) hKc hK hs h⟩
  | 47, h => exact ⟨rfl, yc_putfield (a1 := a1) (a2 := a2) (pc := pc) hKc hK hs h⟩
  | 48, h => exact ⟨rfl, yc_iaload (a1 := a1) (a2 := a2) (pc := pc) hKc hK hs h⟩
  | 49, h => exact ⟨rfl, yc_iastore (a1 := a1) (a2 := a2) (pc := pc) hKc hK hs h⟩
  | 50, h => exact ⟨rfl, yc_laload (a1 := a1) (a2 := a2) (pc := pc) hKc hK hs h⟩
  | 51, h => exact ⟨rfl, yc_lastore (a1 := a1) (a2 := a2) (pc := pc) hKc hK hs h⟩
  | 52, h => exact ⟨rfl, yc_baload (a1 := a1) (a2 := a2) (pc := pc) hKc hK hs h⟩
  | 53, h => exact ⟨rfl, yc_bastore (a1 := a1) (a2 := a2) (pc := pc) hKc hK hs h⟩
  | n + 54, h =>
    unfold yDs at h
    rw [show Nat.blt (n + 54) 54 = false from by cases hb : Nat.blt (n + 54) 54 with | false => rfl | true => exact absurd (xblt hb) (by omega)] at h
    cases h
end YST
