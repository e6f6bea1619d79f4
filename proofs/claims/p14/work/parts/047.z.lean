/-! THE PLAIN MACHINE: a value is a tag (0 int, 1 long, 2 cell, 3 null, 6 the script, 9 none) and a number; the memory a function of cell and place; the cells' shapes are fixed -/
abbrev zV : Type := Nat × Int
abbrev zM : Type := Nat → Nat → Int
abbrev zSt : Type := Nat × List zV × List zV × zM
def zU (v : Int) : Nat := (v % 4294967296).toNat
def zUL (v : Int) : Nat := (v % 18446744073709551616).toNat
def zc (q : zV) : Nat := match q.1 with
  | 0 => zU q.2 * 8
  | 1 => zUL q.2 * 8 + 1
  | 2 => q.2.toNat * 8 + 2
  | 3 => 3
  | 6 => 6
  | _ => 11
def zIn (v : Int) : Prop := -2147483648 ≤ v ∧ v ≤ 2147483647
def zInL (v : Int) : Prop := -9223372036854775808 ≤ v ∧ v ≤ 9223372036854775807
def zR (q : zV) : Prop := match q.1 with
  | 0 => zIn q.2
  | 1 => zInL q.2
  | _ => True
def zRs (L : List zV) : Prop := ∀ q ∈ L, zR q
def zHdT : List Nat := [66, 34, 81, 321, 321, 481, 481, 481, 481, 33, 33, 1601, 1281, 33, 23, 34, 81, 321, 321, 481, 481, 481, 481, 33, 33, 1601, 1281, 33, 34, 81, 321, 321, 481, 481, 481, 481, 33, 33, 1601, 1281, 33, 17, 18, 26, 81, 10, 51, 401, 401, 403, 81, 81, 2, 721, 81, 50, 481, 481, 81, 81, 42, 81, 81, 58, 81, 801, 81, 241, 89, 74, 6609, 13217, 21, 515, 1025, 51, 81, 81, 81, 81, 801, 81, 801, 801, 81]
def zKT : List (List (Nat × Nat)) := [[(2, 1), (2, 14), (2, 41), (2, 42), (2, 43), (2, 52), (2, 55), (2, 60), (2, 63)], [(0, 0), (0, 0), (1, 0), (1, 0), (0, 0), (0, 0), (2, 2), (2, 3), (2, 4), (2, 5), (2, 6), (2, 7), (2, 8), (2, 9), (2, 10), (2, 11), (2, 12), (2, 13)], [], [], [], [], [], [], [], [], [], [], [], [], [(5, 15), (5, 28)], [(0, 0), (0, 0), (1, 0), (1, 0), (0, 0), (0, 0), (2, 16), (2, 17), (2, 18), (2, 19), (2, 20), (2, 21), (2, 22), (2, 23), (2, 24), (2, 25), (2, 26), (2, 27)], [], [], [], [], [], [], [], [], [], [], [], [], [(0, 0), (0, 0), (1, 0), (1, 0), (0, 0), (0, 0), (2, 29), (2, 30), (2, 31), (2, 32), (2, 33), (2, 34), (2, 35), (2, 36), (2, 37), (2, 38), (2, 39), (2, 40)], [], [], [], [], [], [], [], [], [], [], [], [], [], [(1, 0), (1, 0)], [(2, 44), (2, 1), (2, 45), (2, 50), (2, 51), (0, 0)], [], [(2, 46), (0, 0), (2, 47), (2, 48), (2, 49), (0, 0), (0, 0), (0, 0), (0, 0), (0, 0)], [], [], [], [], [], [], [(0, 0), (1, 0), (1, 0), (2, 1), (2, 43), (2, 53), (2, 54)], [], [], [(2, 1), (2, 56), (2, 57), (2, 58), (2, 59), (1, 0)], [], [], [], [], [(2, 1), (2, 61), (2, 62)], [], [], [(0, 0), (2, 64), (2, 1), (2, 65), (2, 66), (2, 67), (2, 68)], [], [], [], [], [], [(2, 70), (2, 71), (2, 72), (1, 0), (1, 0), (0, 0), (0, 0), (0, 0), (2, 73), (0, 0), (2, 74), (0, 0), (2, 75), (1, 0), (2, 76), (2, 77), (2, 78), (0, 0), (0, 0), (2, 79), (2, 80), (2, 81), (2, 82), (0, 0), (0, 0), (2, 83), (2, 84)], [], [], [], [], [], [], [], [], [], [], [], [], [], [], []]
def zN : Nat := 85
def zHd (r : Nat) : Nat := zHdT.getD r 0
def zLen (r : Nat) : Nat := zHd r / 8
def zKd (r k : Nat) : Nat × Nat := match zHd r % 8 with
  | 1 => if k < zLen r then (0, 0) else (7, 0)
  | 5 => if k < zLen r then (0, 0) else (7, 0)
  | 3 => if k < zLen r then (4, 0) else (7, 0)
  | 0 => (7, 0)
  | _ => (zKT.getD r []).getD k (7, 0)
def zDig (kd : Nat × Nat) (v : Int) : Nat := match kd.1 with
  | 0 => zU v * 8
  | 1 => zUL v * 8 + 1
  | 2 => kd.2 * 8 + 2
  | 4 => zUL v
  | 5 => kd.2 + 1
  | _ => 0
def zRg (kd : Nat × Nat) (v : Int) : Prop := match kd.1 with
  | 0 => zIn v
  | 1 => zInL v
  | 4 => zInL v
  | _ => True
def zRel (m : zM) (Wd : List Nat) : Prop := Wd.length = zN ∧ ∀ r c : Nat, Wd[r]? = some c → c % 18446744073709551616 = zHd r ∧ ∀ k, (zKd r k).1 ≠ 7 → xDn c k 1 = zDig (zKd r k) (m r k) ∧ zRg (zKd r k) (m r k)
def zUp (m : zM) (r k : Nat) (v : Int) : zM := fun r' k' => if r' = r ∧ k' = k then v else m r' k'
def zCp (m : zM) (dst dp src sp n : Nat) : zM := fun r k => if r = dst ∧ dp ≤ k ∧ k < dp + n then m src (sp + (k - dp)) else m r k
def zG (L : List zV) (i : Nat) : zV := L.getD i (9, 0)
def zPut (L : List zV) (i : Nat) (v : zV) : List zV := match i with
  | 0 => L.set 0 v
  | j + 1 => if (zG L j).1 = 1 then (L.set j (9, 0)).set (j + 1) v else L.set (j + 1) v
def zCat (q : zV) : Nat := if q.1 = 1 then 2 else 1
def zCats : List zV → Nat
  | [] => 0
  | q :: t => zCat q + zCats t
def zEnt : List zV → Nat → List zV
  | [], n => List.replicate n (9, 0)
  | a :: t, n => if a.1 = 1 then a :: (9, 0) :: zEnt t (n - 2) else a :: zEnt t (n - 1)
def zHo (op : Nat) (x y : Int) : Bool := match op with
  | 0 => decide (x < y)
  | 1 => decide (x = y)
  | 2 => decide (y < x)
  | 3 => decide (y ≤ x)
  | 4 => !(decide (x = y))
  | _ => decide (x ≤ y)
def zPv (a1 : Nat) : zV := if a1 % 8 = 0 then (0, xs32 (a1 / 8)) else (1, xs64 (a1 / 8))
def zFv (kd : Nat × Nat) (v : Int) : Option zV := match kd.1 with
  | 0 => some (0, v)
  | 1 => some (1, v)
  | 2 => some (2, kd.2)
  | _ => none
def zo_push (q a1 : Nat) (L S : List zV) (m : zM) : Option zSt := if a1 % 8 = 0 ∧ a1 < 34359738368 ∨ a1 % 8 = 1 ∧ a1 < 147573952589676412928 then some (q, L, zPv a1 :: S, m) else none
def zo_ild (q a1 : Nat) (L S : List zV) (m : zM) : Option zSt := if (zG L a1).1 = 0 then some (q, L, zG L a1 :: S, m) else none
def zo_lld (q a1 : Nat) (L S : List zV) (m : zM) : Option zSt := if (zG L a1).1 = 1 then some (q, L, zG L a1 :: S, m) else none
def zo_ald (q a1 : Nat) (L S : List zV) (m : zM) : Option zSt := if (zG L a1).1 = 2 ∨ (zG L a1).1 = 6 then some (q, L, zG L a1 :: S, m) else none
def zo_ist (q a1 : Nat) (L S : List zV) (m : zM) : Option zSt := match S with
  | v :: t => if v.1 = 0 ∧ a1 < L.length then some (q, zPut L a1 v, t, m) else none
  | [] => none
def zo_ast (q a1 : Nat) (L S : List zV) (m : zM) : Option zSt := match S with
  | v :: t => if (v.1 = 2 ∨ v.1 = 6) ∧ a1 < L.length then some (q, zPut L a1 v, t, m) else none
  | [] => none
def zo_lst (q a1 : Nat) (L S : List zV) (m : zM) : Option zSt := match S with
  | v :: t => if v.1 = 1 ∧ a1 + 1 < L.length then some (q, (zPut L a1 v).set (a1 + 1) (9, 0), t, m) else none
  | [] => none
def zo_iinc (q a1 a2 : Nat) (L S : List zV) (m : zM) : Option zSt := if (zG L a1).1 = 0 then some (q, zPut L a1 (0, (Int32.ofInt (zG L a1).2 + nI a2).toInt), S, m) else none
def zo_i2 (g : Int32 → Int32 → Int32) (q : Nat) (L S : List zV) (m : zM) : Option zSt := match S with
  | (0, y) :: (0, x) :: t => some (q, L, (0, (g (Int32.ofInt x) (Int32.ofInt y)).toInt) :: t, m)
  | _ => none
def zo_i2z (g : Int32 → Int32 → Int32) (q : Nat) (L S : List zV) (m : zM) : Option zSt := match S with
  | (0, y) :: (0, x) :: t => if y = 0 then none else some (q, L, (0, (g (Int32.ofInt x) (Int32.ofInt y)).toInt) :: t, m)
  | _ => none
def zo_l2 (g : Int64 → Int64 → Int64) (q : Nat) (L S : List zV) (m : zM) : Option zSt := match S with
  | (1, y) :: (1, x) :: t => some (q, L, (1, (g (Int64.ofInt x) (Int64.ofInt y)).toInt) :: t, m)
  | _ => none
def zo_l2z (g : Int64 → Int64 → Int64) (q : Nat) (L S : List zV) (m : zM) : Option zSt := match S with
  | (1, y) :: (1, x) :: t => if y = 0 then none else some (q, L, (1, (g (Int64.ofInt x) (Int64.ofInt y)).toInt) :: t, m)
  | _ => none
def zo_li (g : Int64 → Int32 → Int64) (q : Nat) (L S : List zV) (m : zM) : Option zSt := match S with
  | (0, y) :: (1, x) :: t => some (q, L, (1, (g (Int64.ofInt x) (Int32.ofInt y)).toInt) :: t, m)
  | _ => none
def zo_i2l (q : Nat) (L S : List zV) (m : zM) : Option zSt := match S with
  | (0, x) :: t => some (q, L, (1, x) :: t, m)
  | _ => none
def zo_l2i (q : Nat) (L S : List zV) (m : zM) : Option zSt := match S with
  | (1, x) :: t => some (q, L, (0, (Int64.ofInt x).toInt32.toInt) :: t, m)
  | _ => none
def zo_ineg (q : Nat) (L S : List zV) (m : zM) : Option zSt := match S with
  | (0, x) :: t => some (q, L, (0, (-(Int32.ofInt x)).toInt) :: t, m)
  | _ => none
def zo_lneg (q : Nat) (L S : List zV) (m : zM) : Option zSt := match S with
  | (1, x) :: t => some (q, L, (1, (-(Int64.ofInt x)).toInt) :: t, m)
  | _ => none
def zSgn (x y : Int) : Int := if x < y then -1 else if x = y then 0 else 1
def zo_lcmp (q : Nat) (L S : List zV) (m : zM) : Option zSt := match S with
  | (1, y) :: (1, x) :: t => some (q, L, (0, zSgn x y) :: t, m)
  | _ => none
def zo_ifC (q a1 a2 : Nat) (L S : List zV) (m : zM) : Option zSt := match S with
  | (0, x) :: t => if a2 < 6 then some (bif zHo a2 x 0 then a1 else q, L, t, m) else none
  | _ => none
def zo_icmp (q a1 a2 : Nat) (L S : List zV) (m : zM) : Option zSt := match S with
  | (0, y) :: (0, x) :: t => if a2 < 6 then some (bif zHo a2 x y then a1 else q, L, t, m) else none
  | _ => none
def zo_dup (q : Nat) (L S : List zV) (m : zM) : Option zSt := match S with
  | v :: t => if zCat v = 1 then some (q, L, v :: v :: t, m) else none
  | _ => none
def zo_dup_x1 (q : Nat) (L S : List zV) (m : zM) : Option zSt := match S with
  | v :: w :: t => if zCat v = 1 ∧ zCat w = 1 then some (q, L, v :: w :: v :: t, m) else none
  | _ => none
def zo_dup2 (q : Nat) (L S : List zV) (m : zM) : Option zSt := match S with
  | v :: w :: t => if zCat v = 1 ∧ zCat w = 1 then some (q, L, v :: w :: v :: w :: t, m) else none
  | _ => none
def zo_getf (q a1 a2 : Nat) (L S : List zV) (m : zM) : Option zSt := match S with
  | (2, r) :: t => if zHd r.toNat = 8 * a1 + 2 then (match zFv (zKd r.toNat a2) (m r.toNat a2) with
    | some v => some (q, L, v :: t, m)
    | none => none) else none
  | _ => none
def zo_putf (q a1 a2 : Nat) (L S : List zV) (m : zM) : Option zSt := match S with
  | v :: (2, r) :: t => if zHd r.toNat = 8 * a1 + 2 ∧ v.1 < 2 ∧ (zKd r.toNat a2).1 = v.1 then some (q, L, t, zUp m r.toNat a2 v.2) else none
  | _ => none
def zo_iald (q : Nat) (L S : List zV) (m : zM) : Option zSt := match S with
  | (0, x) :: (2, r) :: t => if zHd r.toNat % 8 = 1 ∧ 0 ≤ x ∧ x < zLen r.toNat then some (q, L, (0, m r.toNat x.toNat) :: t, m) else none
  | _ => none
def zo_iast (q : Nat) (L S : List zV) (m : zM) : Option zSt := match S with
  | (0, v) :: (0, x) :: (2, r) :: t => if zHd r.toNat % 8 = 1 ∧ 0 ≤ x ∧ x < zLen r.toNat then some (q, L, t, zUp m r.toNat x.toNat v) else none
  | _ => none
def zo_lald (q : Nat) (L S : List zV) (m : zM) : Option zSt := match S with
  | (0, x) :: (2, r) :: t => if zHd r.toNat % 8 = 3 ∧ 0 ≤ x ∧ x < zLen r.toNat then some (q, L, (1, m r.toNat x.toNat) :: t, m) else none
  | _ => none
def zo_last (q : Nat) (L S : List zV) (m : zM) : Option zSt := match S with
  | (1, v) :: (0, x) :: (2, r) :: t => if zHd r.toNat % 8 = 3 ∧ 0 ≤ x ∧ x < zLen r.toNat then some (q, L, t, zUp m r.toNat x.toNat v) else none
  | _ => none
def zo_bald (q : Nat) (L S : List zV) (m : zM) : Option zSt := match S with
  | (0, x) :: (2, r) :: t => if zHd r.toNat % 8 = 5 ∧ 0 ≤ x ∧ x < zLen r.toNat then some (q, L, (0, m r.toNat x.toNat) :: t, m) else none
  | _ => none
def zo_bast (q : Nat) (L S : List zV) (m : zM) : Option zSt := match S with
  | (0, v) :: (0, x) :: (2, r) :: t => if zHd r.toNat % 8 = 5 ∧ 0 ≤ x ∧ x < zLen r.toNat ∧ (v = 0 ∨ v = 1) then some (q, L, t, zUp m r.toNat x.toNat v) else none
  | _ => none
def zo_aald (q : Nat) (L S : List zV) (m : zM) : Option zSt := match S with
  | (0, x) :: (2, r) :: t => if zHd r.toNat % 8 = 7 ∧ 0 ≤ x ∧ x < zLen r.toNat ∧ (zKd r.toNat x.toNat).1 = 5 then some (q, L, (2, (zKd r.toNat x.toNat).2) :: t, m) else none
  | _ => none
def zo_sld (Lz : Nat) (zs : Nat → Int32) (k q : Nat) (L S : List zV) (m : zM) : Option zSt := match S with
  | (0, x) :: (6, _) :: t => if k = 0 ∧ 0 ≤ x ∧ x < Lz then some (q, L, (0, (zs x.toNat).toInt) :: t, m) else none
  | _ => none
def zo_alen (Lz k q : Nat) (L S : List zV) (m : zM) : Option zSt := match S with
  | (2, r) :: t => if zHd r.toNat % 8 = 1 ∧ zHd r.toNat < 17179869184 then some (q, L, (0, zLen r.toNat) :: t, m) else none
  | (6, _) :: t => if k = 0 ∧ Lz < 2147483648 then some (q, L, (0, Lz) :: t, m) else none
  | _ => none
def zo_tsw (i : Instr) (pc : Nat) (L S : List zV) (m : zM) : Option zSt := match i with
  | .tableswitch df lo hi offs => (match S with
    | (0, x) :: t => if x < lo ∨ hi < x then (if 0 ≤ (pc : Int) + df then some (((pc : Int) + df).toNat, L, t, m) else none) else (match offs[(x - lo).toNat]? with
      | none => none
      | some off => if 0 ≤ (pc : Int) + off then some (((pc : Int) + off).toNat, L, t, m) else none)
    | _ => none)
  | _ => none
def zo_lsw (i : Instr) (pc : Nat) (L S : List zV) (m : zM) : Option zSt := match i with
  | .lookupswitch df ps => (match S with
    | (0, x) :: t => if 0 ≤ (pc : Int) + Op.lookupswitch.offset ps.toList df x then some (((pc : Int) + Op.lookupswitch.offset ps.toList df x).toNat, L, t, m) else none
    | _ => none)
  | _ => none
def zo_acopy (d q : Nat) (L S : List zV) (m : zM) : Option zSt := match S with
  | (0, n) :: (0, dp) :: (2, dst) :: (0, sp) :: (2, src) :: t => if 0 ≤ n ∧ 0 ≤ dp ∧ 0 ≤ sp ∧ zCats t ≤ 8 ∧ 0 < d ∧ dst.toNat ≠ src.toNat ∧ zHd dst.toNat % 8 = 1 ∧ zHd src.toNat % 8 = 1 ∧ dp + n ≤ zLen dst.toNat ∧ sp + n ≤ zLen src.toNat then some (q, L, t, zCp m dst.toNat dp.toNat src.toNat sp.toNat n.toNat) else none
  | _ => none
def zo_pop (q : Nat) (L S : List zV) (m : zM) : Option zSt := match S with
  | v :: t => if zCat v = 1 then some (q, L, t, m) else none
  | _ => none
def zo_pop2 (q : Nat) (L S : List zV) (m : zM) : Option zSt := match S with
  | v :: t => if zCat v = 2 then some (q, L, t, m) else none
  | _ => none
def zo_mi2 (g : Int32 → Int32 → Int32) (d q : Nat) (L S : List zV) (m : zM) : Option zSt := match S with
  | (0, y) :: (0, x) :: t => if zCats t ≤ 8 ∧ 0 < d then some (q, L, (0, (g (Int32.ofInt x) (Int32.ofInt y)).toInt) :: t, m) else none
  | _ => none
def zo_mi1 (g : Int32 → Int32) (d q : Nat) (L S : List zV) (m : zM) : Option zSt := match S with
  | (0, x) :: t => if zCats t ≤ 8 ∧ 0 < d then some (q, L, (0, (g (Int32.ofInt x)).toInt) :: t, m) else none
  | _ => none
def zo_ml2 (g : Int64 → Int64 → Int64) (d q : Nat) (L S : List zV) (m : zM) : Option zSt := match S with
  | (1, y) :: (1, x) :: t => if zCats t ≤ 8 ∧ 0 < d then some (q, L, (1, (g (Int64.ofInt x) (Int64.ofInt y)).toInt) :: t, m) else none
  | _ => none
def zo_ml1 (g : Int64 → Int64) (d q : Nat) (L S : List zV) (m : zM) : Option zSt := match S with
  | (1, x) :: t => if zCats t ≤ 8 ∧ 0 < d then some (q, L, (1, (g (Int64.ofInt x)).toInt) :: t, m) else none
  | _ => none
def zln (o : Nat) : Nat := match o with
  | 1 => 2
  | 2 => 3
  | 4 => 2
  | 6 => 2
  | 8 => 2
  | 10 => 2
  | 12 => 2
  | 14 => 2
  | 15 => 3
  | 40 => 3
  | 41 => 3
  | 46 => 3
  | 47 => 3
  | 105 => 3
  | 107 => 3
  | 114 => 3
  | 120 => 3
  | 121 => 3
  | 122 => 3
  | 123 => 3
  | 124 => 3
  | 125 => 3
  | _ => 1
def zPure (Lz : Nat) (zs : Nat → Int32) (d k o : Nat) (i : Instr) (pc q a1 a2 : Nat) (L S : List zV) (m : zM) : Option zSt := match o with
  | 0 => zo_push q a1 L S m
  | 1 => zo_push q a1 L S m
  | 2 => zo_push q a1 L S m
  | 3 => zo_ild q a1 L S m
  | 4 => zo_ild q a1 L S m
  | 5 => zo_lld q a1 L S m
  | 6 => zo_lld q a1 L S m
  | 7 => zo_ald q a1 L S m
  | 8 => zo_ald q a1 L S m
  | 9 => zo_ist q a1 L S m
  | 10 => zo_ist q a1 L S m
  | 11 => zo_ast q a1 L S m
  | 12 => zo_ast q a1 L S m
  | 13 => zo_lst q a1 L S m
  | 14 => zo_lst q a1 L S m
  | 15 => zo_iinc q a1 a2 L S m
  | 16 => zo_i2 (fun x y => x + y) q L S m
  | 17 => zo_i2 (fun x y => x - y) q L S m
  | 18 => zo_i2 (fun x y => x * y) q L S m
  | 19 => zo_i2z (fun x y => x / y) q L S m
  | 20 => zo_i2z (fun x y => x - x / y * y) q L S m
  | 21 => zo_i2 (fun x y => x &&& y) q L S m
  | 22 => zo_i2 (fun x y => x ||| y) q L S m
  | 23 => zo_i2 (fun x y => x ^^^ y) q L S m
  | 24 => zo_i2 (fun x y => x <<< (y &&& 31)) q L S m
  | 25 => zo_i2 (fun x y => x >>> (y &&& 31)) q L S m
  | 26 => zo_i2 (fun x y => (x.toUInt32 >>> (y.toUInt32 &&& Int32.toUInt32 31)).toInt32) q L S m
  | 27 => zo_l2 (fun x y => x + y) q L S m
  | 28 => zo_l2 (fun x y => x - y) q L S m
  | 29 => zo_l2 (fun x y => x * y) q L S m
  | 30 => zo_l2 (fun x y => x &&& y) q L S m
  | 31 => zo_l2 (fun x y => x ||| y) q L S m
  | 32 => zo_l2 (fun x y => x ^^^ y) q L S m
  | 33 => zo_li (fun x y => x <<< (y.toInt64 &&& 63)) q L S m
  | 34 => zo_li (fun x y => x >>> (y.toInt64 &&& 63)) q L S m
  | 35 => zo_li (fun x y => (x.toUInt64 >>> (y.toInt64.toUInt64 &&& Int64.toUInt64 63)).toInt64) q L S m
  | 36 => zo_i2l q L S m
  | 37 => zo_l2i q L S m
  | 38 => zo_ineg q L S m
  | 39 => zo_lcmp q L S m
  | 40 => zo_ifC q a1 a2 L S m
  | 41 => zo_icmp q a1 a2 L S m
  | 42 => some (a1, L, S, m)
  | 43 => zo_dup q L S m
  | 44 => zo_dup_x1 q L S m
  | 45 => zo_dup2 q L S m
  | 46 => zo_getf q a1 a2 L S m
  | 47 => zo_putf q a1 a2 L S m
  | 48 => zo_iald q L S m
  | 49 => zo_iast q L S m
  | 50 => zo_lald q L S m
  | 51 => zo_last q L S m
  | 52 => zo_bald q L S m
  | 53 => zo_bast q L S m
  | 54 => zo_aald q L S m
  | 100 => zo_sld Lz zs k q L S m
  | 101 => zo_alen Lz k q L S m
  | 111 => zo_tsw i pc L S m
  | 112 => zo_lsw i pc L S m
  | 114 => zo_acopy d q L S m
  | 115 => zo_pop q L S m
  | 116 => zo_pop2 q L S m
  | 117 => zo_lneg q L S m
  | 118 => zo_l2z (fun x y => x / y) q L S m
  | 119 => zo_l2z (fun x y => x - x / y * y) q L S m
  | 120 => zo_mi2 (fun x y => if x < y then y else x) d q L S m
  | 121 => zo_mi2 (fun x y => if y < x then y else x) d q L S m
  | 122 => zo_mi1 (fun x => if 0 ≤ x then x else 0 - x) d q L S m
  | 123 => zo_ml2 (fun x y => if y < x then x else y) d q L S m
  | 124 => zo_ml2 (fun x y => if y < x then y else x) d q L S m
  | 125 => zo_ml1 (fun x => if 0 < x then x else -x) d q L S m
  | _ => none
abbrev zRw : Type := Nat × Instr × Nat × Nat × Nat
def zRow (M : Nat → Option xMt) (k pc : Nat) : Option zRw := match M k with
  | none => none
  | some (_, _, _, _, _, _, _, _, code) => match code pc with
    | none => none
    | some (o, i, _, a1, a2, _) => some (o, i, pc + zln o, a1, a2)
/-- a method's locals, answer, parameters -/
def zMt (M : Nat → Option xMt) (k : Nat) : Option (Nat × Option FieldType × Nat × Nat × Nat) := match M k with
  | none => none
  | some (_, _, _, maxL, rt, na, mc, ms, _) => some (maxL, rt, na, mc, ms)
def zRet (rt : Option FieldType) (o : Nat) (S : List zV) : Option zV := match o, S, rt with
  | 108, [(0, v)], some .int => some (0, v)
  | 108, [(0, v)], some .boolean => if v = 0 ∨ v = 1 then some (0, v) else none
  | 109, [(1, v)], some .long => some (1, v)
  | 110, [], none => some (9, 0)
  | _, _, _ => none
def zRc (o a2 : Nat) (q : zV) : Bool := bif Nat.beq o 105 then Nat.beq q.1 2 && Nat.beq (zHd q.2.toNat) (8 * a2 + 2) else Nat.beq o 107
/-- the plain machine, at f steps and d frames -/
def zRun (M : Nat → Option xMt) (Lz : Nat) (zs : Nat → Int32) : Nat → Nat → Nat → Nat → List zV → List zV → zM → Option (zV × zM)
  | 0, _, _, _, _, _, _ => none
  | f + 1, d, k, pc, L, S, m => match zRow M k pc with
    | none => none
    | some (o, i, q, a1, a2) =>
      if o = 105 ∨ o = 107 then (match zMt M a1 with
        | some (maxL, _, na, 0, 0) => if na ≤ S.length ∧ zCats (S.drop na) ≤ 8 ∧ 0 < d ∧ zCats (S.take na).reverse ≤ maxL ∧ zRc o a2 (zG (S.take na).reverse 0) = true ∧ a1 ≠ 0 then
            (match zRun M Lz zs f (d - 1) a1 0 (zEnt (S.take na).reverse maxL) [] m with
              | none => none
              | some (v, m') => zRun M Lz zs f d k q L (if v.1 = 9 then S.drop na else v :: S.drop na) m') else none
        | _ => none)
      else if o = 108 ∨ o = 109 ∨ o = 110 then (match zMt M k with
        | none => none
        | some (_, rt, _, _, _) => match zRet rt o S with
          | none => none
          | some v => some (v, m))
      else match zPure Lz zs d k o i pc q a1 a2 L S m with
        | none => none
        | some (pc', L', S', m') => zRun M Lz zs f d k pc' L' S' m'
