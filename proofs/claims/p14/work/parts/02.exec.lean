/-! THE EXECUTOR: a run of the machine over numbers, made to be worked out by the kernel; its soundness stands in the next parts.
A value is a number: c % 8 its tag, c / 8 its load. 0 int, 1 long, 2 the cell at a place of the world, 3 null (11: a local that holds nothing known), 4 an int of the script (by its place), 5 the same as long, 6 the script itself, 7 an int of the script as long and one more.
A cell is a number: its last 64 bits say what it is (8 ci + 2: an object of class ci; 1 + 2 ty + 8 len: an array), then digits of 72 bits. -/
noncomputable def xF {α : Type} (n : Nat) (k : Nat → α) : α := Nat.rec (motive := fun _ => α) (k 0) (fun m _ => k (Nat.succ m)) n
noncomputable def xGet (l : List Nat) : Nat → Nat := List.rec (motive := fun _ => Nat → Nat) (fun _ => 0) (fun a _ ih i => Nat.rec (motive := fun _ => Nat) a (fun j _ => ih j) i) l
noncomputable def xSet {α : Type} (l : List Nat) : Nat → Nat → (List Nat → α) → α := List.rec (motive := fun _ => Nat → Nat → (List Nat → α) → α) (fun _ _ k => k []) (fun a t ih i v k => Nat.rec (motive := fun _ => α) (k (v :: t)) (fun j _ => ih j v (fun t' => k (a :: t'))) i) l
noncomputable def xSnoc {α : Type} (l : List Nat) (c : Nat) : (List Nat → α) → α := List.rec (motive := fun _ => (List Nat → α) → α) (fun k => k [c]) (fun a _ ih k => ih (fun t' => k (a :: t'))) l
noncomputable def xLen (l : List Nat) : Nat := List.rec (motive := fun _ => Nat) 0 (fun _ _ ih => Nat.succ ih) l
/-- n digits from the i-th on; and others in their place -/
def xDn (c i n : Nat) : Nat := c / 2 ^ (64 + 72 * i) % 2 ^ (72 * n)
def xPn (c i n v : Nat) : Nat := c + v * 2 ^ (64 + 72 * i) - xDn c i n * 2 ^ (64 + 72 * i)
abbrev xEv : Type := List (Int × Int)
abbrev xRow : Type := Nat × Instr × Nat × Nat × Nat × Nat
abbrev xOut : Type := Nat × Nat × List Nat × xEv × Nat × Nat
abbrev xRes : Type := Option (List xOut)
abbrev xKt : Type := Nat → List Nat → List Nat → List Nat → Nat → Nat → xEv → xRes
/-- a method: its class, its name, its bytes, its locals, what it returns, its parameters (the object too), its cells and slots, its code -/
abbrev xMt : Type := String × MethodName × ByteArray × Nat × Option FieldType × Nat × Nat × Nat × (Nat → Option xRow)
def xApp (a b : xRes) : xRes := match a with
  | none => none
  | some x => match b with
    | none => none
    | some y => some (x ++ y)
def xTri0 (env : xEv) (s : Nat) (c : Int) (f : Int → xEv → xRes) : xRes := match env[s]? with
  | none => none
  | some (lo, hi) => xApp (if lo < c then f (-1) (env.set s (lo, min hi (c - 1))) else some []) (xApp (if lo ≤ c ∧ c ≤ hi then f 0 (env.set s (c, c)) else some []) (if c < hi then f 1 (env.set s (max lo (c + 1), hi)) else some []))
/-- unknown 7 is unknown 3 less unknown 2 -/
def xTight (s : Nat) (env : xEv) : xEv := bif Nat.beq s 7 then (match env[2]? with
  | none => env
  | some (l2, h2) => match env[3]? with
    | none => env
    | some (l3, h3) => match env[7]? with
      | none => env
      | some (l7, h7) => env.set 7 (max l7 (l3 - h2), min h7 (h3 - l2))) else env
def xTri (env : xEv) (s : Nat) (c : Int) (f : Int → xEv → xRes) : xRes := xTri0 (xTight s env) s c f
noncomputable def xForkN (f : Int → xRes) (n : Nat) : Int → xRes := Nat.rec (motive := fun _ => Int → xRes) (fun _ => some []) (fun _ ih lo => xApp (f lo) (ih (lo + 1))) n
noncomputable def xConc (env : xEv) (s : Nat) (f : Int → xEv → xRes) : xRes := match env[s]? with
  | none => none
  | some (lo, hi) => if hi - lo ≤ 200 then xForkN (fun v => f v (env.set s (v, v))) (hi - lo + 1).toNat lo else none
def xCI (v : Int) : Nat := (v % 4294967296).toNat * 8
noncomputable def xC0 (env : xEv) (y : Nat) (k : Nat → xEv → xRes) : xRes := bif Nat.beq (y / 8) 7 then none else xConc env (y / 8) (fun v e' => xF (xCI v) (fun y' => k y' e'))
def xIsI (v : Nat) : Bool := Nat.beq (v % 8) 0 || Nat.beq (v % 8) 4
def xIsL (v : Nat) : Bool := Nat.beq (v % 8) 1 || Nat.beq (v % 8) 5 || Nat.beq (v % 8) 7
def xIsR (v : Nat) : Bool := Nat.beq (v % 8) 2 || Nat.beq (v % 8) 6
def xCat (v : Nat) : Nat := bif xIsL v then 2 else 1
/-- signed, set up by half the range -/
def xb32 (u : Nat) : Nat := (u + 2147483648) % 4294967296
def xb64 (u : Nat) : Nat := (u + 9223372036854775808) % 18446744073709551616
/-- the sign of a less b: 0 less, 1 alike, 2 more -/
def xSg (a b : Nat) : Nat := bif Nat.blt a b then 0 else bif Nat.blt b a then 2 else 1
def xSgI (sg : Int) : Nat := if sg < 0 then 0 else if sg = 0 then 1 else 2
/-- conditions: 0 lt, 1 eq, 2 gt, 3 ge, 4 ne, 5 le -/
def xHo (op sg : Nat) : Bool := bif Nat.blt op 3 then Nat.beq op sg else !(Nat.beq (op - 3) sg)
def xs32 (u : Nat) : Int := (xb32 u : Int) - 2147483648
def xs64 (u : Nat) : Int := (xb64 u : Int) - 9223372036854775808
/-- left a, right b: which unknown against which number -/
def xRelI (a b : Nat) : Option (Nat × Int) := bif Nat.beq (a / 8) 7 then none else bif Nat.beq (a % 8) 4 && Nat.beq (b % 8) 0 then some (a / 8, xs32 (b / 8)) else bif Nat.beq a 28 && Nat.beq b 20 then some (7, 0) else none
def xRelL (a b : Nat) : Option (Nat × Int) := bif Nat.beq (a / 8) 7 then none else bif Nat.beq (a % 8) 5 && Nat.beq (b % 8) 1 then some (a / 8, xs64 (b / 8)) else bif Nat.beq a 29 && Nat.beq b 23 then some (7, 1) else none
noncomputable def xI2 (S : List Nat) (env : xEv) (f : Nat → Nat → Nat) (k : List Nat → xRes) (re : List Nat → xEv → xRes) : xRes := match S with
  | y :: x :: r => bif Nat.beq (x % 8) 0 && Nat.beq (y % 8) 0 then xF (f (x / 8) (y / 8) * 8) (fun z => k (z :: r)) else bif Nat.beq (y % 8) 4 then xC0 env y (fun y' e' => re (y' :: x :: r) e') else bif Nat.beq (x % 8) 4 then xC0 env x (fun x' e' => re (y :: x' :: r) e') else none
  | _ => none
noncomputable def xL2 (S : List Nat) (f : Nat → Nat → Nat) (k : List Nat → xRes) : xRes := match S with
  | y :: x :: r => bif Nat.beq (x % 8) 1 && Nat.beq (y % 8) 1 then xF (f (x / 8) (y / 8) * 8 + 1) (fun z => k (z :: r)) else none
  | _ => none
/-- a long and an int above it: shifts -/
noncomputable def xLI (S : List Nat) (f : Nat → Nat → Nat) (k : List Nat → xRes) : xRes := match S with
  | y :: x :: r => bif Nat.beq (x % 8) 1 && Nat.beq (y % 8) 0 then xF (f (x / 8) (y / 8) * 8 + 1) (fun z => k (z :: r)) else none
  | _ => none
def xN32 (x : Int32) : Nat := x.toBitVec.toNat
def xN64 (x : Int64) : Nat := x.toBitVec.toNat
/-- a store into a local: what stood ahead of it as a long is gone -/
noncomputable def xStL (L : List Nat) (i v : Nat) (k : List Nat → xRes) : xRes := match i with
  | 0 => xSet L 0 v k
  | j + 1 => bif xIsL (xGet L j) then xSet L j 11 (fun L1 => xSet L1 (j + 1) v k) else xSet L (j + 1) v k
/-- all refs of the list stand below n -/
noncomputable def xWfL (n : Nat) (l : List Nat) : Bool := List.rec (motive := fun _ => Bool) true (fun a _ ih => (bif Nat.beq (a % 8) 2 then Nat.blt (a / 8) n else true) && ih) l
noncomputable def xWfD (n c : Nat) (m : Nat) : Bool := Nat.rec (motive := fun _ => Bool) true (fun j ih => (bif Nat.beq (xDn c j 1 % 8) 2 then Nat.blt (xDn c j 1 / 8) n else true) && ih) m
noncomputable def xWfQ (n c : Nat) (m : Nat) : Bool := Nat.rec (motive := fun _ => Bool) true (fun j ih => Nat.ble (xDn c j 1) n && ih) m
/-- how many fields an object of class ci has -/
def xNf (ci : Nat) : Nat := match vwCl[ci]? with
  | some q => q.2.2
  | none => 0
/-- a cell's refs stand below n -/
noncomputable def xWfC (n c : Nat) : Bool := bif Nat.beq (c % 2) 0 then xWfD n c (xNf (c % 18446744073709551616 / 8)) else bif Nat.beq (c % 8) 7 then xWfQ n c (c % 18446744073709551616 / 8) else true
noncomputable def xWfW (n : Nat) (l : List Nat) : Bool := List.rec (motive := fun _ => Bool) true (fun a _ ih => xWfC n a && ih) l
/-- the first n of a stack, turned round, and the rest -/
noncomputable def xTk {α : Type} (n : Nat) : List Nat → List Nat → (List Nat → List Nat → α) → α → α := Nat.rec (motive := fun _ => List Nat → List Nat → (List Nat → List Nat → α) → α → α) (fun S acc k _ => k acc S) (fun _ ih S acc k z => List.rec (motive := fun _ => α) z (fun a t _ => ih t (a :: acc) k z) S) n
noncomputable def xPad {α : Type} (n : Nat) : (List Nat → α) → α := Nat.rec (motive := fun _ => (List Nat → α) → α) (fun k => k []) (fun _ ih k => ih (fun t => k (11 :: t))) n
/-- a method's locals at its start: n in all -/
noncomputable def xEnt {α : Type} (as : List Nat) : Nat → (List Nat → α) → α := List.rec (motive := fun _ => Nat → (List Nat → α) → α) (fun n k => xPad n k) (fun a _ ih n k => bif xIsL a then ih (n - 2) (fun t => k (a :: 11 :: t)) else ih (n - 1) (fun t => k (a :: t))) as
noncomputable def xCats (l : List Nat) : Nat := List.rec (motive := fun _ => Nat) 0 (fun a _ ih => Nat.add (xCat a) ih) l
noncomputable def xOuts (l : List xOut) (f : xOut → xRes) : xRes := match l with
  | [] => some []
  | o :: t => match t with
    | [] => f o
    | _ => List.rec (motive := fun _ => xRes) (some []) (fun a _ ih => xApp (f a) ih) l
def xTyOf (ci : Nat) : Nat → FieldType := match ci with
  | 0 => tyX1
  | 1 => tyX2
  | 2 => tyX3
  | 3 => tyX4
  | 4 => tyX5
  | 5 => tyX6
  | 6 => tyX7
  | 7 => tyX8
  | 8 => tyX9
  | _ => tyX10
def xFit (ty : FieldType) (v : Nat) : Bool := match ty with
  | .int => xIsI v
  | .long => xIsL v
  | .object _ => xIsR v || Nat.beq v 3
  | .array _ => xIsR v || Nat.beq v 3
  | _ => false
def xDefT (ty : FieldType) : Nat := match ty with
  | .int => 0
  | .long => 1
  | _ => 3
noncomputable def xDefO (ci : Nat) (n : Nat) : Nat := Nat.rec (motive := fun _ => Nat) (8 * ci + 2) (fun j ih => ih + xDefT (xTyOf ci j) * 2 ^ (64 + 72 * j)) n
def xAty (t : ArrayType) : Nat := match t with
  | .int => 0
  | .long => 1
  | .boolean => 2
  | _ => 9
noncomputable def xCall (M : Nat → Option xMt) (ih : Nat → (Nat → Option xRow) → Nat → Nat → Option FieldType → Nat → xKt) (mc ms d : Nat) (K : xKt) (k' : Nat) (rc : Nat → Bool) (pc : Nat) (L S Wd : List Nat) (cc cs : Nat) (env : xEv) : xRes := match M k' with
  | none => none
  | some (_, _, _, maxL, rt, na, mc', ms', code) => xTk na S [] (fun as r =>
      bif Nat.ble (xCats r) 8 && Nat.ble (cc + mc') mc && Nat.ble (cs + ms') ms && Nat.blt 0 d && Nat.ble (xCats as) maxL && rc (xGet as 0) then
        xEnt as maxL (fun L0 => match ih k' code mc' ms' rt (d - 1) 0 L0 [] Wd 0 0 env with
          | none => none
          | some outs => xOuts outs (fun o => match o with
            | (_, v, W', e', _, _) => bif Nat.beq (xLen W') (xLen Wd) || (xWfL (xLen Wd) L && xWfL (xLen Wd) r) then
                xF (pc + 3) (fun q => xF (cc + mc') (fun cc' => xF (cs + ms') (fun cs' => K q L (bif Nat.beq v 11 then r else v :: r) W' cc' cs' e'))) else none))
      else none) none
noncomputable def xo_push1 (K : xKt) (a1 a2 pc : Nat) (L S Wd : List Nat) (cc cs : Nat) (env : xEv) : xRes := xF (pc + 1) (fun q => K q L (a1 :: S) Wd cc cs env)
noncomputable def xo_push2 (K : xKt) (a1 a2 pc : Nat) (L S Wd : List Nat) (cc cs : Nat) (env : xEv) : xRes := xF (pc + 2) (fun q => K q L (a1 :: S) Wd cc cs env)
noncomputable def xo_push3 (K : xKt) (a1 a2 pc : Nat) (L S Wd : List Nat) (cc cs : Nat) (env : xEv) : xRes := xF (pc + 3) (fun q => K q L (a1 :: S) Wd cc cs env)
noncomputable def xo_iload1 (K : xKt) (a1 a2 pc : Nat) (L S Wd : List Nat) (cc cs : Nat) (env : xEv) : xRes := xF (xGet L a1) (fun v => bif xIsI v && Nat.blt a1 (xLen L) then xF (pc + 1) (fun q => K q L (v :: S) Wd cc cs env) else none)
noncomputable def xo_iload2 (K : xKt) (a1 a2 pc : Nat) (L S Wd : List Nat) (cc cs : Nat) (env : xEv) : xRes := xF (xGet L a1) (fun v => bif xIsI v && Nat.blt a1 (xLen L) then xF (pc + 2) (fun q => K q L (v :: S) Wd cc cs env) else none)
noncomputable def xo_lload1 (K : xKt) (a1 a2 pc : Nat) (L S Wd : List Nat) (cc cs : Nat) (env : xEv) : xRes := xF (xGet L a1) (fun v => bif xIsL v then xF (pc + 1) (fun q => K q L (v :: S) Wd cc cs env) else none)
noncomputable def xo_lload2 (K : xKt) (a1 a2 pc : Nat) (L S Wd : List Nat) (cc cs : Nat) (env : xEv) : xRes := xF (xGet L a1) (fun v => bif xIsL v then xF (pc + 2) (fun q => K q L (v :: S) Wd cc cs env) else none)
noncomputable def xo_aload1 (K : xKt) (a1 a2 pc : Nat) (L S Wd : List Nat) (cc cs : Nat) (env : xEv) : xRes := xF (xGet L a1) (fun v => bif xIsR v then xF (pc + 1) (fun q => K q L (v :: S) Wd cc cs env) else none)
noncomputable def xo_aload2 (K : xKt) (a1 a2 pc : Nat) (L S Wd : List Nat) (cc cs : Nat) (env : xEv) : xRes := xF (xGet L a1) (fun v => bif xIsR v then xF (pc + 2) (fun q => K q L (v :: S) Wd cc cs env) else none)
noncomputable def xo_istore1 (K : xKt) (a1 a2 pc : Nat) (L S Wd : List Nat) (cc cs : Nat) (env : xEv) : xRes := match S with
    | v :: r => bif xIsI v && Nat.blt a1 (xLen L) then xStL L a1 v (fun L1 => xF (pc + 1) (fun q => K q L1 r Wd cc cs env)) else none
    | [] => none
noncomputable def xo_istore2 (K : xKt) (a1 a2 pc : Nat) (L S Wd : List Nat) (cc cs : Nat) (env : xEv) : xRes := match S with
    | v :: r => bif xIsI v && Nat.blt a1 (xLen L) then xStL L a1 v (fun L1 => xF (pc + 2) (fun q => K q L1 r Wd cc cs env)) else none
    | [] => none
noncomputable def xo_astore1 (K : xKt) (a1 a2 pc : Nat) (L S Wd : List Nat) (cc cs : Nat) (env : xEv) : xRes := match S with
    | v :: r => bif xIsR v && Nat.blt a1 (xLen L) then xStL L a1 v (fun L1 => xF (pc + 1) (fun q => K q L1 r Wd cc cs env)) else none
    | [] => none
noncomputable def xo_astore2 (K : xKt) (a1 a2 pc : Nat) (L S Wd : List Nat) (cc cs : Nat) (env : xEv) : xRes := match S with
    | v :: r => bif xIsR v && Nat.blt a1 (xLen L) then xStL L a1 v (fun L1 => xF (pc + 2) (fun q => K q L1 r Wd cc cs env)) else none
    | [] => none
noncomputable def xo_lstore1 (K : xKt) (a1 a2 pc : Nat) (L S Wd : List Nat) (cc cs : Nat) (env : xEv) : xRes := match S with
    | v :: r => bif xIsL v && Nat.blt (a1 + 1) (xLen L) then xStL L a1 v (fun L1 => xSet L1 (a1 + 1) 11 (fun L2 => xF (pc + 1) (fun q => K q L2 r Wd cc cs env))) else none
    | [] => none
noncomputable def xo_lstore2 (K : xKt) (a1 a2 pc : Nat) (L S Wd : List Nat) (cc cs : Nat) (env : xEv) : xRes := match S with
    | v :: r => bif xIsL v && Nat.blt (a1 + 1) (xLen L) then xStL L a1 v (fun L1 => xSet L1 (a1 + 1) 11 (fun L2 => xF (pc + 2) (fun q => K q L2 r Wd cc cs env))) else none
    | [] => none
noncomputable def xo_iinc (K : xKt) (a1 a2 pc : Nat) (L S Wd : List Nat) (cc cs : Nat) (env : xEv) : xRes := xF (xGet L a1) (fun v => bif Nat.beq (v % 8) 0 && Nat.blt a1 (xLen L) then xF ((v / 8 + a2) % 4294967296 * 8) (fun v' => xStL L a1 v' (fun L1 => xF (pc + 3) (fun q => K q L1 S Wd cc cs env))) else none)
noncomputable def xo_iadd (K : xKt) (a1 a2 pc : Nat) (L S Wd : List Nat) (cc cs : Nat) (env : xEv) : xRes := xI2 S env (fun x y => (x + y) % 4294967296) (fun S' => xF (pc + 1) (fun q => K q L S' Wd cc cs env)) (fun S' e' => K pc L S' Wd cc cs e')
noncomputable def xo_isub (K : xKt) (a1 a2 pc : Nat) (L S Wd : List Nat) (cc cs : Nat) (env : xEv) : xRes := xI2 S env (fun x y => (x + 4294967296 - y % 4294967296) % 4294967296) (fun S' => xF (pc + 1) (fun q => K q L S' Wd cc cs env)) (fun S' e' => K pc L S' Wd cc cs e')
noncomputable def xo_imul (K : xKt) (a1 a2 pc : Nat) (L S Wd : List Nat) (cc cs : Nat) (env : xEv) : xRes := xI2 S env (fun x y => (x * y) % 4294967296) (fun S' => xF (pc + 1) (fun q => K q L S' Wd cc cs env)) (fun S' e' => K pc L S' Wd cc cs e')
noncomputable def xo_idiv (K : xKt) (a1 a2 pc : Nat) (L S Wd : List Nat) (cc cs : Nat) (env : xEv) : xRes := xI2 S env (fun x y => xN32 (nI x / nI y)) (fun S' => bif Nat.beq (xGet S 0 / 8 % 4294967296) 0 then none else xF (pc + 1) (fun q => K q L S' Wd cc cs env)) (fun S' e' => K pc L S' Wd cc cs e')
noncomputable def xo_irem (K : xKt) (a1 a2 pc : Nat) (L S Wd : List Nat) (cc cs : Nat) (env : xEv) : xRes := xI2 S env (fun x y => xN32 (nI x - nI x / nI y * nI y)) (fun S' => bif Nat.beq (xGet S 0 / 8 % 4294967296) 0 then none else xF (pc + 1) (fun q => K q L S' Wd cc cs env)) (fun S' e' => K pc L S' Wd cc cs e')
noncomputable def xo_iand (K : xKt) (a1 a2 pc : Nat) (L S Wd : List Nat) (cc cs : Nat) (env : xEv) : xRes := xI2 S env (fun x y => xN32 (nI x &&& nI y)) (fun S' => xF (pc + 1) (fun q => K q L S' Wd cc cs env)) (fun S' e' => K pc L S' Wd cc cs e')
noncomputable def xo_ior (K : xKt) (a1 a2 pc : Nat) (L S Wd : List Nat) (cc cs : Nat) (env : xEv) : xRes := xI2 S env (fun x y => xN32 (nI x ||| nI y)) (fun S' => xF (pc + 1) (fun q => K q L S' Wd cc cs env)) (fun S' e' => K pc L S' Wd cc cs e')
noncomputable def xo_ixor (K : xKt) (a1 a2 pc : Nat) (L S Wd : List Nat) (cc cs : Nat) (env : xEv) : xRes := xI2 S env (fun x y => xN32 (nI x ^^^ nI y)) (fun S' => xF (pc + 1) (fun q => K q L S' Wd cc cs env)) (fun S' e' => K pc L S' Wd cc cs e')
noncomputable def xo_ishl (K : xKt) (a1 a2 pc : Nat) (L S Wd : List Nat) (cc cs : Nat) (env : xEv) : xRes := xI2 S env (fun x y => xN32 (nI x <<< (nI y &&& 31))) (fun S' => xF (pc + 1) (fun q => K q L S' Wd cc cs env)) (fun S' e' => K pc L S' Wd cc cs e')
noncomputable def xo_ishr (K : xKt) (a1 a2 pc : Nat) (L S Wd : List Nat) (cc cs : Nat) (env : xEv) : xRes := xI2 S env (fun x y => xN32 (nI x >>> (nI y &&& 31))) (fun S' => xF (pc + 1) (fun q => K q L S' Wd cc cs env)) (fun S' e' => K pc L S' Wd cc cs e')
noncomputable def xo_iushr (K : xKt) (a1 a2 pc : Nat) (L S Wd : List Nat) (cc cs : Nat) (env : xEv) : xRes := xI2 S env (fun x y => xN32 ((nI x).toUInt32 >>> ((nI y).toUInt32 &&& Int32.toUInt32 31)).toInt32) (fun S' => xF (pc + 1) (fun q => K q L S' Wd cc cs env)) (fun S' e' => K pc L S' Wd cc cs e')
noncomputable def xo_ladd (K : xKt) (a1 a2 pc : Nat) (L S Wd : List Nat) (cc cs : Nat) (env : xEv) : xRes := match S with
    | y :: x :: r => bif Nat.beq y 9 && Nat.beq x 21 then xF (pc + 1) (fun q => K q L (23 :: r) Wd cc cs env) else xL2 S (fun x y => (x + y) % 18446744073709551616) (fun S' => xF (pc + 1) (fun q => K q L S' Wd cc cs env))
    | _ => none
noncomputable def xo_lsub (K : xKt) (a1 a2 pc : Nat) (L S Wd : List Nat) (cc cs : Nat) (env : xEv) : xRes := xL2 S (fun x y => xN64 (lN x - lN y)) (fun S' => xF (pc + 1) (fun q => K q L S' Wd cc cs env))
noncomputable def xo_lmul (K : xKt) (a1 a2 pc : Nat) (L S Wd : List Nat) (cc cs : Nat) (env : xEv) : xRes := xL2 S (fun x y => (x * y) % 18446744073709551616) (fun S' => xF (pc + 1) (fun q => K q L S' Wd cc cs env))
noncomputable def xo_land (K : xKt) (a1 a2 pc : Nat) (L S Wd : List Nat) (cc cs : Nat) (env : xEv) : xRes := xL2 S (fun x y => xN64 (lN x &&& lN y)) (fun S' => xF (pc + 1) (fun q => K q L S' Wd cc cs env))
noncomputable def xo_lor (K : xKt) (a1 a2 pc : Nat) (L S Wd : List Nat) (cc cs : Nat) (env : xEv) : xRes := xL2 S (fun x y => xN64 (lN x ||| lN y)) (fun S' => xF (pc + 1) (fun q => K q L S' Wd cc cs env))
noncomputable def xo_lxor (K : xKt) (a1 a2 pc : Nat) (L S Wd : List Nat) (cc cs : Nat) (env : xEv) : xRes := xL2 S (fun x y => xN64 (lN x ^^^ lN y)) (fun S' => xF (pc + 1) (fun q => K q L S' Wd cc cs env))
noncomputable def xo_lshl (K : xKt) (a1 a2 pc : Nat) (L S Wd : List Nat) (cc cs : Nat) (env : xEv) : xRes := xLI S (fun x y => xN64 (lN x <<< ((nI y).toInt64 &&& 63))) (fun S' => xF (pc + 1) (fun q => K q L S' Wd cc cs env))
noncomputable def xo_lshr (K : xKt) (a1 a2 pc : Nat) (L S Wd : List Nat) (cc cs : Nat) (env : xEv) : xRes := xLI S (fun x y => xN64 (lN x >>> ((nI y).toInt64 &&& 63))) (fun S' => xF (pc + 1) (fun q => K q L S' Wd cc cs env))
noncomputable def xo_lushr (K : xKt) (a1 a2 pc : Nat) (L S Wd : List Nat) (cc cs : Nat) (env : xEv) : xRes := xLI S (fun x y => xN64 ((lN x).toUInt64 >>> ((nI y).toInt64.toUInt64 &&& Int64.toUInt64 63)).toInt64) (fun S' => xF (pc + 1) (fun q => K q L S' Wd cc cs env))
noncomputable def xo_i2l (K : xKt) (a1 a2 pc : Nat) (L S Wd : List Nat) (cc cs : Nat) (env : xEv) : xRes := match S with
    | x :: r => bif Nat.beq (x % 8) 0 then xF (xN64 (nI (x / 8)).toInt64 * 8 + 1) (fun z => xF (pc + 1) (fun q => K q L (z :: r) Wd cc cs env)) else bif Nat.beq (x % 8) 4 then xF (x + 1) (fun z => xF (pc + 1) (fun q => K q L (z :: r) Wd cc cs env)) else none
    | _ => none
noncomputable def xo_l2i (K : xKt) (a1 a2 pc : Nat) (L S Wd : List Nat) (cc cs : Nat) (env : xEv) : xRes := match S with
    | x :: r => bif Nat.beq (x % 8) 1 then xF (xN32 (lN (x / 8)).toInt32 * 8) (fun z => xF (pc + 1) (fun q => K q L (z :: r) Wd cc cs env)) else none
    | _ => none
noncomputable def xo_ineg (K : xKt) (a1 a2 pc : Nat) (L S Wd : List Nat) (cc cs : Nat) (env : xEv) : xRes := match S with
    | x :: r => bif Nat.beq (x % 8) 0 then xF (xN32 (-(nI (x / 8))) * 8) (fun z => xF (pc + 1) (fun q => K q L (z :: r) Wd cc cs env)) else none
    | _ => none
noncomputable def xo_lcmp (K : xKt) (a1 a2 pc : Nat) (L S Wd : List Nat) (cc cs : Nat) (env : xEv) : xRes := match S with
    | y :: x :: r => bif Nat.beq (x % 8) 1 && Nat.beq (y % 8) 1 then xF (bif Nat.beq (xSg (xb64 (x / 8)) (xb64 (y / 8))) 0 then 34359738360 else bif Nat.beq (xSg (xb64 (x / 8)) (xb64 (y / 8))) 1 then 0 else 8) (fun z => xF (pc + 1) (fun q => K q L (z :: r) Wd cc cs env))
        else match xRelL x y with
          | none => none
          | some (s, c) => xTri env s c (fun sg e' => xF (bif Nat.beq (xSgI sg) 0 then 34359738360 else bif Nat.beq (xSgI sg) 1 then 0 else 8) (fun z => xF (pc + 1) (fun q => K q L (z :: r) Wd cc cs e')))
    | _ => none
noncomputable def xo_ifC (K : xKt) (a1 a2 pc : Nat) (L S Wd : List Nat) (cc cs : Nat) (env : xEv) : xRes := match S with
    | x :: r => bif Nat.beq (x % 8) 0 then bif xHo a2 (xSg (xb32 (x / 8)) 2147483648) then K a1 L r Wd cc cs env else xF (pc + 3) (fun q => K q L r Wd cc cs env)
        else match xRelI x 0 with
          | none => none
          | some (s, c) => xTri env s c (fun sg e' => bif xHo a2 (xSgI sg) then K a1 L r Wd cc cs e' else xF (pc + 3) (fun q => K q L r Wd cc cs e'))
    | _ => none
noncomputable def xo_icmp (K : xKt) (a1 a2 pc : Nat) (L S Wd : List Nat) (cc cs : Nat) (env : xEv) : xRes := match S with
    | y :: x :: r => bif Nat.beq (x % 8) 0 && Nat.beq (y % 8) 0 then bif xHo a2 (xSg (xb32 (x / 8)) (xb32 (y / 8))) then K a1 L r Wd cc cs env else xF (pc + 3) (fun q => K q L r Wd cc cs env)
        else match xRelI x y with
          | none => none
          | some (s, c) => xTri env s c (fun sg e' => bif xHo a2 (xSgI sg) then K a1 L r Wd cc cs e' else xF (pc + 3) (fun q => K q L r Wd cc cs e'))
    | _ => none
noncomputable def xo_goto (K : xKt) (a1 a2 pc : Nat) (L S Wd : List Nat) (cc cs : Nat) (env : xEv) : xRes := K a1 L S Wd cc cs env
noncomputable def xo_dup (K : xKt) (a1 a2 pc : Nat) (L S Wd : List Nat) (cc cs : Nat) (env : xEv) : xRes := match S with
    | v :: r => bif Nat.beq (xCat v) 1 then xF (pc + 1) (fun q => K q L (v :: v :: r) Wd cc cs env) else none
    | _ => none
noncomputable def xo_dup_x1 (K : xKt) (a1 a2 pc : Nat) (L S Wd : List Nat) (cc cs : Nat) (env : xEv) : xRes := match S with
    | v :: w :: r => bif Nat.beq (xCat v) 1 && Nat.beq (xCat w) 1 then xF (pc + 1) (fun q => K q L (v :: w :: v :: r) Wd cc cs env) else none
    | _ => none
noncomputable def xo_dup2 (K : xKt) (a1 a2 pc : Nat) (L S Wd : List Nat) (cc cs : Nat) (env : xEv) : xRes := match S with
    | v :: r => bif Nat.beq (xCat v) 2 then xF (pc + 1) (fun q => K q L (v :: v :: r) Wd cc cs env) else match r with
      | w :: r' => bif Nat.beq (xCat w) 1 then xF (pc + 1) (fun q => K q L (v :: w :: v :: w :: r') Wd cc cs env) else none
      | [] => none
    | _ => none
noncomputable def xo_getfield (K : xKt) (a1 a2 pc : Nat) (L S Wd : List Nat) (cc cs : Nat) (env : xEv) : xRes := match S with
    | r :: t => bif Nat.beq (r % 8) 2 then xF (xGet Wd (r / 8)) (fun c => bif Nat.beq (c % 18446744073709551616) (8 * a1 + 2) then xF (xDn c a2 1) (fun v => xF (pc + 3) (fun q => K q L (v :: t) Wd cc cs env)) else none) else none
    | _ => none
noncomputable def xo_putfield (K : xKt) (a1 a2 pc : Nat) (L S Wd : List Nat) (cc cs : Nat) (env : xEv) : xRes := match S with
    | v :: r :: t => bif Nat.beq (r % 8) 2 && xFit (xTyOf a1 a2) v && Nat.blt v 4722366482869645213696 then xF (xGet Wd (r / 8)) (fun c => bif Nat.beq (c % 18446744073709551616) (8 * a1 + 2) then xF (xPn c a2 1 v) (fun c' => xSet Wd (r / 8) c' (fun W' => xF (pc + 3) (fun q => K q L t W' cc cs env))) else none) else none
    | _ => none
noncomputable def xo_iastore (K : xKt) (a1 a2 pc : Nat) (L S Wd : List Nat) (cc cs : Nat) (env : xEv) : xRes := match S with
    | v :: x :: r :: t => bif Nat.beq (x % 8) 4 then xC0 env x (fun x' e' => K pc L (v :: x' :: r :: t) Wd cc cs e') else bif Nat.beq (x % 8) 0 && Nat.blt (x / 8) 2147483648 && Nat.beq (r % 8) 2 && xIsI v && Nat.blt v 4722366482869645213696 then xF (xGet Wd (r / 8)) (fun c => bif Nat.beq (c % 8) 1 && Nat.blt (x / 8) (c % 18446744073709551616 / 8) then xF (xPn c (x / 8) 1 v) (fun c' => xSet Wd (r / 8) c' (fun W' => xF (pc + 1) (fun q => K q L t W' cc cs env))) else none) else none
    | _ => none
noncomputable def xo_laload (K : xKt) (a1 a2 pc : Nat) (L S Wd : List Nat) (cc cs : Nat) (env : xEv) : xRes := match S with
    | x :: r :: t => bif Nat.beq (x % 8) 0 && Nat.blt (x / 8) 2147483648 && Nat.beq (r % 8) 2 then xF (xGet Wd (r / 8)) (fun c => bif Nat.beq (c % 8) 3 && Nat.blt (x / 8) (c % 18446744073709551616 / 8) then xF (xDn c (x / 8) 1 * 8 + 1) (fun v => xF (pc + 1) (fun q => K q L (v :: t) Wd cc cs env)) else none) else none
    | _ => none
noncomputable def xo_lastore (K : xKt) (a1 a2 pc : Nat) (L S Wd : List Nat) (cc cs : Nat) (env : xEv) : xRes := match S with
    | v :: x :: r :: t => bif Nat.beq (x % 8) 0 && Nat.blt (x / 8) 2147483648 && Nat.beq (r % 8) 2 && Nat.beq (v % 8) 1 && Nat.blt v 4722366482869645213696 then xF (xGet Wd (r / 8)) (fun c => bif Nat.beq (c % 8) 3 && Nat.blt (x / 8) (c % 18446744073709551616 / 8) then xF (xPn c (x / 8) 1 (v / 8)) (fun c' => xSet Wd (r / 8) c' (fun W' => xF (pc + 1) (fun q => K q L t W' cc cs env))) else none) else none
    | _ => none
noncomputable def xo_baload (K : xKt) (a1 a2 pc : Nat) (L S Wd : List Nat) (cc cs : Nat) (env : xEv) : xRes := match S with
    | x :: r :: t => bif Nat.beq (x % 8) 4 then xC0 env x (fun x' e' => K pc L (x' :: r :: t) Wd cc cs e') else bif Nat.beq (x % 8) 0 && Nat.blt (x / 8) 2147483648 && Nat.beq (r % 8) 2 then xF (xGet Wd (r / 8)) (fun c => bif Nat.beq (c % 8) 5 && Nat.blt (x / 8) (c % 18446744073709551616 / 8) then xF (xDn c (x / 8) 1) (fun v => bif xIsI v then xF (pc + 1) (fun q => K q L (v :: t) Wd cc cs env) else none) else none) else none
    | _ => none
noncomputable def xo_bastore (K : xKt) (a1 a2 pc : Nat) (L S Wd : List Nat) (cc cs : Nat) (env : xEv) : xRes := match S with
    | v :: x :: r :: t => bif Nat.beq (x % 8) 4 then xC0 env x (fun x' e' => K pc L (v :: x' :: r :: t) Wd cc cs e') else bif Nat.beq (x % 8) 0 && Nat.blt (x / 8) 2147483648 && Nat.beq (r % 8) 2 && (Nat.beq v 0 || Nat.beq v 8) then xF (xGet Wd (r / 8)) (fun c => bif Nat.beq (c % 8) 5 && Nat.blt (x / 8) (c % 18446744073709551616 / 8) then xF (xPn c (x / 8) 1 v) (fun c' => xSet Wd (r / 8) c' (fun W' => xF (pc + 1) (fun q => K q L t W' cc cs env))) else none) else none
    | _ => none
noncomputable def xo_aaload (K : xKt) (a1 a2 pc : Nat) (L S Wd : List Nat) (cc cs : Nat) (env : xEv) : xRes := match S with
    | x :: r :: t => bif Nat.beq (x % 8) 4 then xC0 env x (fun x' e' => K pc L (x' :: r :: t) Wd cc cs e') else bif Nat.beq (x % 8) 0 && Nat.blt (x / 8) 2147483648 && Nat.beq (r % 8) 2 then xF (xGet Wd (r / 8)) (fun c => bif Nat.beq (c % 8) 7 && Nat.blt (x / 8) (c % 18446744073709551616 / 8) then xF (xDn c (x / 8) 1) (fun v => bif Nat.beq v 0 then none else xF ((v - 1) * 8 + 2) (fun v' => xF (pc + 1) (fun q => K q L (v' :: t) Wd cc cs env))) else none) else none
    | _ => none
noncomputable def xo_aastore (K : xKt) (a1 a2 pc : Nat) (L S Wd : List Nat) (cc cs : Nat) (env : xEv) : xRes := match S with
    | v :: x :: r :: t => bif Nat.beq (x % 8) 0 && Nat.blt (x / 8) 2147483648 && Nat.beq (r % 8) 2 && Nat.beq (v % 8) 2 && Nat.blt v 4722366482869645213696 && Nat.beq (xGet Wd (v / 8) % 18446744073709551616) 34 then xF (xGet Wd (r / 8)) (fun c => bif Nat.beq (c % 8) 7 && Nat.blt (x / 8) (c % 18446744073709551616 / 8) then xF (xPn c (x / 8) 1 (v / 8 + 1)) (fun c' => xSet Wd (r / 8) c' (fun W' => xF (pc + 1) (fun q => K q L t W' cc cs env))) else none) else none
    | _ => none
noncomputable def xo_iaload (K : xKt) (a1 a2 pc : Nat) (L S Wd : List Nat) (cc cs : Nat) (env : xEv) : xRes := match S with
    | x :: r :: t => bif Nat.beq (x % 8) 4 then xC0 env x (fun x' e' => K pc L (x' :: r :: t) Wd cc cs e') else bif Nat.beq (x % 8) 0 && Nat.blt (x / 8) 2147483648 then (bif Nat.beq (r % 8) 2 then xF (xGet Wd (r / 8)) (fun c => bif Nat.beq (c % 8) 1 && Nat.blt (x / 8) (c % 18446744073709551616 / 8) then xF (xDn c (x / 8) 1) (fun v => bif xIsI v then xF (pc + 1) (fun q => K q L (v :: t) Wd cc cs env) else none) else none) else none) else none
    | _ => none
noncomputable def xo_sload (Lz : Nat) (sc : Nat → Nat) (k mc ms : Nat) (K : xKt) (a1 a2 pc : Nat) (L S Wd : List Nat) (cc cs : Nat) (env : xEv) : xRes := match S with
    | x :: r :: t => bif Nat.beq (x % 8) 0 && Nat.blt (x / 8) 2147483648 && Nat.beq r 6 && Nat.beq k 0 && Nat.blt (x / 8) Lz then xF (sc (x / 8)) (fun v => xF (pc + 1) (fun q => K q L (v :: t) Wd cc cs env)) else none
    | _ => none
noncomputable def xo_alen (Lz k mc ms : Nat) (K : xKt) (a1 a2 pc : Nat) (L S Wd : List Nat) (cc cs : Nat) (env : xEv) : xRes := match S with
    | r :: t => bif Nat.beq (r % 8) 2 then xF (xGet Wd (r / 8)) (fun c => bif Nat.beq (c % 2) 1 then xF (c % 18446744073709551616 / 8 * 8) (fun v => xF (pc + 1) (fun q => K q L (v :: t) Wd cc cs env)) else none) else bif Nat.beq r 6 && Nat.beq k 0 then xF (Lz * 8) (fun v => xF (pc + 1) (fun q => K q L (v :: t) Wd cc cs env)) else none
    | _ => none
noncomputable def xo_new (Lz k mc ms : Nat) (K : xKt) (a1 a2 pc : Nat) (L S Wd : List Nat) (cc cs : Nat) (env : xEv) : xRes := xF (xLen Wd) (fun n => bif Nat.ble (cc + 1) mc && Nat.ble (cs + xNf a1) ms && xWfL n L && xWfL n S && xWfW n Wd then xF (xDefO a1 (xNf a1)) (fun c => xSnoc Wd c (fun W' => xF (cc + 1) (fun cc' => xF (cs + xNf a1) (fun cs' => xF (n * 8 + 2) (fun v => xF (pc + 3) (fun q => K q L (v :: S) W' cc' cs' env)))))) else none)
noncomputable def xo_newa (mc ms : Nat) (K : xKt) (i : Instr) (pc : Nat) (L S Wd : List Nat) (cc cs : Nat) (env : xEv) : xRes := match i with
  | .newarray t => (match S with
    | x :: r => xF (xLen Wd) (fun n => bif Nat.beq (x % 8) 0 && Nat.ble (x / 8) 1000000 && Nat.blt (xAty t) 3 && Nat.ble (cc + 1) mc && Nat.ble (cs + x / 8) ms && xWfL n L && xWfL n r && xWfW n Wd then xF (1 + 2 * xAty t + 8 * (x / 8)) (fun c => xSnoc Wd c (fun W' => xF (cc + 1) (fun cc' => xF (cs + x / 8) (fun cs' => xF (n * 8 + 2) (fun v => xF (pc + 2) (fun q => K q L (v :: r) W' cc' cs' env)))))) else none)
    | _ => none)
  | _ => none
noncomputable def xo_anewa (Lz k mc ms : Nat) (K : xKt) (a1 a2 pc : Nat) (L S Wd : List Nat) (cc cs : Nat) (env : xEv) : xRes := match S with
    | x :: r => xF (xLen Wd) (fun n => bif Nat.beq (x % 8) 0 && Nat.ble (x / 8) 1000000 && Nat.ble (cc + 1) mc && Nat.ble (cs + x / 8) ms && xWfL n L && xWfL n r && xWfW n Wd then xF (7 + 8 * (x / 8)) (fun c => xSnoc Wd c (fun W' => xF (cc + 1) (fun cc' => xF (cs + x / 8) (fun cs' => xF (n * 8 + 2) (fun v => xF (pc + 3) (fun q => K q L (v :: r) W' cc' cs' env)))))) else none)
    | _ => none
noncomputable def xo_objI (d : Nat) (K : xKt) (pc : Nat) (L S Wd : List Nat) (cc cs : Nat) (env : xEv) : xRes := match S with
      | r :: t => bif Nat.beq (r % 8) 2 && Nat.ble (xCats t) 8 && Nat.blt 0 d then xF (pc + 3) (fun q => K q L t Wd cc cs env) else none
      | _ => none
noncomputable def xo_acopy (d : Nat) (K : xKt) (pc : Nat) (L S Wd : List Nat) (cc cs : Nat) (env : xEv) : xRes := match S with
      | n :: dp :: dst :: sp :: src :: t => bif Nat.beq (n % 8) 0 && Nat.beq (dp % 8) 0 && Nat.beq (sp % 8) 0 && Nat.beq (dst % 8) 2 && Nat.beq (src % 8) 2 && Nat.blt (n / 8) 2147483648 && Nat.blt (dp / 8) 2147483648 && Nat.blt (sp / 8) 2147483648 && Nat.ble (xCats t) 8 && Nat.blt 0 d && !(Nat.beq dst src) then
          xF (xGet Wd (dst / 8)) (fun c => xF (xGet Wd (src / 8)) (fun c0 => bif Nat.beq (c % 8) 1 && Nat.beq (c0 % 8) 1 && Nat.ble (dp / 8 + n / 8) (c % 18446744073709551616 / 8) && Nat.ble (sp / 8 + n / 8) (c0 % 18446744073709551616 / 8) then
            xF (xPn c (dp / 8) (n / 8) (xDn c0 (sp / 8) (n / 8))) (fun c' => xSet Wd (dst / 8) c' (fun W' => xF (pc + 3) (fun q => K q L t W' cc cs env))) else none)) else none
      | _ => none
noncomputable def xo_iret (mc ms : Nat) (rt : Option FieldType) (pc : Nat) (S Wd : List Nat) (cc cs : Nat) (env : xEv) : xRes := match S with
    | [v] => bif xIsI v && Nat.ble cc mc && Nat.ble cs ms then (match rt with
      | some .int => some [(pc, v, Wd, env, cc, cs)]
      | some .boolean => bif Nat.beq v 0 || Nat.beq v 8 then some [(pc, v, Wd, env, cc, cs)] else none
      | _ => none) else none
    | _ => none
noncomputable def xo_lret (mc ms : Nat) (rt : Option FieldType) (pc : Nat) (S Wd : List Nat) (cc cs : Nat) (env : xEv) : xRes := match S with
    | [v] => bif Nat.beq (v % 8) 1 && Nat.ble cc mc && Nat.ble cs ms then (match rt with
      | some .long => some [(pc, v, Wd, env, cc, cs)]
      | _ => none) else none
    | _ => none
noncomputable def xo_vret (mc ms : Nat) (rt : Option FieldType) (pc : Nat) (S Wd : List Nat) (cc cs : Nat) (env : xEv) : xRes := match S with
    | [] => bif Nat.ble cc mc && Nat.ble cs ms then (match rt with
      | none => some [(pc, 11, Wd, env, cc, cs)]
      | _ => none) else none
    | _ => none
noncomputable def xo_tsw (K : xKt) (i : Instr) (pc : Nat) (L S Wd : List Nat) (cc cs : Nat) (env : xEv) : xRes := match i with
  | .tableswitch df lo hi offs => (match S with
    | x :: r => bif Nat.beq (x % 8) 0 then (if xs32 (x / 8) < lo ∨ hi < xs32 (x / 8) then (if 0 ≤ (pc : Int) + df then xF ((pc : Int) + df).toNat (fun q => K q L r Wd cc cs env) else none) else match offs[(xs32 (x / 8) - lo).toNat]? with
        | none => none
        | some off => if 0 ≤ (pc : Int) + off then xF ((pc : Int) + off).toNat (fun q => K q L r Wd cc cs env) else none)
        else bif Nat.beq (x % 8) 4 then (bif !(Nat.beq (x / 8) 7) then xTri env (x / 8) lo (fun sg e' => bif Nat.beq (xSgI sg) 0 then (if 0 ≤ (pc : Int) + df then xF ((pc : Int) + df).toNat (fun q => K q L r Wd cc cs e') else none) else xTri e' (x / 8) hi (fun sg e'' => bif Nat.beq (xSgI sg) 2 then (if 0 ≤ (pc : Int) + df then xF ((pc : Int) + df).toNat (fun q => K q L r Wd cc cs e'') else none) else xC0 e'' x (fun x' e3 => K pc L (x' :: r) Wd cc cs e3))) else none) else none
    | _ => none)
  | _ => none
noncomputable def xo_lsw (K : xKt) (i : Instr) (pc : Nat) (L S Wd : List Nat) (cc cs : Nat) (env : xEv) : xRes := match i with
  | .lookupswitch df ps => (match S with
    | x :: r => bif Nat.beq (x % 8) 0 then (if 0 ≤ (pc : Int) + Op.lookupswitch.offset ps.toList df (xs32 (x / 8)) then xF ((pc : Int) + Op.lookupswitch.offset ps.toList df (xs32 (x / 8))).toNat (fun q => K q L r Wd cc cs env) else none) else none
    | _ => none)
  | _ => none
noncomputable def xo_pop (K : xKt) (pc : Nat) (L S Wd : List Nat) (cc cs : Nat) (env : xEv) : xRes := match S with
    | v :: r => bif Nat.beq (xCat v) 1 then xF (pc + 1) (fun q => K q L r Wd cc cs env) else none
    | _ => none
noncomputable def xo_pop2 (K : xKt) (pc : Nat) (L S Wd : List Nat) (cc cs : Nat) (env : xEv) : xRes := match S with
    | v :: r => bif Nat.beq (xCat v) 2 then xF (pc + 1) (fun q => K q L r Wd cc cs env) else none
    | _ => none
noncomputable def xo_lneg (K : xKt) (pc : Nat) (L S Wd : List Nat) (cc cs : Nat) (env : xEv) : xRes := match S with
    | x :: r => bif Nat.beq (x % 8) 1 then xF (xN64 (-(lN (x / 8))) * 8 + 1) (fun z => xF (pc + 1) (fun q => K q L (z :: r) Wd cc cs env)) else none
    | _ => none
noncomputable def xo_ldiv (K : xKt) (pc : Nat) (L S Wd : List Nat) (cc cs : Nat) (env : xEv) : xRes := xL2 S (fun x y => xN64 (lN x / lN y)) (fun S' => bif decide (lN (xGet S 0 / 8) = 0) then none else xF (pc + 1) (fun q => K q L S' Wd cc cs env))
noncomputable def xo_lrem (K : xKt) (pc : Nat) (L S Wd : List Nat) (cc cs : Nat) (env : xEv) : xRes := xL2 S (fun x y => xN64 (lN x - lN x / lN y * lN y)) (fun S' => bif decide (lN (xGet S 0 / 8) = 0) then none else xF (pc + 1) (fun q => K q L S' Wd cc cs env))
noncomputable def xo_mi2 (f : Nat → Nat → Nat) (mc ms d : Nat) (K : xKt) (pc : Nat) (L S Wd : List Nat) (cc cs : Nat) (env : xEv) : xRes := match S with
    | y :: x :: r => bif Nat.beq (x % 8) 0 && Nat.beq (y % 8) 0 && Nat.ble (xCats r) 8 && Nat.blt 0 d && Nat.ble cc mc && Nat.ble cs ms then xF (f (x / 8) (y / 8) * 8) (fun z => xF (pc + 3) (fun q => K q L (z :: r) Wd cc cs env)) else none
    | _ => none
noncomputable def xo_mi1 (f : Nat → Nat) (mc ms d : Nat) (K : xKt) (pc : Nat) (L S Wd : List Nat) (cc cs : Nat) (env : xEv) : xRes := match S with
    | x :: r => bif Nat.beq (x % 8) 0 && Nat.ble (xCats r) 8 && Nat.blt 0 d && Nat.ble cc mc && Nat.ble cs ms then xF (f (x / 8) * 8) (fun z => xF (pc + 3) (fun q => K q L (z :: r) Wd cc cs env)) else none
    | _ => none
noncomputable def xo_ml2 (f : Nat → Nat → Nat) (mc ms d : Nat) (K : xKt) (pc : Nat) (L S Wd : List Nat) (cc cs : Nat) (env : xEv) : xRes := match S with
    | y :: x :: r => bif Nat.beq (x % 8) 1 && Nat.beq (y % 8) 1 && Nat.ble (xCats r) 8 && Nat.blt 0 d && Nat.ble cc mc && Nat.ble cs ms then xF (f (x / 8) (y / 8) * 8 + 1) (fun z => xF (pc + 3) (fun q => K q L (z :: r) Wd cc cs env)) else none
    | _ => none
noncomputable def xo_ml1 (f : Nat → Nat) (mc ms d : Nat) (K : xKt) (pc : Nat) (L S Wd : List Nat) (cc cs : Nat) (env : xEv) : xRes := match S with
    | x :: r => bif Nat.beq (x % 8) 1 && Nat.ble (xCats r) 8 && Nat.blt 0 d && Nat.ble cc mc && Nat.ble cs ms then xF (f (x / 8) * 8 + 1) (fun z => xF (pc + 3) (fun q => K q L (z :: r) Wd cc cs env)) else none
    | _ => none
noncomputable def xo_math (o mc ms d : Nat) (K : xKt) (pc : Nat) (L S Wd : List Nat) (cc cs : Nat) (env : xEv) : xRes :=
  bif Nat.beq o 120 then xo_mi2 (fun x y => xN32 (if nI x < nI y then nI y else nI x)) mc ms d K pc L S Wd cc cs env
  else bif Nat.beq o 121 then xo_mi2 (fun x y => xN32 (if nI y < nI x then nI y else nI x)) mc ms d K pc L S Wd cc cs env
  else bif Nat.beq o 122 then xo_mi1 (fun x => xN32 (if 0 ≤ nI x then nI x else 0 - nI x)) mc ms d K pc L S Wd cc cs env
  else bif Nat.beq o 123 then xo_ml2 (fun x y => xN64 (if lN y < lN x then lN x else lN y)) mc ms d K pc L S Wd cc cs env
  else bif Nat.beq o 124 then xo_ml2 (fun x y => xN64 (if lN y < lN x then lN y else lN x)) mc ms d K pc L S Wd cc cs env
  else bif Nat.beq o 125 then xo_ml1 (fun x => xN64 (if 0 < lN x then lN x else -(lN x))) mc ms d K pc L S Wd cc cs env else none
abbrev xOpT : Type := xKt → Nat → Nat → xKt
noncomputable def xo_none : xOpT := fun _ _ _ _ _ _ _ _ _ _ => none
noncomputable def xDs0 (o : Nat) : xOpT := bif Nat.blt o 4 then (bif Nat.blt o 2 then (bif Nat.blt o 1 then (xo_push1) else (xo_push2)) else (bif Nat.blt o 3 then (xo_push3) else (xo_iload1))) else (bif Nat.blt o 6 then (bif Nat.blt o 5 then (xo_iload2) else (xo_lload1)) else (bif Nat.blt o 7 then (xo_lload2) else (xo_aload1)))
noncomputable def xDs1 (o : Nat) : xOpT := bif Nat.blt o 12 then (bif Nat.blt o 10 then (bif Nat.blt o 9 then (xo_aload2) else (xo_istore1)) else (bif Nat.blt o 11 then (xo_istore2) else (xo_astore1))) else (bif Nat.blt o 14 then (bif Nat.blt o 13 then (xo_astore2) else (xo_lstore1)) else (bif Nat.blt o 15 then (xo_lstore2) else (xo_iinc)))
noncomputable def xDs2 (o : Nat) : xOpT := bif Nat.blt o 20 then (bif Nat.blt o 18 then (bif Nat.blt o 17 then (xo_iadd) else (xo_isub)) else (bif Nat.blt o 19 then (xo_imul) else (xo_idiv))) else (bif Nat.blt o 22 then (bif Nat.blt o 21 then (xo_irem) else (xo_iand)) else (bif Nat.blt o 23 then (xo_ior) else (xo_ixor)))
noncomputable def xDs3 (o : Nat) : xOpT := bif Nat.blt o 28 then (bif Nat.blt o 26 then (bif Nat.blt o 25 then (xo_ishl) else (xo_ishr)) else (bif Nat.blt o 27 then (xo_iushr) else (xo_ladd))) else (bif Nat.blt o 30 then (bif Nat.blt o 29 then (xo_lsub) else (xo_lmul)) else (bif Nat.blt o 31 then (xo_land) else (xo_lor)))
noncomputable def xDs4 (o : Nat) : xOpT := bif Nat.blt o 36 then (bif Nat.blt o 34 then (bif Nat.blt o 33 then (xo_lxor) else (xo_lshl)) else (bif Nat.blt o 35 then (xo_lshr) else (xo_lushr))) else (bif Nat.blt o 38 then (bif Nat.blt o 37 then (xo_i2l) else (xo_l2i)) else (bif Nat.blt o 39 then (xo_ineg) else (xo_lcmp)))
noncomputable def xDs5 (o : Nat) : xOpT := bif Nat.blt o 44 then (bif Nat.blt o 42 then (bif Nat.blt o 41 then (xo_ifC) else (xo_icmp)) else (bif Nat.blt o 43 then (xo_goto) else (xo_dup))) else (bif Nat.blt o 46 then (bif Nat.blt o 45 then (xo_dup_x1) else (xo_dup2)) else (bif Nat.blt o 47 then (xo_getfield) else (xo_putfield)))
noncomputable def xDs6 (o : Nat) : xOpT := bif Nat.blt o 52 then (bif Nat.blt o 50 then (bif Nat.blt o 49 then (xo_iaload) else (xo_iastore)) else (bif Nat.blt o 51 then (xo_laload) else (xo_lastore))) else (bif Nat.blt o 54 then (bif Nat.blt o 53 then (xo_baload) else (xo_bastore)) else (bif Nat.blt o 55 then (xo_aaload) else (xo_aastore)))
noncomputable def xDs (o : Nat) : xOpT := bif Nat.blt o 24 then (bif Nat.blt o 8 then (xDs0 o) else (bif Nat.blt o 16 then (xDs1 o) else (xDs2 o))) else (bif Nat.blt o 40 then (bif Nat.blt o 32 then (xDs3 o) else (xDs4 o)) else (bif Nat.blt o 48 then (xDs5 o) else (xDs6 o)))
noncomputable def xDg (M : Nat → Option xMt) (Lz : Nat) (sc : Nat → Nat) (ih : Nat → (Nat → Option xRow) → Nat → Nat → Option FieldType → Nat → xKt) (k mc ms : Nat) (rt : Option FieldType) (d : Nat) (K : xKt) (o : Nat) (i : Instr) (a1 a2 pc : Nat) (L S Wd : List Nat) (cc cs : Nat) (env : xEv) : xRes :=
  bif Nat.blt o 105 then (bif Nat.beq o 100 then xo_sload Lz sc k mc ms K a1 a2 pc L S Wd cc cs env else bif Nat.beq o 101 then xo_alen Lz k mc ms K a1 a2 pc L S Wd cc cs env else bif Nat.beq o 102 then xo_new Lz k mc ms K a1 a2 pc L S Wd cc cs env else bif Nat.beq o 103 then xo_newa mc ms K i pc L S Wd cc cs env else xo_anewa Lz k mc ms K a1 a2 pc L S Wd cc cs env)
  else bif Nat.blt o 111 then (bif Nat.beq o 105 then xCall M ih mc ms d K a1 (fun o => Nat.beq (o % 8) 2 && Nat.beq (xGet Wd (o / 8) % 18446744073709551616) (8 * a2 + 2)) pc L S Wd cc cs env else bif Nat.beq o 106 then xCall M ih mc ms d K a1 (fun o => Nat.beq (o % 8) 2) pc L S Wd cc cs env else bif Nat.beq o 107 then xCall M ih mc ms d K a1 (fun _ => true) pc L S Wd cc cs env else bif Nat.beq o 108 then xo_iret mc ms rt pc S Wd cc cs env else bif Nat.beq o 109 then xo_lret mc ms rt pc S Wd cc cs env else xo_vret mc ms rt pc S Wd cc cs env)
  else (bif Nat.beq o 111 then xo_tsw K i pc L S Wd cc cs env else bif Nat.beq o 112 then xo_lsw K i pc L S Wd cc cs env else bif Nat.beq o 113 then xo_objI d K pc L S Wd cc cs env else bif Nat.beq o 114 then xo_acopy d K pc L S Wd cc cs env else bif Nat.beq o 115 then xo_pop K pc L S Wd cc cs env else bif Nat.beq o 116 then xo_pop2 K pc L S Wd cc cs env else bif Nat.beq o 117 then xo_lneg K pc L S Wd cc cs env else bif Nat.beq o 118 then xo_ldiv K pc L S Wd cc cs env else bif Nat.beq o 119 then xo_lrem K pc L S Wd cc cs env else xo_math o mc ms d K pc L S Wd cc cs env)
noncomputable def xRun (M : Nat → Option xMt) (Lz : Nat) (sc : Nat → Nat) (f : Nat) : Nat → (Nat → Option xRow) → Nat → Nat → Option FieldType → Nat → xKt := Nat.rec (motive := fun _ => Nat → (Nat → Option xRow) → Nat → Nat → Option FieldType → Nat → xKt) (fun _ _ _ _ _ _ _ _ _ _ _ _ _ => none) (fun _ ih k code mc ms rt d pc L S Wd cc cs env => match code pc with
  | none => none
  | some (o, i, _, a1, a2, _) => bif Nat.blt o 56 then xDs o (ih k code mc ms rt d) a1 a2 pc L S Wd cc cs env else xDg M Lz sc ih k mc ms rt d (ih k code mc ms rt d) o i a1 a2 pc L S Wd cc cs env) f
