/-! A small machine of my own: values, a flat memory (address, slot -> Int), one step, runs with fuel. Later parts show that what it answers the printed machine answers. -/
def xin (x : Int) : Prop := -2147483648 ≤ x ∧ x ≤ 2147483647
def xinL (x : Int) : Prop := -9223372036854775808 ≤ x ∧ x ≤ 9223372036854775807
def xup (D : xD) (a : Nat) (k v : Int) : xD := fun b j => if b = a ∧ j = k then v else D b j
def xcpy (D : xD) (a b : Nat) (sp dp n : Int) : xD := fun c j => if c = b ∧ dp ≤ j ∧ j < dp + n then D a (sp + (j - dp)) else D c j
def iand (a b : Int) : Int := (Int32.ofInt a &&& Int32.ofInt b).toInt
def ior (a b : Int) : Int := (Int32.ofInt a ||| Int32.ofInt b).toInt
def ixor (a b : Int) : Int := (Int32.ofInt a ^^^ Int32.ofInt b).toInt
def ishl (a b : Int) : Int := (Int32.ofInt a <<< (Int32.ofInt b &&& 31)).toInt
def ishr (a b : Int) : Int := (Int32.ofInt a >>> (Int32.ofInt b &&& 31)).toInt
def iushr (a b : Int) : Int := ((Int32.ofInt a).toUInt32 >>> ((Int32.ofInt b).toUInt32 &&& Int32.toUInt32 31)).toInt32.toInt
def idv (a b : Int) : Int := (Int32.ofInt a / Int32.ofInt b).toInt
def irm (a b : Int) : Int := (Int32.ofInt a - Int32.ofInt a / Int32.ofInt b * Int32.ofInt b).toInt
def lshl (a b : Int) : Int := (Int64.ofInt a <<< ((Int32.ofInt b).toInt64 &&& 63)).toInt
def lor (a b : Int) : Int := (Int64.ofInt a ||| Int64.ofInt b).toInt
def xcond (k : Int) (a b : Int) : Prop := if k = 0 then a = b else if k = 1 then a ≠ b else if k = 2 then a < b else if k = 3 then b ≤ a else if k = 4 then b < a else a ≤ b
def xcb (k : Int) (a b : Int) : Bool := bif k == 0 then decide (a = b) else bif k == 1 then decide (a ≠ b) else bif k == 2 then decide (a < b) else bif k == 3 then decide (b ≤ a) else bif k == 4 then decide (b < a) else decide (a ≤ b)
def xib (x : Int) : Bool := decide (-2147483648 ≤ x) && decide (x ≤ 2147483647)
def xbin (k : Nat) (a b : Int) : Option Int :=
  bif Nat.beq k 0 then (bif xib (a + b) then some (a + b) else none)
  else bif Nat.beq k 1 then (bif xib (a - b) then some (a - b) else none)
  else bif Nat.beq k 2 then (bif xib (a * b) then some (a * b) else none)
  else bif Nat.beq k 3 then some (iand a b)
  else bif Nat.beq k 4 then some (ior a b)
  else bif Nat.beq k 5 then some (ixor a b)
  else bif Nat.beq k 6 then some (ishl a b)
  else bif Nat.beq k 7 then some (ishr a b)
  else bif Nat.beq k 8 then some (iushr a b)
  else bif Nat.beq k 9 then (bif decide (b = 0) then none else some (idv a b))
  else bif Nat.beq k 10 then (bif decide (b = 0) then none else some (irm a b))
  else none
abbrev xls : Type := List (Option xv)
abbrev xst : Type := List xv
abbrev xcf : Type := Nat × xls × xst × xD
/-- a store into a place of the locals; never behind a long -/
def xput (ls : xls) (u : Nat) (v : xv) : Option xls :=
  bif Nat.blt u ls.length then
    match ls[u - 1]? with
    | some (some (.inr (.inl _))) => none
    | _ => some (ls.set u (some v))
  else none
def xcat (st : xst) : Nat := match st with
  | [] => 0
  | .inr (.inl _) :: st => 2 + xcat st
  | _ :: st => 1 + xcat st
/-- how long a row of ints is (address 0: the script, where it may be read) -/
def xalen (lo : Option Nat) (n a : Nat) : Option Nat := match a with
  | 0 => lo
  | a + 1 => bif Nat.blt (a + 1) n && Nat.beq (xsh (a + 1)).1 1 then some (xsh (a + 1)).2 else none
def xisO (n a c : Nat) : Bool := Nat.blt 0 a && Nat.blt a n && Nat.beq (xsh a).1 (10 + c)
def xlook (v : Int) (d : Nat) : List Nat → Nat
  | k :: t :: r => bif decide (v = (k : Int)) then t else xlook v d r
  | _ => d
def xo2 (u nx : Nat) (ls : xls) (st : xst) (D : xD) : Option xcf := match ls[u]? with
  | some (some (.inl v)) => some (nx, ls, .inl v :: st, D)
  | _ => none
def xo3 (u nx : Nat) (ls : xls) (st : xst) (D : xD) : Option xcf := match ls[u]? with
  | some (some (.inr (.inr (some a)))) => some (nx, ls, .inr (.inr (some a)) :: st, D)
  | _ => none
def xo4 (u nx : Nat) (ls : xls) (st : xst) (D : xD) : Option xcf := match ls[u]? with
  | some (some (.inr (.inl v))) => some (nx, ls, .inr (.inl v) :: st, D)
  | _ => none
def xo5 (u nx : Nat) (ls : xls) (st : xst) (D : xD) : Option xcf := match st with
  | .inl v :: st => (match xput ls u (.inl v) with | some l => some (nx, l, st, D) | none => none)
  | _ => none
def xo6 (u nx : Nat) (ls : xls) (st : xst) (D : xD) : Option xcf := match st with
  | .inr (.inr (some a)) :: st => (match xput ls u (.inr (.inr (some a))) with | some l => some (nx, l, st, D) | none => none)
  | _ => none
def xo7 (x : Int) (u nx : Nat) (ls : xls) (st : xst) (D : xD) : Option xcf := match ls[u]? with
  | some (some (.inl v)) => bif xib (v + x) then (match xput ls u (.inl (v + x)) with | some l => some (nx, l, st, D) | none => none) else none
  | _ => none
def xo8 (u nx : Nat) (ls : xls) (st : xst) (D : xD) : Option xcf := match st with
  | .inl b :: .inl a :: st => (match xbin u a b with | some c => some (nx, ls, .inl c :: st, D) | none => none)
  | _ => none
def xo9 (nx : Nat) (ls : xls) (st : xst) (D : xD) : Option xcf := match st with
  | .inl a :: st => bif xib (-a) then some (nx, ls, .inl (-a) :: st, D) else none
  | _ => none
def x1 (v : xv) : Bool := match v with
  | .inr (.inl _) => false
  | _ => true
def xo10 (nx : Nat) (ls : xls) (st : xst) (D : xD) : Option xcf := match st with
  | v :: st => bif x1 v then some (nx, ls, v :: v :: st, D) else none
  | _ => none
def xo11 (nx : Nat) (ls : xls) (st : xst) (D : xD) : Option xcf := match st with
  | v :: w :: st => bif x1 v && x1 w then some (nx, ls, v :: w :: v :: w :: st, D) else none
  | _ => none
def xo12 (nx : Nat) (ls : xls) (st : xst) (D : xD) : Option xcf := match st with
  | v :: st => bif x1 v then some (nx, ls, st, D) else none
  | _ => none
def xo14 (n : Nat) (c nx : Nat) (k : Nat) (ls : xls) (st : xst) (D : xD) : Option xcf := match st with
  | .inr (.inr (some a)) :: st => bif xisO n a c then some (nx, ls, .inl (D a k) :: st, D) else none
  | _ => none
def xo15 (n : Nat) (F : Nat → Nat → Bool) (x : Int) (c nx : Nat) (k : Nat) (ls : xls) (st : xst) (D : xD) : Option xcf := match st with
  | .inr (.inr (some a)) :: st => bif xisO n a c && F a k then some (nx, ls, .inr (.inr (some (a + x.toNat))) :: st, D) else none
  | _ => none
def xo16 (n : Nat) (c nx : Nat) (k : Nat) (ls : xls) (st : xst) (D : xD) : Option xcf := match st with
  | .inr (.inr (some a)) :: st => bif xisO n a c then some (nx, ls, .inr (.inl (D a k)) :: st, D) else none
  | _ => none
def xbit (x v : Int) : Bool := decide (x = 0) || decide (v = 0) || decide (v = 1)
def xo17 (n : Nat) (x : Int) (c nx : Nat) (k : Nat) (ls : xls) (st : xst) (D : xD) : Option xcf := match st with
  | .inl v :: .inr (.inr (some a)) :: st => bif xisO n a c && xbit x v then some (nx, ls, st, xup D a k v) else none
  | _ => none
def xo19 (n : Nat) (c nx : Nat) (k : Nat) (ls : xls) (st : xst) (D : xD) : Option xcf := match st with
  | .inr (.inl v) :: .inr (.inr (some a)) :: st => bif xisO n a c then some (nx, ls, st, xup D a k v) else none
  | _ => none
def xix (j : Int) (m : Option Nat) : Bool := match m with
  | some m => decide (0 ≤ j) && decide (j < (m : Int))
  | none => false
def xo20 (lo : Option Nat) (n nx : Nat) (ls : xls) (st : xst) (D : xD) : Option xcf := match st with
  | .inl j :: .inr (.inr (some a)) :: st => bif xix j (xalen lo n a) then some (nx, ls, .inl (D a j) :: st, D) else none
  | _ => none
def xo21 (n nx : Nat) (ls : xls) (st : xst) (D : xD) : Option xcf := match st with
  | .inl v :: .inl j :: .inr (.inr (some a)) :: st => bif xix j (xalen none n a) then some (nx, ls, st, xup D a j v) else none
  | _ => none
def xzlen (n a : Nat) : Option Nat := bif Nat.blt 0 a && Nat.blt a n && Nat.beq (xsh a).1 2 then some (xsh a).2 else none
def xo22 (n nx : Nat) (ls : xls) (st : xst) (D : xD) : Option xcf := match st with
  | .inl j :: .inr (.inr (some a)) :: st => bif xix j (xzlen n a) then some (nx, ls, .inl (D a j) :: st, D) else none
  | _ => none
def xo23 (n nx : Nat) (ls : xls) (st : xst) (D : xD) : Option xcf := match st with
  | .inl v :: .inl j :: .inr (.inr (some a)) :: st => bif xix j (xzlen n a) && xbit 1 v then some (nx, ls, st, xup D a j v) else none
  | _ => none
def xo24 (lo : Option Nat) (n nx : Nat) (ls : xls) (st : xst) (D : xD) : Option xcf := match st with
  | .inr (.inr (some a)) :: st => (match xalen lo n a with | some m => bif xib (m : Int) then some (nx, ls, .inl (m : Int) :: st, D) else none | none => none)
  | _ => none
def xo26 (x : Int) (u nx : Nat) (ls : xls) (st : xst) (D : xD) : Option xcf := match st with
  | .inl a :: st => some (bif xcb x a 0 then u else nx, ls, st, D)
  | _ => none
def xo27 (x : Int) (u nx : Nat) (ls : xls) (st : xst) (D : xD) : Option xcf := match st with
  | .inl b :: .inl a :: st => some (bif xcb x a b then u else nx, ls, st, D)
  | _ => none
def xo31 (x : Int) (u : Nat) (mo : List Nat) (ls : xls) (st : xst) (D : xD) : Option xcf := match st with
  | .inl v :: st => some (bif decide (v < x) then u else (mo.getD (v - x).toNat u), ls, st, D)
  | _ => none
def xo32 (u : Nat) (mo : List Nat) (ls : xls) (st : xst) (D : xD) : Option xcf := match st with
  | .inl v :: st => some (xlook v u mo, ls, st, D)
  | _ => none
def xo33 (nx : Nat) (ls : xls) (st : xst) (D : xD) : Option xcf := match st with
  | .inr (.inr (some _)) :: st => bif Nat.ble (xcat st) 8 then some (nx, ls, st, D) else none
  | _ => none
def xo34 (n nx : Nat) (ls : xls) (st : xst) (D : xD) : Option xcf := match st with
  | .inl k :: .inl dp :: .inr (.inr (some b)) :: .inl sp :: .inr (.inr (some a)) :: st =>
    (match xalen none n a, xalen none n b with
    | some la, some lb => bif decide (0 ≤ k) && decide (0 ≤ sp) && decide (0 ≤ dp) && decide (sp + k ≤ (la : Int)) && decide (dp + k ≤ (lb : Int)) && Nat.ble (xcat st) 8 then some (nx, ls, st, xcpy D a b sp dp k) else none
    | _, _ => none)
  | _ => none
def xo35 (nx : Nat) (ls : xls) (st : xst) (D : xD) : Option xcf := match st with
  | .inl b :: .inl a :: st => bif Nat.ble (xcat st) 8 then some (nx, ls, .inl (max a b) :: st, D) else none
  | _ => none
def xo36 (nx : Nat) (ls : xls) (st : xst) (D : xD) : Option xcf := match st with
  | .inl b :: .inl a :: st => bif Nat.ble (xcat st) 8 then some (nx, ls, .inl (min a b) :: st, D) else none
  | _ => none
def xo37 (x : Int) (nx : Nat) (ls : xls) (st : xst) (D : xD) : Option xcf := some (nx, ls, .inr (.inr (some (1000 + x.toNat))) :: st, D)
def xo38 (nx : Nat) (ls : xls) (st : xst) (D : xD) : Option xcf := match st with
  | .inr (.inr (some a)) :: st => bif Nat.ble 1000 a && Nat.blt a 1007 && Nat.ble (xcat st) 8 then some (nx, ls, .inl ((xstr (a - 1000)).length : Int) :: st, D) else none
  | _ => none
def xo39 (nx : Nat) (ls : xls) (st : xst) (D : xD) : Option xcf := match st with
  | .inl j :: .inr (.inr (some a)) :: st => bif Nat.ble 1000 a && Nat.blt a 1007 && decide (0 ≤ j) && decide (j < ((xstr (a - 1000)).length : Int)) && Nat.ble (xcat st) 8 then some (nx, ls, .inl ((xstr (a - 1000)).getD j.toNat 0) :: st, D) else none
  | _ => none
def xo42 (u nx : Nat) (ls : xls) (st : xst) (D : xD) : Option xcf :=
  bif Nat.beq u 0 then (match st with | .inl b :: .inr (.inl a) :: st => some (nx, ls, .inr (.inl (lshl a b)) :: st, D) | _ => none)
  else bif Nat.beq u 1 then (match st with | .inr (.inl b) :: .inr (.inl a) :: st => some (nx, ls, .inr (.inl (lor a b)) :: st, D) | _ => none)
  else bif Nat.beq u 2 then (match st with | .inr (.inl b) :: .inr (.inl a) :: st => some (nx, ls, .inl (if a < b then -1 else if a = b then 0 else 1) :: st, D) | _ => none)
  else bif Nat.beq u 3 then (match st with | .inl a :: st => some (nx, ls, .inr (.inl a) :: st, D) | _ => none)
  else bif Nat.beq u 4 then (match st with | .inr (.inl a) :: st => bif xib a then some (nx, ls, .inl a :: st, D) else none | _ => none)
  else none
/-- one step that is neither a call nor a return nor a making -/
def xstep (lo : Option Nat) (n : Nat) (F : Nat → Nat → Bool) (i : xi) (ls : xls) (st : xst) (D : xD) : Option xcf :=
  let o := i.1; let x := i.2.1; let u := i.2.2.1; let nx := i.2.2.2.1; let mo := i.2.2.2.2
  bif Nat.blt o 14 then
    bif Nat.beq o 0 then some (nx, ls, .inl x :: st, D)
    else bif Nat.beq o 1 then some (nx, ls, .inr (.inl x) :: st, D)
    else bif Nat.beq o 2 then xo2 u nx ls st D
    else bif Nat.beq o 3 then xo3 u nx ls st D
    else bif Nat.beq o 4 then xo4 u nx ls st D
    else bif Nat.beq o 5 then xo5 u nx ls st D
    else bif Nat.beq o 6 then xo6 u nx ls st D
    else bif Nat.beq o 7 then xo7 x u nx ls st D
    else bif Nat.beq o 8 then xo8 u nx ls st D
    else bif Nat.beq o 9 then xo9 nx ls st D
    else bif Nat.beq o 10 then xo10 nx ls st D
    else bif Nat.beq o 11 then xo11 nx ls st D
    else bif Nat.beq o 12 then xo12 nx ls st D
    else none
  else bif Nat.blt o 25 then
    bif Nat.beq o 14 then xo14 n u nx (mo.getD 0 0) ls st D
    else bif Nat.beq o 15 then xo15 n F x u nx (mo.getD 0 0) ls st D
    else bif Nat.beq o 16 then xo16 n u nx (mo.getD 0 0) ls st D
    else bif Nat.beq o 17 then xo17 n x u nx (mo.getD 0 0) ls st D
    else bif Nat.beq o 19 then xo19 n u nx (mo.getD 0 0) ls st D
    else bif Nat.beq o 20 then xo20 lo n nx ls st D
    else bif Nat.beq o 21 then xo21 n nx ls st D
    else bif Nat.beq o 22 then xo22 n nx ls st D
    else bif Nat.beq o 23 then xo23 n nx ls st D
    else bif Nat.beq o 24 then xo24 lo n nx ls st D
    else none
  else bif Nat.blt o 33 then
    bif Nat.beq o 25 then some (u, ls, st, D)
    else bif Nat.beq o 26 then xo26 x u nx ls st D
    else bif Nat.beq o 27 then xo27 x u nx ls st D
    else bif Nat.beq o 31 then xo31 x u mo ls st D
    else bif Nat.beq o 32 then xo32 u mo ls st D
    else none
  else
    bif Nat.beq o 33 then xo33 nx ls st D
    else bif Nat.beq o 34 then xo34 n nx ls st D
    else bif Nat.beq o 35 then xo35 nx ls st D
    else bif Nat.beq o 36 then xo36 nx ls st D
    else bif Nat.beq o 37 then xo37 x nx ls st D
    else bif Nat.beq o 38 then xo38 nx ls st D
    else bif Nat.beq o 39 then xo39 nx ls st D
    else bif Nat.beq o 42 then xo42 u nx ls st D
    else none
/-- arguments off the stack: of the kinds ks (0 int, 1 reference, 2 long), the last one on top; 'ks' comes reversed -/
def xpop : List Nat → xst → xst → Option (xst × xst)
  | [], st, acc => some (acc, st)
  | 0 :: ks, .inl v :: st, acc => xpop ks st (.inl v :: acc)
  | 1 :: ks, .inr (.inr (some a)) :: st, acc => xpop ks st (.inr (.inr (some a)) :: acc)
  | 2 :: ks, .inr (.inl v) :: st, acc => xpop ks st (.inr (.inl v) :: acc)
  | _, _, _ => none
/-- the locals at a method's entry -/
def xargl : xst → xls
  | [] => []
  | .inr (.inl v) :: r => some (.inr (.inl v)) :: none :: xargl r
  | v :: r => some v :: xargl r
def xentry (k : Nat) (av : xst) : xls := xargl av ++ List.replicate (k - (xargl av).length) none
/-- is the receiver of the method's own kind -/
def xrecv (n y : Nat) (av : xst) : Bool := bif (xsg y).2.2.2.2 then true else match av with
  | .inr (.inr (some a)) :: _ => xisO n a (xsg y).2.2.2.1
  | _ => false
/-- what a return gives: kind u, on the stack st, in a method that answers kind r -/
def xretv (r u : Nat) (st : xst) : Option (Option xv) :=
  bif Nat.beq u 0 then (bif Nat.beq r 0 then (match st with | [] => some none | _ => none) else none)
  else bif Nat.beq u 1 then (match st with
    | [.inl v] => bif Nat.beq r 1 || (Nat.beq r 3 && (decide (v = 0) || decide (v = 1))) then some (some (.inl v)) else none
    | _ => none)
  else bif Nat.beq u 2 then (match st with
    | [.inr (.inl v)] => bif Nat.beq r 2 then some (some (.inr (.inl v))) else none
    | _ => none)
  else none
def xrun (n : Nat) (F : Nat → Nat → Bool) : Nat → Option Nat → Nat → Nat → xls → xst → xD → Option (Option xv × xD)
  | 0, _, _, _, _, _, _ => none
  | f + 1, lo, y, p, ls, st, D =>
    let i := xcd y p
    bif Nat.beq i.1 29 then
      (match xretv (xsg y).2.2.1 i.2.2.1 st with
      | some v => some (v, D)
      | none => none)
    else bif Nat.beq i.1 28 then
      (match xpop (xsg i.2.2.1).1.reverse st [] with
      | some (av, rest) => bif xrecv n i.2.2.1 av && Nat.ble (xcat rest) 8 && !(i.2.1 == 2) && !(Nat.beq i.2.2.1 239) then
          (match xrun n F f none i.2.2.1 0 (xentry (xsg i.2.2.1).2.1 av) [] D with
          | some (v, D') => xrun n F f lo y i.2.2.2.1 ls (v.toList ++ rest) D'
          | none => none)
        else none
      | none => none)
    else
      (match xstep lo n F i ls st D with
      | some (p', ls', st', D') => xrun n F f lo y p' ls' st' D'
      | none => none)
