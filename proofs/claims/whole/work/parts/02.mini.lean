/-! The mini machine: a small evaluator of bytecode over a plain heap (address, slot ↦ Int), forward code by structure, loops by a limit. -/
abbrev mm_V : Type := Nat × Int
abbrev mm_H : Type := Int → Int → Int
abbrev mm_W : Type := (Int → Nat × Int) × Int × Int
abbrev mm_R : Type := mm_V × mm_W × mm_H
abbrev mm_X : Type := Nat × List mm_V × mm_W × mm_H
abbrev mm_O : Type := Nat → List mm_V → mm_W → mm_H → Option mm_R
abbrev mm_L : Type := Nat → List mm_V → mm_W → mm_H → Option (mm_R ⊕ mm_X)
abbrev mm_T : Type := Nat × Nat × List Nat × List Nat
/-! heights, so that the evaluator's own branches are unfolded ahead of the program's -/
def mm_t0 : Nat := 0
def mm_t1 : Nat := mm_t0
def mm_t2 : Nat := mm_t1
def mm_t3 : Nat := mm_t2
def mm_t4 : Nat := mm_t3
def mm_t5 : Nat := mm_t4
def mm_t6 : Nat := mm_t5
def mm_t7 : Nat := mm_t6
def mm_t8 : Nat := mm_t7
def mm_t9 : Nat := mm_t8
def mm_t10 : Nat := mm_t9
def mm_t11 : Nat := mm_t10
def mm_t12 : Nat := mm_t11
def mm_t13 : Nat := mm_t12
def mm_t14 : Nat := mm_t13
def mm_t15 : Nat := mm_t14
def mm_t16 : Nat := mm_t15
def mm_t17 : Nat := mm_t16
def mm_t18 : Nat := mm_t17
def mm_t19 : Nat := mm_t18
def mm_t20 : Nat := mm_t19
def mm_t21 : Nat := mm_t20
def mm_t22 : Nat := mm_t21
def mm_t23 : Nat := mm_t22
def mm_t24 : Nat := mm_t23
def mm_t25 : Nat := mm_t24
def mm_t26 : Nat := mm_t25
def mm_t27 : Nat := mm_t26
def mm_t28 : Nat := mm_t27
def mm_t29 : Nat := mm_t28
def mm_t30 : Nat := mm_t29
def mm_t31 : Nat := mm_t30
def mm_t32 : Nat := mm_t31
def mm_t33 : Nat := mm_t32
def mm_t34 : Nat := mm_t33
def mm_t35 : Nat := mm_t34
def mm_t36 : Nat := mm_t35
def mm_t37 : Nat := mm_t36
def mm_t38 : Nat := mm_t37
def mm_t39 : Nat := mm_t38
def mm_t40 : Nat := mm_t39
def mm_if {α : Type} (b : Bool) (x y : α) : α := let _t := mm_t40; match b with
  | true => x
  | false => y
/-- 32 bits -/
def mI (z : Int) : Int := Int.bmod z 4294967296
/-- 64 bits -/
def mJ (z : Int) : Int := Int.bmod z 18446744073709551616
/-- 16 bits -/
def mS (z : Int) : Int := Int.bmod z 65536
/-- a char -/
def mC6 (z : Int) : Int := Int.emod z 65536
def mAnd (x y : Int) : Int := (Int32.ofInt x &&& Int32.ofInt y).toInt
def mOr (x y : Int) : Int := (Int32.ofInt x ||| Int32.ofInt y).toInt
def mShl (x y : Int) : Int := (Int32.ofInt x <<< (Int32.ofInt y &&& 31)).toInt
def mShr (x y : Int) : Int := (Int32.ofInt x >>> (Int32.ofInt y &&& 31)).toInt
def mUsh (x y : Int) : Int := ((Int32.ofInt x).toUInt32 >>> ((Int32.ofInt y).toUInt32 &&& Int32.toUInt32 31)).toInt32.toInt
def mXor (x y : Int) : Int := (Int32.ofInt x ^^^ Int32.ofInt y).toInt
/-- 8 bits -/
def mB (z : Int) : Int := Int.bmod z 256
def mMax (x y : Int) : Int := if x ≤ y then y else x
def mMin (x y : Int) : Int := if x ≤ y then x else y
def mCmp (x y : Int) : Int := if x < y then -1 else if x = y then 0 else 1
/-- a write -/
def mUp (h : mm_H) (a i z : Int) : mm_H := fun b j => if b = a ∧ j = i then z else h b j
/-- a stretch copied -/
def mCpy (h : mm_H) (s sp d dp n : Int) : mm_H := fun b j => if b = d ∧ dp ≤ j ∧ j < dp + n then h s (sp + (j - dp)) else h b j
/-- a new cell, zeroed -/
def mZero (h : mm_H) (a : Int) : mm_H := fun b j => if b = a then 0 else h b j
def mNew (w : mm_W) (k : Nat) (n : Int) : mm_W := (fun b => if b = w.2.1 then (k, n) else w.1 b, w.2.1 + 1, w.2.2 + n)
def mLt {α : Type} (x y : Int) (a b : α) : α := if x < y then a else b
def mLe {α : Type} (x y : Int) (a b : α) : α := if x ≤ y then a else b
def mEq {α : Type} (x y : Int) (a b : α) : α := if x = y then a else b
/-- a field of an object of the class c -/
def mF {α : Type} (w : mm_W) (a : Int) (c : Nat) (bot k : α) : α := if (w.1 a).1 = c then k else bot
/-- a place of an array of the kind c -/
def mA {α : Type} (w : mm_W) (a i : Int) (c : Nat) (bot k : α) : α := if (w.1 a).1 = c ∧ 0 ≤ i ∧ i < (w.1 a).2 then k else bot
/-- a place of an array of ints that is written -/
def mAw {α : Type} (w : mm_W) (a i : Int) (bot k : α) : α := if (w.1 a).1 = 50 ∧ 0 ≤ i ∧ i < (w.1 a).2 ∧ 0 < a then k else bot
/-- a place of an array of booleans or bytes -/
def mAb {α : Type} (w : mm_W) (a i : Int) (bot k : α) : α := if ((w.1 a).1 = 52 ∨ (w.1 a).1 = 54) ∧ 0 ≤ i ∧ i < (w.1 a).2 then k else bot
/-- a divisor -/
def mD {α : Type} (y : Int) (bot k : α) : α := if y = 0 then bot else k
/-- an array of references -/
def mAr {α : Type} (w : mm_W) (a i : Int) (bot k : α) : α := if 100 ≤ (w.1 a).1 ∧ 0 ≤ i ∧ i < (w.1 a).2 then k else bot
def mAs {α : Type} (w : mm_W) (a i v : Int) (bot k : α) : α := if 100 ≤ (w.1 a).1 ∧ 0 ≤ i ∧ i < (w.1 a).2 ∧ 0 < v ∧ (w.1 v).1 + 100 = (w.1 a).1 then k else bot
/-- any array -/
def mN {α : Type} (w : mm_W) (a : Int) (bot k : α) : α := if 50 ≤ (w.1 a).1 then k else bot
/-- a length that can be made -/
def mM {α : Type} (n : Int) (bot k : α) : α := if 0 ≤ n ∧ n ≤ 1000000 then k else bot
def mZ {α : Type} (x : Int) (bot k : α) : α := if x = 0 ∨ x = 1 then k else bot
/-- a char, a byte that is answered -/
def mRc {α : Type} (x : Int) (bot k : α) : α := if 0 ≤ x ∧ x < 65536 then k else bot
def mRb {α : Type} (x : Int) (bot k : α) : α := if -128 ≤ x ∧ x < 128 then k else bot
def mCy {α : Type} (w : mm_W) (s sp d dp n : Int) (bot k : α) : α := if (w.1 s).1 = 50 ∧ (w.1 d).1 = 50 ∧ 0 < s ∧ 0 < d ∧ 0 ≤ sp ∧ 0 ≤ dp ∧ 0 ≤ n ∧ sp + n ≤ (w.1 s).2 ∧ dp + n ≤ (w.1 d).2 then k else bot
/-- a call that came back with a value of the tag t -/
def mC {α : Type} (r : Option mm_R) (t : Nat) (bot : α) (k : Int → mm_W → mm_H → α) : α := match r with
  | none => bot
  | some r => if r.1.1 = t then k r.1.2 r.2.1 r.2.2 else bot
/-- a loop that ended -/
def mK {α : Type} (r : Option (mm_R ⊕ mm_X)) (bot : α) (ρ : mm_R → α) (k : Nat → List mm_V → mm_W → mm_H → α) : α := match r with
  | none => bot
  | some (.inl r) => ρ r
  | some (.inr x) => k x.1 x.2.1 x.2.2.1 x.2.2.2
/-- local number i, its payload -/
def mP (i : Nat) (L : List mm_V) : Int := (L.getD i (9, 0)).2
def mm_nrm : List Nat → Nat → List mm_V → List mm_V
  | [], _, _ => []
  | t :: ts, i, L => (mm_if (Nat.beq t 9) (9, 0) (mm_if (Nat.beq t 8) (8, 0) (t, mP i L))) :: mm_nrm ts (i + 1) L
def mm_get : Nat → List mm_V → mm_V
  | _, [] => (9, 0)
  | 0, v :: _ => v
  | n + 1, _ :: L => mm_get n L
/-- the locals bear the loop's tags -/
def mm_okt : List Nat → Nat → List mm_V → Bool
  | [], _, _ => true
  | t :: ts, i, L => (Nat.beq t 9 || (Nat.beq t 8 || Nat.beq (mm_get i L).1 t)) && mm_okt ts (i + 1) L
def mm_put : Nat → mm_V → List mm_V → List mm_V
  | _, _, [] => []
  | 0, v, _ :: L => v :: L
  | n + 1, v, x :: L => x :: mm_put n v L
/-- not a long -/
def mm_nl : mm_V → mm_V
  | (1, _) => (9, 0)
  | x => x
/-- a store; a long just ahead of the place is cut -/
def mm_set : Nat → mm_V → List mm_V → List mm_V
  | _, _, [] => []
  | 0, v, _ :: L => v :: L
  | 1, _, [x] => [mm_nl x]
  | 1, v, x :: _ :: L => mm_nl x :: v :: L
  | n + 2, v, x :: L => x :: mm_set (n + 1) v L
def mm_split : Nat → List mm_V → List mm_V → Option (List mm_V × List mm_V)
  | 0, acc, st => some (acc, st)
  | _ + 1, _, [] => none
  | n + 1, acc, v :: st => mm_split n (v :: acc) st
/-- how much of the operand stack lies below a call -/
def mm_cats : List mm_V → Nat
  | [] => 0
  | v :: st => Nat.add (mm_if (Nat.beq v.1 1) 2 1) (mm_cats st)
def mm_ex {α : Type} (t : Nat) (bot : α) (k : Nat → α) : List Nat → α
  | [] => bot
  | e :: es => if t = e then k e else mm_ex t bot k es
def mm_sw {α : Type} (x : Int) (dflt : α) (k : Int → α) : List (Int × Int) → α
  | [] => dflt
  | q :: qs => mEq x q.1 (k q.2) (mm_sw x dflt k qs)
def mm_loc : List mm_V → List mm_V
  | [] => []
  | (1, x) :: vs => (1, x) :: (8, 0) :: mm_loc vs
  | v :: vs => v :: mm_loc vs
def mm_pad : Nat → List mm_V → List mm_V
  | 0, _ => []
  | n + 1, [] => (9, 0) :: mm_pad n []
  | n + 1, v :: vs => v :: mm_pad n vs
def mm_go {α : Type} (O : mm_O) (lp : mm_L) (lt : Nat → List Nat × List Nat) (hi : Nat) (bot : α) (ρ : mm_R → α) (kj : Nat → List mm_V → List mm_V → mm_W → mm_H → α) : List (Nat × Instr) → Nat → List mm_V → List mm_V → mm_W → mm_H → α
  | [], _, _, _, _, _ => bot
  | (pc, i) :: tl, sk, L, st, w, h =>
    mm_if (Nat.blt pc sk) (mm_go O lp lt hi bot ρ kj tl sk L st w h) (mm_if (Nat.blt 0 sk && Nat.blt sk pc) bot (mm_if (Nat.ble hi pc) (kj pc L st w h) (
      match i, st with
      | .iconst n, st => mm_go O lp lt hi bot ρ kj tl 0 L ((0, n) :: st) w h
      | .jsr n, st => mm_go O lp lt hi bot ρ kj tl 0 L ((1, n) :: st) w h
      | .sipush n, st => mm_go O lp lt hi bot ρ kj tl 0 L ((2, n) :: st) w h
      | .iload n, st => (match mm_get n L with
        | (0, x) => mm_go O lp lt hi bot ρ kj tl 0 L ((0, x) :: st) w h
        | _ => bot)
      | .lload n, st => (match mm_get n L with
        | (1, x) => mm_go O lp lt hi bot ρ kj tl 0 L ((1, x) :: st) w h
        | _ => bot)
      | .aload n, st => (match mm_get n L with
        | (2, x) => mm_go O lp lt hi bot ρ kj tl 0 L ((2, x) :: st) w h
        | (3, x) => mm_go O lp lt hi bot ρ kj tl 0 L ((3, x) :: st) w h
        | _ => bot)
      | .istore n, (0, x) :: st => mm_go O lp lt hi bot ρ kj tl 0 (mm_set n (0, x) L) st w h
      | .astore n, (2, x) :: st => mm_go O lp lt hi bot ρ kj tl 0 (mm_set n (2, x) L) st w h
      | .lstore n, (1, x) :: st => mm_go O lp lt hi bot ρ kj tl 0 (mm_put (n + 1) (8, 0) (mm_set n (1, x) L)) st w h
      | .iinc n k, st => (match mm_get n L with
        | (0, x) => mm_go O lp lt hi bot ρ kj tl 0 (mm_put n (0, mI (x + k)) L) st w h
        | _ => bot)
      | .iadd, (0, y) :: (0, x) :: st => mm_go O lp lt hi bot ρ kj tl 0 L ((0, mI (x + y)) :: st) w h
      | .isub, (0, y) :: (0, x) :: st => mm_go O lp lt hi bot ρ kj tl 0 L ((0, mI (x - y)) :: st) w h
      | .imul, (0, y) :: (0, x) :: st => mm_go O lp lt hi bot ρ kj tl 0 L ((0, mI (x * y)) :: st) w h
      | .idiv, (0, y) :: (0, x) :: st => mD y bot (mm_go O lp lt hi bot ρ kj tl 0 L ((0, mI (Int.tdiv x y)) :: st) w h)
      | .irem, (0, y) :: (0, x) :: st => mD y bot (mm_go O lp lt hi bot ρ kj tl 0 L ((0, Int.tmod x y) :: st) w h)
      | .ineg, (0, x) :: st => mm_go O lp lt hi bot ρ kj tl 0 L ((0, mI (-x)) :: st) w h
      | .iand, (0, y) :: (0, x) :: st => mm_go O lp lt hi bot ρ kj tl 0 L ((0, mAnd x y) :: st) w h
      | .ior, (0, y) :: (0, x) :: st => mm_go O lp lt hi bot ρ kj tl 0 L ((0, mOr x y) :: st) w h
      | .ixor, (0, y) :: (0, x) :: st => mm_go O lp lt hi bot ρ kj tl 0 L ((0, mXor x y) :: st) w h
      | .ishl, (0, y) :: (0, x) :: st => mm_go O lp lt hi bot ρ kj tl 0 L ((0, mShl x y) :: st) w h
      | .ishr, (0, y) :: (0, x) :: st => mm_go O lp lt hi bot ρ kj tl 0 L ((0, mShr x y) :: st) w h
      | .iushr, (0, y) :: (0, x) :: st => mm_go O lp lt hi bot ρ kj tl 0 L ((0, mUsh x y) :: st) w h
      | .i2l, (0, x) :: st => mm_go O lp lt hi bot ρ kj tl 0 L ((1, x) :: st) w h
      | .l2i, (1, x) :: st => mm_go O lp lt hi bot ρ kj tl 0 L ((0, mI x) :: st) w h
      | .i2s, (0, x) :: st => mm_go O lp lt hi bot ρ kj tl 0 L ((0, mS x) :: st) w h
      | .i2b, (0, x) :: st => mm_go O lp lt hi bot ρ kj tl 0 L ((0, mB x) :: st) w h
      | .i2c, (0, x) :: st => mm_go O lp lt hi bot ρ kj tl 0 L ((0, mC6 x) :: st) w h
      | .ladd, (1, y) :: (1, x) :: st => mm_go O lp lt hi bot ρ kj tl 0 L ((1, mJ (x + y)) :: st) w h
      | .lsub, (1, y) :: (1, x) :: st => mm_go O lp lt hi bot ρ kj tl 0 L ((1, mJ (x - y)) :: st) w h
      | .lmul, (1, y) :: (1, x) :: st => mm_go O lp lt hi bot ρ kj tl 0 L ((1, mJ (x * y)) :: st) w h
      | .lneg, (1, x) :: st => mm_go O lp lt hi bot ρ kj tl 0 L ((1, mJ (-x)) :: st) w h
      | .lcmp, (1, y) :: (1, x) :: st => mm_go O lp lt hi bot ρ kj tl 0 L ((0, mCmp x y) :: st) w h
      | .dadd, (0, y) :: (0, x) :: st => mm_if (Nat.ble (mm_cats st) 24) (mm_go O lp lt hi bot ρ kj tl 0 L ((0, mMax x y) :: st) w h) bot
      | .dsub, (0, y) :: (0, x) :: st => mm_if (Nat.ble (mm_cats st) 24) (mm_go O lp lt hi bot ρ kj tl 0 L ((0, mMin x y) :: st) w h) bot
      | .checkcast c, (2, a) :: st => mm_if (Nat.ble (mm_cats st) 24) (mF w a c bot (mm_go O lp lt hi bot ρ kj tl 0 L st w h)) bot
      | .dup, (2, x) :: st => mm_go O lp lt hi bot ρ kj tl 0 L ((2, x) :: (2, x) :: st) w h
      | .dup, (0, x) :: st => mm_go O lp lt hi bot ρ kj tl 0 L ((0, x) :: (0, x) :: st) w h
      | .dup2, (0, y) :: (2, x) :: st => mm_go O lp lt hi bot ρ kj tl 0 L ((0, y) :: (2, x) :: (0, y) :: (2, x) :: st) w h
      | .pop, (0, _) :: st => mm_go O lp lt hi bot ρ kj tl 0 L st w h
      | .pop, (3, _) :: st => mm_go O lp lt hi bot ρ kj tl 0 L st w h
      | .getstatic _, st => mm_go O lp lt hi bot ρ kj tl 0 L ((3, 0) :: st) w h
      | .pop, (2, _) :: st => mm_go O lp lt hi bot ρ kj tl 0 L st w h
      | .goto t, st => mm_if (Nat.blt pc t.toNat && Nat.blt t.toNat hi) (mm_go O lp lt hi bot ρ kj tl t.toNat L st w h) (kj t.toNat L st w h)
      | .if_icmp c t, (0, y) :: (0, x) :: st => (match c with
        | .lt => mLt x y (mm_if (Nat.blt pc t.toNat && Nat.blt t.toNat hi) (mm_go O lp lt hi bot ρ kj tl t.toNat L st w h) (kj t.toNat L st w h)) (mm_go O lp lt hi bot ρ kj tl 0 L st w h)
        | .le => mLe x y (mm_if (Nat.blt pc t.toNat && Nat.blt t.toNat hi) (mm_go O lp lt hi bot ρ kj tl t.toNat L st w h) (kj t.toNat L st w h)) (mm_go O lp lt hi bot ρ kj tl 0 L st w h)
        | .gt => mLt y x (mm_if (Nat.blt pc t.toNat && Nat.blt t.toNat hi) (mm_go O lp lt hi bot ρ kj tl t.toNat L st w h) (kj t.toNat L st w h)) (mm_go O lp lt hi bot ρ kj tl 0 L st w h)
        | .ge => mLe y x (mm_if (Nat.blt pc t.toNat && Nat.blt t.toNat hi) (mm_go O lp lt hi bot ρ kj tl t.toNat L st w h) (kj t.toNat L st w h)) (mm_go O lp lt hi bot ρ kj tl 0 L st w h)
        | .eq => mEq x y (mm_if (Nat.blt pc t.toNat && Nat.blt t.toNat hi) (mm_go O lp lt hi bot ρ kj tl t.toNat L st w h) (kj t.toNat L st w h)) (mm_go O lp lt hi bot ρ kj tl 0 L st w h)
        | .ne => mEq x y (mm_go O lp lt hi bot ρ kj tl 0 L st w h) (mm_if (Nat.blt pc t.toNat && Nat.blt t.toNat hi) (mm_go O lp lt hi bot ρ kj tl t.toNat L st w h) (kj t.toNat L st w h)))
      | .ifCond c t, (0, x) :: st => (match c with
        | .lt => mLt x 0 (mm_if (Nat.blt pc t.toNat && Nat.blt t.toNat hi) (mm_go O lp lt hi bot ρ kj tl t.toNat L st w h) (kj t.toNat L st w h)) (mm_go O lp lt hi bot ρ kj tl 0 L st w h)
        | .le => mLe x 0 (mm_if (Nat.blt pc t.toNat && Nat.blt t.toNat hi) (mm_go O lp lt hi bot ρ kj tl t.toNat L st w h) (kj t.toNat L st w h)) (mm_go O lp lt hi bot ρ kj tl 0 L st w h)
        | .gt => mLt 0 x (mm_if (Nat.blt pc t.toNat && Nat.blt t.toNat hi) (mm_go O lp lt hi bot ρ kj tl t.toNat L st w h) (kj t.toNat L st w h)) (mm_go O lp lt hi bot ρ kj tl 0 L st w h)
        | .ge => mLe 0 x (mm_if (Nat.blt pc t.toNat && Nat.blt t.toNat hi) (mm_go O lp lt hi bot ρ kj tl t.toNat L st w h) (kj t.toNat L st w h)) (mm_go O lp lt hi bot ρ kj tl 0 L st w h)
        | .eq => mEq x 0 (mm_if (Nat.blt pc t.toNat && Nat.blt t.toNat hi) (mm_go O lp lt hi bot ρ kj tl t.toNat L st w h) (kj t.toNat L st w h)) (mm_go O lp lt hi bot ρ kj tl 0 L st w h)
        | .ne => mEq x 0 (mm_go O lp lt hi bot ρ kj tl 0 L st w h) (mm_if (Nat.blt pc t.toNat && Nat.blt t.toNat hi) (mm_go O lp lt hi bot ρ kj tl t.toNat L st w h) (kj t.toNat L st w h)))
      | .ifnull t, (2, x) :: st => mEq x 0 (mm_if (Nat.blt pc t.toNat && Nat.blt t.toNat hi) (mm_go O lp lt hi bot ρ kj tl t.toNat L st w h) (kj t.toNat L st w h)) (mm_go O lp lt hi bot ρ kj tl 0 L st w h)
      | .ifnonnull t, (2, x) :: st => mEq x 0 (mm_go O lp lt hi bot ρ kj tl 0 L st w h) (mm_if (Nat.blt pc t.toNat && Nat.blt t.toNat hi) (mm_go O lp lt hi bot ρ kj tl t.toNat L st w h) (kj t.toNat L st w h))
      | .lookupswitch d ps, (0, x) :: st => mm_sw x (mm_if (Nat.blt pc d.toNat && Nat.blt d.toNat hi) (mm_go O lp lt hi bot ρ kj tl d.toNat L st w h) (kj d.toNat L st w h)) (fun t => mm_if (Nat.blt pc t.toNat && Nat.blt t.toNat hi) (mm_go O lp lt hi bot ρ kj tl t.toNat L st w h) (kj t.toNat L st w h)) ps.toList
      | .getfield e, (2, a) :: st => mF w a (Nat.div e 256) bot (mm_go O lp lt hi bot ρ kj tl 0 L ((Nat.mod e 4, h a (Int.ofNat (Nat.mod (Nat.div e 4) 64))) :: st) w h)
      | .putfield e, (t, z) :: (2, a) :: st => mm_if (Nat.beq t (Nat.mod e 4)) (mF w a (Nat.div e 256) bot (mm_if (Nat.beq t 2) (mLe 0 z (mm_go O lp lt hi bot ρ kj tl 0 L st w (mUp h a (Int.ofNat (Nat.mod (Nat.div e 4) 64)) z)) bot) (mm_go O lp lt hi bot ρ kj tl 0 L st w (mUp h a (Int.ofNat (Nat.mod (Nat.div e 4) 64)) z)))) bot
      | .putstatic e, (0, z) :: (2, a) :: st => mZ z bot (mF w a (Nat.div e 256) bot (mm_go O lp lt hi bot ρ kj tl 0 L st w (mUp h a (Int.ofNat (Nat.mod (Nat.div e 4) 64)) z)))
      | .iaload, (0, j) :: (2, a) :: st => mA w a j 50 bot (mm_go O lp lt hi bot ρ kj tl 0 L ((0, h a j) :: st) w h)
      | .saload, (0, j) :: (2, a) :: st => mA w a j 51 bot (mm_go O lp lt hi bot ρ kj tl 0 L ((0, h a j) :: st) w h)
      | .baload, (0, j) :: (2, a) :: st => mAb w a j bot (mm_go O lp lt hi bot ρ kj tl 0 L ((0, h a j) :: st) w h)
      | .laload, (0, j) :: (2, a) :: st => mA w a j 53 bot (mm_go O lp lt hi bot ρ kj tl 0 L ((1, h a j) :: st) w h)
      | .aaload, (0, j) :: (2, a) :: st => mAr w a j bot (mm_go O lp lt hi bot ρ kj tl 0 L ((2, h a j) :: st) w h)
      | .iastore, (0, x) :: (0, j) :: (2, a) :: st => mAw w a j bot (mm_go O lp lt hi bot ρ kj tl 0 L st w (mUp h a j x))
      | .sastore, (0, x) :: (0, j) :: (2, a) :: st => mA w a j 51 bot (mm_go O lp lt hi bot ρ kj tl 0 L st w (mUp h a j (mS x)))
      | .bastore, (0, x) :: (0, j) :: (2, a) :: st => mZ x bot (mA w a j 52 bot (mm_go O lp lt hi bot ρ kj tl 0 L st w (mUp h a j x)))
      | .lastore, (1, x) :: (0, j) :: (2, a) :: st => mA w a j 53 bot (mm_go O lp lt hi bot ρ kj tl 0 L st w (mUp h a j x))
      | .aastore, (2, x) :: (0, j) :: (2, a) :: st => mAs w a j x bot (mm_go O lp lt hi bot ρ kj tl 0 L st w (mUp h a j x))
      | .arraylength, (2, a) :: st => mN w a bot (mm_go O lp lt hi bot ρ kj tl 0 L ((0, (w.1 a).2) :: st) w h)
      | .new e, st => mm_go O lp lt hi bot ρ kj tl 0 L ((2, w.2.1) :: st) (mNew w (Nat.div e 64) (Int.ofNat (Nat.mod e 64))) (mZero h w.2.1)
      | .anewarray k, (0, n) :: st => mM n bot (mm_go O lp lt hi bot ρ kj tl 0 L ((2, w.2.1) :: st) (mNew w k n) (mZero h w.2.1))
      | .daload, [(0, n), (0, dp), (2, d), (0, sp), (2, s)] => mCy w s sp d dp n bot (mm_go O lp lt hi bot ρ kj tl 0 L [] w (mCpy h s sp d dp n))
      | .invokestatic e, st => (match mm_split (Nat.mod (Nat.div e 4096) 16) [] st with
        | none => bot
        | some (as, st) => mm_if (Nat.ble (mm_cats st) 24) (mC (O (Nat.div e 65536) as w h) (Nat.mod (Nat.div e 256) 16) bot (fun v w h => mm_if (Nat.beq (Nat.mod (Nat.div e 256) 16) 9) (mm_go O lp lt hi bot ρ kj tl 0 L st w h) (mm_go O lp lt hi bot ρ kj tl 0 L ((Nat.mod (Nat.div e 256) 16, v) :: st) w h))) bot)
      | .invokevirtual e, st => (match mm_split (Nat.mod (Nat.div e 4096) 16) [] st with
        | some ((2, a) :: as, st) => mm_if (Nat.ble (mm_cats st) 24) (mF w a (Nat.mod e 256) bot (mC (O (Nat.div e 65536) ((2, a) :: as) w h) (Nat.mod (Nat.div e 256) 16) bot (fun v w h => mm_if (Nat.beq (Nat.mod (Nat.div e 256) 16) 9) (mm_go O lp lt hi bot ρ kj tl 0 L st w h) (mm_go O lp lt hi bot ρ kj tl 0 L ((Nat.mod (Nat.div e 256) 16, v) :: st) w h)))) bot
        | _ => bot)
      | .ireturn, [(0, x)] => ρ ((0, x), w, h)
      | .freturn, [(0, x)] => mZ x bot (ρ ((0, x), w, h))
      | .dreturn, [(0, x)] => mRc x bot (ρ ((0, x), w, h))
      | .fneg, [(0, x)] => mRb x bot (ρ ((0, x), w, h))
      | .lreturn, [(1, x)] => ρ ((1, x), w, h)
      | .areturn, [(2, x)] => ρ ((2, x), w, h)
      | .return_, [] => ρ ((9, 0), w, h)
      | .jsr_w j, [] => mm_if (mm_okt (lt j.toNat).1 0 L) (mK (lp j.toNat (mm_nrm (lt j.toNat).1 0 L) w h) bot ρ (fun t L w h => mm_ex t bot (fun e => mm_if (Nat.blt pc e && Nat.blt e hi) (mm_go O lp lt hi bot ρ kj tl e (mm_nrm (lt j.toNat).1 0 L) [] w h) (kj e (mm_nrm (lt j.toNat).1 0 L) [] w h)) (lt j.toNat).2)) bot
      | _, _ => bot)))
