/-! THE SMALL MACHINE. Memory: ints, longs and references by cell and place. A cell is an object (64 * its kind + its turn) or an array (1024 + 64 * its owner + the slot); references are cell numbers. -/
abbrev Mm : Type := (Nat → Nat → Int32) × (Nat → Nat → Int64) × (Nat → Nat → Nat)
def sI (M : Mm) (k j : Nat) (v : Int32) : Mm := (fun a b => if a = k ∧ b = j then v else M.1 a b, M.2.1, M.2.2)
def sJ (M : Mm) (k j : Nat) (v : Int64) : Mm := (M.1, fun a b => if a = k ∧ b = j then v else M.2.1 a b, M.2.2)
def sR (M : Mm) (k j : Nat) (v : Nat) : Mm := (M.1, M.2.1, fun a b => if a = k ∧ b = j then v else M.2.2 a b)
/-- n places of the int array x from sp on, laid into y from dp on -/
def cpI (M : Mm) (x y sp dp n : Nat) : Mm := (fun a b => if a = y ∧ dp ≤ b ∧ b < dp + n then M.1 x (sp + (b - dp)) else M.1 a b, M.2.1, M.2.2)
def cpJ (M : Mm) (x y sp dp n : Nat) : Mm := (M.1, fun a b => if a = y ∧ dp ≤ b ∧ b < dp + n then M.2.1 x (sp + (b - dp)) else M.2.1 a b, M.2.2)
def nfL : List Nat := [12, 8, 3, 11, 6, 3, 2, 0, 19, 11, 15, 12, 41]
def cntL : List Nat := [3, 1, 1, 1, 1, 1, 1, 0, 2, 1, 1, 1, 1]
/-- kinds of fields: 0 int, 1 long, 2 an object for good, 3 an array for good, 4 a constant of the enum, 5 boolean -/
def fkL : List (List Nat) := [[2, 3, 3, 3, 3, 3, 3, 3, 3, 1, 1, 1], [2, 2, 0, 3, 3, 3, 3, 3], [2, 2, 2], [2, 3, 3, 3, 0, 4, 0, 0, 3, 3, 3], [2, 3, 3, 3, 1, 0], [2, 3, 3], [3, 0], [], [0, 0, 3, 0, 0, 0, 3, 3, 3, 0, 0, 3, 0, 3, 0, 3, 0, 3, 3], [2, 2, 0, 0, 5, 5, 3, 0, 0, 0, 0], [0, 0, 0, 0, 0, 0, 0, 3, 3, 3, 3, 3, 3, 0, 5], [2, 2, 2, 2, 2, 2, 2, 2, 2, 2, 5, 0], [0, 3, 3, 5, 3, 0, 0, 0, 0, 0, 0, 3, 0, 3, 0, 0, 3, 3, 3, 0, 0, 0, 1, 1, 3, 3, 3, 3, 3, 1, 3, 3, 3, 3, 3, 3, 3, 3, 1, 3, 3]]
def fk (c s : Nat) : Nat := (fkL.getD c []).getD s 9
/-- arrays of an object: kind (1 int, 2 long, 3 byte, 4 references to the enum) and length -/
def alL : List (List (Nat × Nat)) := [[(0, 0), (1, 8), (1, 24), (2, 9), (2, 64), (2, 64), (2, 8), (2, 8), (2, 24), (0, 0), (0, 0), (0, 0)], [(0, 0), (0, 0), (0, 0), (1, 512), (1, 512), (2, 8), (2, 8), (1, 8)], [(0, 0), (0, 0), (0, 0)], [(0, 0), (4, 401), (1, 401), (1, 401), (0, 0), (0, 0), (0, 0), (0, 0), (1, 3), (1, 3), (2, 14)], [(0, 0), (2, 32), (2, 32), (2, 256), (0, 0), (0, 0)], [(0, 0), (2, 8), (2, 8)], [(3, 400), (0, 0)], [], [(0, 0), (0, 0), (1, 4), (0, 0), (0, 0), (0, 0), (1, 12), (1, 3), (1, 3), (0, 0), (0, 0), (1, 25), (0, 0), (2, 84), (0, 0), (1, 18), (0, 0), (3, 400), (1, 3)], [(0, 0), (0, 0), (0, 0), (0, 0), (0, 0), (0, 0), (1, 3), (0, 0), (0, 0), (0, 0), (0, 0)], [(0, 0), (0, 0), (0, 0), (0, 0), (0, 0), (0, 0), (0, 0), (1, 4), (1, 96), (1, 96), (1, 48), (1, 3), (1, 3), (0, 0), (0, 0)], [(0, 0), (0, 0), (0, 0), (0, 0), (0, 0), (0, 0), (0, 0), (0, 0), (0, 0), (0, 0), (0, 0), (0, 0)], [(0, 0), (1, 6292), (1, 5461), (0, 0), (3, 400), (0, 0), (0, 0), (0, 0), (0, 0), (0, 0), (0, 0), (1, 5), (0, 0), (1, 400), (0, 0), (0, 0), (1, 3), (1, 3), (1, 3), (0, 0), (0, 0), (0, 0), (0, 0), (0, 0), (2, 64), (2, 256), (1, 8), (1, 8), (2, 8), (0, 0), (2, 48), (2, 2), (1, 8), (2, 24), (2, 24), (2, 8), (2, 8), (1, 8), (0, 0), (2, 8), (2, 8)]]
def al (c s : Nat) : Nat × Nat := (alL.getD c []).getD s (0, 0)
def isOb (c o : Nat) : Bool := Nat.beq (o / 64) c && Nat.blt (o % 64) (cntL.getD c 0)
def typ (k : Nat) : Nat := if k = 70000 then 2 else (al ((k - 1024) / 4096) ((k - 1024) % 64)).1
def len (k : Nat) : Nat := if k = 70000 then 1 else (al ((k - 1024) / 4096) ((k - 1024) % 64)).2
/-- an array that there is: its owner is one of the objects -/
def isAr (k : Nat) : Bool := Nat.beq k 70000 || (Nat.ble 1024 k && Nat.blt (((k - 1024) / 64) % 64) (cntL.getD ((k - 1024) / 4096) 0) && !(Nat.beq (typ k) 0))
def rcL : List (Nat × Nat × Nat) := [(0, 0, 640), (1, 0, 640), (2, 0, 640), (64, 0, 640), (64, 1, 2), (128, 0, 640), (128, 1, 0), (128, 2, 1), (192, 0, 384), (256, 0, 640), (320, 0, 640), (576, 0, 640), (576, 1, 512), (704, 0, 384), (704, 1, 192), (704, 2, 512), (704, 3, 513), (704, 4, 640), (704, 5, 128), (704, 6, 64), (704, 7, 256), (704, 8, 320), (704, 9, 576)]
def rcf : List (Nat × Nat × Nat) → Nat → Nat → Nat
  | [], _, _ => 0
  | (x, y, z) :: t, o, s => cond (Nat.beq x o && Nat.beq y s) z (rcf t o s)
def RC (o s : Nat) : Nat := rcf rcL o s
def ai (o s : Nat) : Nat := 1024 + 64 * o + s
/-- the enum's constants are 70100 on, its texts 70200 on -/
def isE (r : Nat) : Bool := Nat.ble 70100 r && Nat.blt r 70118
def weiL : List Nat := [4, 5, 3, 4, 2, 3, 3, 5, 1, 2, 2, 5, 1, 3, 1, 4, 1, 5]
/-- the texts: the enum's spellings, then the reference's words -/
def strL : List (List Nat) := [[], [], [], [100, 114, 97, 119], [105, 102], [111, 114], [97, 110, 100], [110, 111, 116], [98, 114, 111, 107, 101, 110], [108, 101, 118, 101, 108], [116, 111, 112], [102, 97, 114, 109], [40], [41], [43], [60], [62], [59], [100, 114, 97, 119], [105, 102], [110, 111, 116], [98, 114, 111, 107, 101, 110], [108, 101, 118, 101, 108], [116, 111, 112], [102, 97, 114, 109], [97, 110, 100], [111, 114]]
def str (r : Nat) : List Nat := strL.getD (r - 70200) []
def isS (r : Nat) : Bool := Nat.ble 70200 r && Nat.blt r 70227
abbrev Lo : Type := List (Option Value)
def lgt : Lo → Nat → Option Value
  | [], _ => none
  | a :: _, 0 => a
  | _ :: t, n + 1 => lgt t n
def lkill (a : Option Value) : Option Value := match a with
  | some (.long _) => none
  | x => x
/-- a value of one place: a long that stood just ahead is gone -/
def lst1 : Lo → Nat → Option Value → Lo
  | [], _, _ => []
  | _ :: t, 0, v => v :: t
  | a :: t, 1, v => lkill a :: lst1 t 0 v
  | a :: t, n + 2, v => a :: lst1 t (n + 1) v
def lst2 : Lo → Nat → Option Value → Lo
  | [], _, _ => []
  | [_], 0, _ => [none]
  | _ :: _ :: t, 0, v => v :: none :: t
  | a :: t, 1, v => lkill a :: lst2 t 0 v
  | a :: t, n + 2, v => a :: lst2 t (n + 1) v
/-- only the locals of this mask stay -/
def trim : Nat → Lo → Lo
  | _, [] => []
  | m, a :: t => cond (Nat.beq (m % 2) 1) a none :: trim (m / 2) t
/-- n values off the stack, the lowest first -/
def popA : Nat → List Value → List Value → Option (List Value × List Value)
  | 0, st, acc => some (acc, st)
  | _ + 1, [], _ => none
  | n + 1, v :: st, acc => popA n st (v :: acc)
def cats : List Value → Nat
  | [] => 0
  | .int _ :: t => 1 + cats t
  | .long _ :: t => 2 + cats t
  | .ref _ :: t => 1 + cats t
  | _ :: t => 2 + cats t
def br (c : Jvm.ClassFile.Cond) (x y : Int32) (A B : Prop) : Prop := match c with
  | .eq => (x = y → A) ∧ (¬ x = y → B)
  | .ne => (¬ x = y → A) ∧ (x = y → B)
  | .lt => (x < y → A) ∧ (¬ x < y → B)
  | .ge => (y ≤ x → A) ∧ (¬ y ≤ x → B)
  | .gt => (y < x → A) ∧ (¬ y < x → B)
  | .le => (x ≤ y → A) ∧ (¬ x ≤ y → B)
def swt (x : Int32) (K : Nat → Prop) : Nat → List Int → Prop → Prop
  | _, [], D => D
  | lo, t :: ts, D => (x = nI lo → K t.toNat) ∧ (¬ x = nI lo → swt x K (lo + 1) ts D)
abbrev CT : Type := Nat → List Value → Mm → (List Value → Mm → Prop) → Prop
abbrev TT : Type := Nat → List Value → Mm → (Nat → Mm → Prop) → Prop
abbrev RT : Type := Nat → List Value → Nat → Mm → Prop
abbrev KT : Type := Nat → Nat → Lo → List Value → Mm → Prop
abbrev HT : Type := Nat → Nat → Lo → Mm → Prop
abbrev kT : Type := Nat → Lo → List Value → Mm → Prop
/-- numbers: what they ask -/
def exN (i : Instr) (st : List Value) (k : List Value → Prop) : Prop := match i with
  | .iadd => match st with | .int y :: .int x :: st => k (.int (x + y) :: st) | _ => False
  | .isub => match st with | .int y :: .int x :: st => k (.int (x - y) :: st) | _ => False
  | .imul => match st with | .int y :: .int x :: st => k (.int (x * y) :: st) | _ => False
  | .idiv => match st with | .int y :: .int x :: st => ¬ y = 0 ∧ k (.int (x / y) :: st) | _ => False
  | .irem => match st with | .int y :: .int x :: st => ¬ y = 0 ∧ k (.int (x - x / y * y) :: st) | _ => False
  | .ineg => match st with | .int x :: st => k (.int (-x) :: st) | _ => False
  | .iand => match st with | .int y :: .int x :: st => k (.int (x &&& y) :: st) | _ => False
  | .ior => match st with | .int y :: .int x :: st => k (.int (x ||| y) :: st) | _ => False
  | .ixor => match st with | .int y :: .int x :: st => k (.int (x ^^^ y) :: st) | _ => False
  | .ishl => match st with | .int y :: .int x :: st => k (.int (x <<< (y &&& 31)) :: st) | _ => False
  | .ishr => match st with | .int y :: .int x :: st => k (.int (x >>> (y &&& 31)) :: st) | _ => False
  | .iushr => match st with | .int y :: .int x :: st => k (.int (x.toUInt32 >>> (y.toUInt32 &&& Int32.toUInt32 31)).toInt32 :: st) | _ => False
  | .ladd => match st with | .long y :: .long x :: st => k (.long (x + y) :: st) | _ => False
  | .lsub => match st with | .long y :: .long x :: st => k (.long (x - y) :: st) | _ => False
  | .lmul => match st with | .long y :: .long x :: st => k (.long (x * y) :: st) | _ => False
  | .ldiv => match st with | .long y :: .long x :: st => ¬ y = 0 ∧ k (.long (x / y) :: st) | _ => False
  | .lrem => match st with | .long y :: .long x :: st => ¬ y = 0 ∧ k (.long (x - x / y * y) :: st) | _ => False
  | .lneg => match st with | .long x :: st => k (.long (-x) :: st) | _ => False
  | .land => match st with | .long y :: .long x :: st => k (.long (x &&& y) :: st) | _ => False
  | .lor => match st with | .long y :: .long x :: st => k (.long (x ||| y) :: st) | _ => False
  | .lxor => match st with | .long y :: .long x :: st => k (.long (x ^^^ y) :: st) | _ => False
  | .lshl => match st with | .int y :: .long x :: st => k (.long (x <<< (y.toInt64 &&& 63)) :: st) | _ => False
  | .lushr => match st with | .int y :: .long x :: st => k (.long (x.toUInt64 >>> (y.toInt64.toUInt64 &&& Int64.toUInt64 63)).toInt64 :: st) | _ => False
  | .lcmp => match st with | .long y :: .long x :: st => k (.int (lg_cmp x y) :: st) | _ => False
  | .i2l => match st with | .int x :: st => k (.long x.toInt64 :: st) | _ => False
  | .l2i => match st with | .long x :: st => k (.int x.toInt32 :: st) | _ => False
  | .i2b => match st with | .int x :: st => k (.int x.toInt8.toInt32 :: st) | _ => False
  | .dup => match st with | .int x :: st => k (.int x :: .int x :: st) | .ref x :: st => k (.ref x :: .ref x :: st) | _ => False
  | .dup2 => match st with | .long x :: st => k (.long x :: .long x :: st) | .int x :: .ref y :: st => k (.int x :: .ref y :: .int x :: .ref y :: st) | .int x :: .int y :: st => k (.int x :: .int y :: .int x :: .int y :: st) | _ => False
  | .pop => match st with | .int _ :: st => k st | .ref _ :: st => k st | _ => False
  | .ldc n => k (.int (nI n) :: st)
  | .ldc_w n => k (.int (-(nI n)) :: st)
  | .ldc2_w n => k (.long (lN n) :: st)
  | .fstore n => k (.long (-(lN n)) :: st)
  | .new n => k (.ref n :: st)
  | _ => False
/-- fields (n: the slot, and 64 times the kind) and arrays -/
def exM (i : Instr) (st : List Value) (M : Mm) (k : List Value → Mm → Prop) : Prop := match i with
  | .getfield n => match st with | .ref o :: st => cond (isOb (n / 64 % 16) o) (k (.int (M.1 o (n % 64)) :: st) M) False | _ => False
  | .dload n => match st with | .ref o :: st => cond (isOb (n / 64 % 16) o) (k (.long (M.2.1 o (n % 64)) :: st) M) False | _ => False
  | .fload n => match st with | .ref o :: st => cond (isOb (n / 64 % 16) o) (k (.ref (RC o (n % 64)) :: st) M) False | _ => False
  | .checkcast n => match st with | .ref o :: st => cond (isOb (n / 64 % 16) o) (k (.ref (1024 + 64 * o + n % 64) :: st) M) False | _ => False
  | .instanceof n => match st with | .ref o :: st => cond (isOb (n / 64 % 16) o) (isE (M.2.2 o (n % 64)) = true ∧ k (.ref (M.2.2 o (n % 64)) :: st) M) False | _ => False
  | .putfield n => match st with | .int v :: .ref o :: st => cond (isOb (n / 64 % 16) o) (k st (sI M o (n % 64) v)) False | _ => False
  | .dstore n => match st with | .long v :: .ref o :: st => cond (isOb (n / 64 % 16) o) (k st (sJ M o (n % 64) v)) False | _ => False
  | .putstatic n => match st with | .int v :: .ref o :: st => cond (isOb (n / 64 % 16) o) ((v = 0 ∨ v = 1) ∧ k st (sI M o (n % 64) v)) False | _ => False
  | .anewarray n => match st with | .ref v :: .ref o :: st => cond (isOb (n / 64 % 16) o) (isE v = true ∧ k st (sR M o (n % 64) v)) False | _ => False
  | .iaload => match st with | .int i :: .ref a :: st => cond (isAr a && Nat.beq (typ a) 1) (vp_in i (len a) ∧ k (.int (M.1 a i.toNatClampNeg) :: st) M) False | _ => False
  | .laload => match st with | .int i :: .ref a :: st => cond (isAr a && Nat.beq (typ a) 2) (vp_in i (len a) ∧ k (.long (M.2.1 a i.toNatClampNeg) :: st) M) False | _ => False
  | .baload => match st with | .int i :: .ref a :: st => cond (isAr a && Nat.beq (typ a) 3) (vp_in i (len a) ∧ k (.int (M.1 a i.toNatClampNeg) :: st) M) False | _ => False
  | .aaload => match st with | .int i :: .ref a :: st => cond (isAr a && Nat.beq (typ a) 4) (vp_in i (len a) ∧ isE (M.2.2 a i.toNatClampNeg) = true ∧ k (.ref (M.2.2 a i.toNatClampNeg) :: st) M) False | _ => False
  | .iastore => match st with | .int v :: .int i :: .ref a :: st => cond (isAr a && Nat.beq (typ a) 1) (vp_in i (len a) ∧ k st (sI M a i.toNatClampNeg v)) False | _ => False
  | .lastore => match st with | .long v :: .int i :: .ref a :: st => cond (isAr a && Nat.beq (typ a) 2) (vp_in i (len a) ∧ k st (sJ M a i.toNatClampNeg v)) False | _ => False
  | .bastore => match st with | .int v :: .int i :: .ref a :: st => cond (isAr a && Nat.beq (typ a) 3) (vp_in i (len a) ∧ k st (sI M a i.toNatClampNeg v.toInt8.toInt32)) False | _ => False
  | .aastore => match st with | .ref v :: .int i :: .ref a :: st => cond (isAr a && Nat.beq (typ a) 4) (vp_in i (len a) ∧ isE v = true ∧ k st (sR M a i.toNatClampNeg v)) False | _ => False
  | .arraylength => match st with | .ref a :: st => cond (isAr a) (k (.int (nI (len a)) :: st) M) False | _ => False
  | .caload => match st with | .int i :: .ref a :: st => (isAr a = true ∧ typ a = 1 ∧ vp_in i (len a)) ∧ k (.int (M.1 a i.toNatClampNeg) :: st) M | _ => False
  | .saload => match st with | .int i :: .ref a :: st => (isAr a = true ∧ typ a = 2 ∧ vp_in i (len a)) ∧ k (.long (M.2.1 a i.toNatClampNeg) :: st) M | _ => False
  | .castore => match st with | .int v :: .int i :: .ref a :: st => (isAr a = true ∧ typ a = 1 ∧ vp_in i (len a)) ∧ k st (sI M a i.toNatClampNeg v) | _ => False
  | .sastore => match st with | .long v :: .int i :: .ref a :: st => (isAr a = true ∧ typ a = 2 ∧ vp_in i (len a)) ∧ k st (sJ M a i.toNatClampNeg v) | _ => False
  | .ddiv => match st with | .ref a :: st => isAr a = true ∧ k (.int (nI (len a)) :: st) M | _ => False
  | .daload => match st with | .int i :: .ref a :: st => cond (Nat.beq a 70001) (vp_in i (M.1 70001 4000).toNatClampNeg ∧ k (.int (M.1 70001 i.toNatClampNeg) :: st) M) False | _ => False
  | .dadd => match st with | .ref a :: st => cond (Nat.beq a 70001) (k (.int (M.1 70001 4000) :: st) M) False | _ => False
  | .dastore => match st with | .int i :: .ref a :: st => cond (Nat.beq a 70002) (vp_in i 18 ∧ k (.int (nI (weiL.getD i.toNatClampNeg 0)) :: st) M) False | _ => False
  | .dsub => match st with | .ref a :: st => cond (Nat.beq a 70002) (k (.int (nI 18) :: st) M) False | _ => False
  | .faload => match st with | .int i :: .ref a :: st => cond (Nat.beq a 70003) (vp_in i 18 ∧ k (.ref (70100 + i.toNatClampNeg) :: st) M) False | _ => False
  | .fadd => match st with | .ref a :: st => cond (Nat.beq a 70003) (k (.int (nI 18) :: st) M) False | _ => False
  | .fneg => match st with | .ref e :: st => isE e = true ∧ k (.ref (e + 100) :: st) M | _ => False
  | .monitorenter => match st with
    | .int n :: .int dp :: .ref y :: .int sp :: .ref x :: [] => cond (isAr x && (isAr y && (Nat.beq (typ x) 1 && Nat.beq (typ y) 1)))
      ((¬ sp < 0 ∧ ¬ dp < 0 ∧ ¬ n < 0 ∧ sp.toNatClampNeg + n.toNatClampNeg ≤ len x ∧ dp.toNatClampNeg + n.toNatClampNeg ≤ len y) ∧ k [] (cpI M x y sp.toNatClampNeg dp.toNatClampNeg n.toNatClampNeg)) False
    | _ => False
  | .monitorexit => match st with
    | .int n :: .int dp :: .ref y :: .int sp :: .ref x :: [] => cond (isAr x && (isAr y && (Nat.beq (typ x) 3 && Nat.beq (typ y) 3)))
      ((¬ sp < 0 ∧ ¬ dp < 0 ∧ ¬ n < 0 ∧ sp.toNatClampNeg + n.toNatClampNeg ≤ len x ∧ dp.toNatClampNeg + n.toNatClampNeg ≤ len y) ∧ k [] (cpI M x y sp.toNatClampNeg dp.toNatClampNeg n.toNatClampNeg)) False
    | _ => False
  | .nop => match st with
    | .int n :: .int dp :: .ref y :: .int sp :: .ref x :: [] => cond (isAr x && (isAr y && (Nat.beq (typ x) 2 && Nat.beq (typ y) 2)))
      ((¬ sp < 0 ∧ ¬ dp < 0 ∧ ¬ n < 0 ∧ sp.toNatClampNeg + n.toNatClampNeg ≤ len x ∧ dp.toNatClampNeg + n.toNatClampNeg ≤ len y) ∧ k [] (cpJ M x y sp.toNatClampNeg dp.toNatClampNeg n.toNatClampNeg)) False
    | _ => False
  | _ => False
def thr (g : Nat) (P : Nat → Prop) : Prop := match g with
  | g + 1 => P g
  | 0 => False
/-- a receiver is an object of its class: 0 none, 8 a constant of the enum, 15 a text -/
def rcq (r : Nat) (as : List Value) (P : Prop) : Prop := match r with
  | 0 => P
  | 8 => match as with | .ref o :: _ => isE o = true ∧ P | _ => False
  | 15 => match as with | .ref o :: _ => isS o = true ∧ P | _ => False
  | r + 1 => match as with | .ref o :: _ => cond (isOb r o) P False | _ => False
/-- locals, jumps, calls, ends -/
def exC (C : CT) (T : TT) (R : RT) (K : KT) (Hd : HT) (i : Instr) (g : Nat) (L : Lo) (st : List Value) (M : Mm) (k : kT) : Prop := match i with
  | .iload n => match lgt L n with | some (.int x) => k g L (.int x :: st) M | _ => False
  | .lload n => match lgt L n with | some (.long x) => k g L (.long x :: st) M | _ => False
  | .aload n => match lgt L n with | some (.ref x) => k g L (.ref x :: st) M | _ => False
  | .istore n => match st with | .int x :: st => k g (lst1 L n (some (.int x))) st M | _ => False
  | .astore n => match st with | .ref x :: st => k g (lst1 L n (some (.ref x))) st M | _ => False
  | .lstore n => match st with | .long x :: st => k g (lst2 L n (some (.long x))) st M | _ => False
  | .iinc n c => match lgt L n with | some (.int x) => k g (lst1 L n (some (.int (x + Int32.ofInt c)))) st M | _ => False
  | .goto t => K g t.toNat L st M
  | .jsr t => K g t.toNat L st M
  | .if_icmp c t => match st with | .int y :: .int x :: st => br c x y (K g t.toNat L st M) (k g L st M) | _ => False
  | .ifCond c t => match st with | .int x :: st => br c x 0 (K g t.toNat L st M) (k g L st M) | _ => False
  | .if_acmp c t => match st with
    | .ref y :: .ref x :: st => (isE x = true ∧ isE y = true) ∧ (match c with
      | .eq => (x = y → K g t.toNat L st M) ∧ (¬ x = y → k g L st M)
      | .ne => (¬ x = y → K g t.toNat L st M) ∧ (x = y → k g L st M))
    | _ => False
  | .tableswitch d lo _ offs => match st with | .int x :: st => swt x (fun t => K g t L st M) lo.toNat offs.toList (K g d.toNat L st M) | _ => False
  | .invokevirtual n => match popA (n % 16) st [] with
    | some (as, st) => cond (Nat.ble (cats st) 8) (rcq (n / 16 % 32) as (C (n / 512) as M fun vs M => k g L (vs ++ st) M)) False
    | _ => False
  | .invokestatic n => match popA (n % 16) st [] with
    | some (as, st) => cond (Nat.ble (cats st) 8) (thr g fun g => C (n / 512) as M fun vs M => k g L (vs ++ st) M) False
    | _ => False
  | .invokespecial n => match popA (n % 16) st [] with
    | some (as, st) => cond (Nat.ble (cats st) 8) (rcq (n / 16 % 32) as ((C (n / 512) as M fun vs M => k g L (vs ++ st) M) ∨ (thr g fun g => T (n / 512) as M fun E M => Hd g E L M))) False
    | _ => False
  | .ireturn => match st with | [.int x] => R 0 [.int x] g M | _ => False
  | .freturn => match st with | [.int x] => (x = 0 ∨ x = 1) ∧ R 0 [.int x] g M | _ => False
  | .lreturn => match st with | [.long x] => R 0 [.long x] g M | _ => False
  | .areturn => match st with | [.ref x] => isE x = true ∧ R 0 [.ref x] g M | _ => False
  | .return_ => match st with | [] => R 0 [] g M | _ => False
  | .ldc2_w n => match st with | [] => thr g fun g => R (n + 1) [] g M | _ => False
  | _ => False
/-- an instruction of the small machine: a mark (0 numbers, 1 memory, 2 the rest), and the instruction -/
abbrev Ins : Type := Nat × Instr
def wpl (C : CT) (T : TT) (R : RT) (K : KT) (Hd : HT) : List Ins → kT
  | [], _, _, _, _ => False
  | (0, i) :: is, g, L, st, M => exN i st fun st => wpl C T R K Hd is g L st M
  | (1, i) :: is, g, L, st, M => exM i st M fun st M => wpl C T R K Hd is g L st M
  | (_ + 2, i) :: is, g, L, st, M => exC C T R K Hd i g L st M (wpl C T R K Hd is)
/-- a method's text: by the place where a block begins, the locals that live there and its instructions -/
abbrev Tx : Type := List (Nat × Nat × List Ins)
def txf : Tx → Nat → Option (Nat × List Ins)
  | [], _ => none
  | (p, m, is) :: t, q => cond (Nat.beq p q) (some (m, is)) (txf t q)
def blk (C : CT) (T : TT) (R : RT) (hd : KT → HT) (tx : Tx) (K : KT) (g pc : Nat) (L : Lo) (st : List Value) (M : Mm) : Prop := match txf tx pc with
  | some (m, is) => wpl C T R K (hd K) is g (trim m L) st M
  | none => False
/-- the least: what runs to its end with R -/
def Wp (C : CT) (T : TT) (R : RT) (hd : KT → HT) (tx : Tx) (g pc : Nat) (L : Lo) (st : List Value) (M : Mm) : Prop :=
  ∀ K : KT, (∀ g pc L st M, blk C T R hd tx K g pc L st M → K g pc L st M) → K g pc L st M
