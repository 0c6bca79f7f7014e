/-! THE START: constructors, read as they stand. Entries: an object (its class, its fields) or an array (its kind, its length, its writes); a reference is an entry's number, or an enum's constant from 70000 on. -/
abbrev AE : Type := (Nat × List Value) ⊕ (Nat × Nat × List (Nat × Int32))
def dfl (c : Nat) : List Value := (List.range (nfL.getD c 0)).map (fun s => match fk c s with
  | 0 => .int 0
  | 1 => .long 0
  | 5 => .int 0
  | _ => .null)
def cI (c : Nat) : ByteArray := (cond (Nat.beq c 0) cX0_init (cond (Nat.beq c 1) cX1_init (cond (Nat.beq c 2) cX2_init (cond (Nat.beq c 3) cX3_init (cond (Nat.beq c 4) cX4_init (cond (Nat.beq c 5) cX5_init (cond (Nat.beq c 6) cX6_init (cond (Nat.beq c 8) cX8_init (cond (Nat.beq c 9) cX9_init (cond (Nat.beq c 10) cX10_init (cond (Nat.beq c 11) cX11_init cX12_init)))))))))))
def yI (c : Nat) : MethodName := (cond (Nat.beq c 0) yX0_init (cond (Nat.beq c 1) yX1_init (cond (Nat.beq c 2) yX2_init (cond (Nat.beq c 3) yX3_init (cond (Nat.beq c 4) yX4_init (cond (Nat.beq c 5) yX5_init (cond (Nat.beq c 6) yX6_init (cond (Nat.beq c 8) yX8_init (cond (Nat.beq c 9) yX9_init (cond (Nat.beq c 10) yX10_init (cond (Nat.beq c 11) yX11_init yX12_init)))))))))))
def naI (c : Nat) : Nat := [1, 1, 1, 1, 1, 1, 0, 0, 0, 2, 0, 0, 0].getD c 0
/-- new: the class -/
def lcL : List (Nat × Nat × Nat × Nat) := [(11, 7, 6, 0), (11, 16, 3, 0), (11, 25, 8, 0), (11, 35, 10, 0), (11, 42, 2, 0), (2, 15, 0, 0), (11, 51, 1, 0), (1, 32, 0, 0), (11, 58, 4, 0), (11, 65, 5, 0), (11, 72, 9, 0), (13, 8, 11, 0), (13, 129, 12, 0)]
/-- a constructor's class; 99: of Object -/
def liL : List (Nat × Nat × Nat × Nat) := [(11, 1, 99, 0), (6, 3, 99, 0), (3, 3, 99, 0), (8, 3, 99, 0), (10, 3, 99, 0), (2, 3, 99, 0), (0, 3, 99, 0), (1, 3, 99, 0), (4, 3, 99, 0), (5, 3, 99, 0), (9, 3, 99, 0), (12, 7, 99, 0), (13, 128, 11, 0), (11, 9, 6, 0), (11, 18, 3, 0), (11, 27, 8, 0), (11, 37, 10, 0), (11, 44, 2, 0), (2, 17, 0, 0), (11, 53, 1, 0), (1, 34, 0, 0), (11, 60, 4, 0), (11, 67, 5, 0), (11, 74, 9, 0), (13, 131, 12, 0)]
def atK (t : ArrayType) : Option Nat := match t with
  | .int => some 1
  | .long => some 2
  | .byte => some 3
  | _ => none
def setE (E : List AE) (o : Nat) (x : AE) : List AE := E.set o x
/-- a value that a field of this kind may hold -/
def fitV (k : Nat) (v : Value) : Bool := match v with
  | .int x => Nat.beq k 0 || (Nat.beq k 5 && (decide (x = 0) || decide (x = 1)))
  | .long _ => Nat.beq k 1
  | .ref r => (Nat.blt r 70000 && (Nat.beq k 2 || Nat.beq k 3)) || (Nat.beq r 70100 && Nat.beq k 4)
  | _ => false
def wfV (n : Nat) (v : Value) : Bool := match v with
  | .ref r => Nat.blt r n || Nat.ble 70000 r
  | _ => true
def wfE (n : Nat) (x : AE) : Bool := match x with
  | .inl (_, fs) => fs.all (wfV n)
  | .inr _ => true
/-- every reference is an entry's -/
def wfA (L st : List Value) (E : List AE) : Bool := L.all (wfV E.length) && (st.all (wfV E.length) && (E.all (wfE E.length) && Nat.blt E.length 60000))
def isRf (as : List Value) : Bool := match as with
  | .ref _ :: _ => true
  | _ => false
def lenI (i : Instr) : Nat := match i with
  | .aload_n _ | .iconst _ | .lconst _ | .iastore | .dup | .return_ => 1
  | .bipush _ | .newarray _ => 2
  | .sipush _ | .anewarray _ | .putfield _ | .getfield _ | .getstatic _ | .new _ | .invokespecial _ => 3
  | _ => 0
def amx (cal : Nat → List Value → List AE → Option (List AE)) (own : Nat) (b : ByteArray) : Nat → Nat → List Value → List Value → List AE → Option (List AE)
  | 0, _, _, _, _ => none
  | f + 1, pc, L, st, E => match decode b pc with
    | .ok (i, len) => cond (Nat.beq len (lenI i)) (match i with
      | .aload_n k => match L[(k : Nat)]? with
        | some (.ref r) => amx cal own b f (pc + len) L (.ref r :: st) E
        | _ => none
      | .iconst n => amx cal own b f (pc + len) L (.int (Int32.ofInt n) :: st) E
      | .bipush n => amx cal own b f (pc + len) L (.int (Int8.ofInt n).toInt32 :: st) E
      | .sipush n => amx cal own b f (pc + len) L (.int (Int16.ofInt n).toInt32 :: st) E
      | .lconst n => amx cal own b f (pc + len) L (.long (Int64.ofNat (n : Nat)) :: st) E
      | .newarray t => match st with
        | .int n :: st => match atK t with
          | some k => cond (wfA L st E && (!(decide (n < 0)) && Nat.ble n.toNatClampNeg 10000)) (amx cal own b f (pc + len) L (.ref E.length :: st) (E ++ [.inr (k, n.toNatClampNeg, [])])) none
          | none => none
        | _ => none
      | .anewarray k => match st with
        | .int n :: st => cond (wfA L st E && (Nat.beq own 3 && (Nat.beq k 9 && (!(decide (n < 0)) && Nat.ble n.toNatClampNeg 10000)))) (amx cal own b f (pc + len) L (.ref E.length :: st) (E ++ [.inr (4, n.toNatClampNeg, [])])) none
        | _ => none
      | .putfield k => match st with
        | v :: .ref o :: st => match lkf lfL own k, E[o]? with
          | some n, some (.inl (c, fs)) => cond (Nat.beq c (n / 64) && (Nat.beq c own && (fitV (fk c (n % 64)) v && Nat.blt (n % 64) fs.length))) (amx cal own b f (pc + len) L st (E.set o (.inl (c, fs.set (n % 64) v)))) none
          | _, _ => none
        | _ => none
      | .getfield k => match st with
        | .ref o :: st => match lkf lfL own k, E[o]? with
          | some n, some (.inl (c, fs)) => match fs[n % 64]? with
            | some (.ref r) => cond (Nat.beq c (n / 64)) (amx cal own b f (pc + len) L (.ref r :: st) E) none
            | _ => none
          | _, _ => none
        | _ => none
      | .getstatic k => cond (Nat.beq own 3 && Nat.beq k 24) (amx cal own b f (pc + len) L (.ref 70100 :: st) E) none
      | .iastore => match st with
        | .int v :: .int j :: .ref o :: st => match E[o]? with
          | some (.inr (t, n, ws)) => cond (Nat.beq t 1 && (!(decide (j < 0)) && Nat.blt j.toNatClampNeg n)) (amx cal own b f (pc + len) L st (E.set o (.inr (t, n, (j.toNatClampNeg, v) :: ws)))) none
          | _ => none
        | _ => none
      | .new k => match lkf lcL own k with
        | some c => cond (wfA L st E) (amx cal own b f (pc + len) L (.ref E.length :: st) (E ++ [.inl (c, dfl c)])) none
        | none => none
      | .dup => match st with
        | .ref r :: st => amx cal own b f (pc + len) L (.ref r :: .ref r :: st) E
        | _ => none
      | .invokespecial k => match lkf liL own k with
        | some c => match popA (cond (Nat.beq c 99) 1 (naI c + 1)) st [] with
          | some (as, st) => cond (wfA L (as ++ st) E && (Nat.ble (cats st) 8 && as.all (fun v => isRf [v]))) (match (cond (Nat.beq c 99) (some E) (cal c as E)) with
            | some E => amx cal own b f (pc + len) L st E
            | none => none) none
          | none => none
        | none => none
      | .return_ => match st with
        | [] => some E
        | _ => none
      | _ => none) none
    | _ => none
def am : Nat → Nat → List Value → List AE → Option (List AE)
  | 0, _, _, _ => none
  | d + 1, c, as, E => amx (am d) c (cI c) 200 0 as [] E
def amS : Option (List AE) := match am 4 11 [.ref 0] [.inl (11, dfl 11)] with
  | some E => match am 4 12 [.ref E.length] (E ++ [.inl (12, dfl 12)]) with
    | some E => some (E ++ [.inr (2, 1, [])])
    | none => none
  | none => none
def amE : List AE := amS.getD []
/-- the cells in the order in which they come -/
def ordL : List Nat := [704, 384, 25600, 192, 13313, 13314, 13315, 13320, 13321, 13322, 512, 33794, 33798, 33799, 33800, 33803, 33805, 33807, 33809, 33810, 513, 33858, 33862, 33863, 33864, 33867, 33869, 33871, 33873, 33874, 640, 41991, 41992, 41993, 41994, 41995, 41996, 128, 0, 1025, 1026, 1027, 1028, 1029, 1030, 1031, 1032, 1, 1089, 1090, 1091, 1092, 1093, 1094, 1095, 1096, 64, 5123, 5124, 5125, 5126, 5127, 2, 1153, 1154, 1155, 1156, 1157, 1158, 1159, 1160, 256, 17409, 17410, 17411, 320, 21505, 21506, 576, 37894, 768, 50177, 50178, 50180, 50187, 50189, 50192, 50193, 50194, 50200, 50201, 50202, 50203, 50204, 50206, 50207, 50208, 50209, 50210, 50211, 50212, 50213, 50215, 50216, 70000]
def ixf : List Nat → Nat → Nat → Nat
  | [], _, _ => 0
  | x :: t, k, n => cond (Nat.beq x k) n (ixf t k (n + 1))
/-- a cell's entry -/
def ix (k : Nat) : Nat := ixf ordL k 0
/-- is the entry that of the cell: its kind, its references -/
def okE (k : Nat) : Bool := match amE[ix k]? with
  | some (.inl (c, fs)) => Nat.blt k 1024 && (Nat.beq c (k / 64) && (Nat.beq fs.length (nfL.getD c 0) && (List.range (nfL.getD c 0)).all (fun s => match fk c s, fs[s]? with
    | 0, some (.int _) => true
    | 1, some (.long _) => true
    | 2, some (.ref r) => Nat.beq r (ix (RC k s))
    | 3, some (.ref r) => Nat.beq r (ix (1024 + 64 * k + s))
    | 4, some (.ref r) => Nat.beq r 70100
    | 5, some (.int _) => true
    | _, _ => false)))
  | some (.inr (t, n, _)) => Nat.ble 1024 k && (Nat.beq t (typ k) && Nat.beq n (len k))
  | none => false
theorem amE_ok : (cells.all okE && (Nat.beq amE.length 105 && (ordL.all (fun k => cells.contains k) && va_nd ordL))) = true := by decide +kernel
