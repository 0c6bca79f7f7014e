/-! The bytecode against the texts: each block's instructions are those that decode finds, its links those of the tables. -/
def lkf : List (Nat × Nat × Nat × Nat) → Nat → Nat → Option Nat
  | [], _, _ => none
  | e :: t, o, k => cond (Nat.beq e.1 o && Nat.beq e.2.1 k) (some e.2.2.1) (lkf t o k)
theorem lkf_mem {o k n : Nat} : ∀ {l : List (Nat × Nat × Nat × Nat)}, lkf l o k = some n → ∃ e ∈ l, e.1 = o ∧ e.2.1 = k ∧ e.2.2.1 = n := by
  intro l
  induction l with
  | nil => intro h; cases h
  | cons e t ih =>
    intro h
    unfold lkf at h
    cases hc : (Nat.beq e.1 o && Nat.beq e.2.1 k) with
    | true =>
      rw [hc] at h
      simp only [Bool.and_eq_true] at hc
      exact ⟨e, List.mem_cons_self, Nat.eq_of_beq_eq_true hc.1, Nat.eq_of_beq_eq_true hc.2, Option.some.inj h⟩
    | false =>
      rw [hc] at h
      obtain ⟨e2, h1, h2⟩ := ih h
      exact ⟨e2, List.mem_cons_of_mem _ h1, h2⟩
def lkg : List (Nat × Nat × Int × Nat) → Nat → Nat → Option Int
  | [], _, _ => none
  | e :: t, o, k => cond (Nat.beq e.1 o && Nat.beq e.2.1 k) (some e.2.2.1) (lkg t o k)
theorem lkg_mem {o k : Nat} {n : Int} : ∀ {l : List (Nat × Nat × Int × Nat)}, lkg l o k = some n → ∃ e ∈ l, e.1 = o ∧ e.2.1 = k ∧ e.2.2.1 = n := by
  intro l
  induction l with
  | nil => intro h; cases h
  | cons e t ih =>
    intro h
    unfold lkg at h
    cases hc : (Nat.beq e.1 o && Nat.beq e.2.1 k) with
    | true =>
      rw [hc] at h
      simp only [Bool.and_eq_true] at hc
      exact ⟨e, List.mem_cons_self, Nat.eq_of_beq_eq_true hc.1, Nat.eq_of_beq_eq_true hc.2, Option.some.inj h⟩
    | false =>
      rw [hc] at h
      obtain ⟨e2, h1, h2⟩ := ih h
      exact ⟨e2, List.mem_cons_of_mem _ h1, h2⟩
def lsS : List (Nat × Nat × Nat × Nat) := [(12, 152, 70222, 1666), (12, 154, 70223, 1667), (12, 156, 70224, 1668), (12, 179, 70220, 1652), (12, 187, 70221, 1657), (12, 192, 70225, 1669), (12, 197, 70226, 1670), (12, 199, 70218, 1614), (12, 205, 70219, 1631)]
def relN (own : Nat) (ri : Instr) (len : Nat) (i : Instr) : Bool := match i with
  | .ldc n => match ri with
    | .iconst c => Nat.beq len 1 && decide (c = (n : Int))
    | .bipush c => Nat.beq len 2 && (decide (c = (n : Int)) && Nat.blt n 128)
    | .sipush c => Nat.beq len 3 && (decide (c = (n : Int)) && Nat.blt n 32768)
    | .ldc k => Nat.beq len 2 && decide (lkf lkL own k = some n)
    | .ldc_w k => Nat.beq len 3 && decide (lkf lkL own k = some n)
    | _ => false
  | .ldc_w n => match ri with
    | .iconst c => Nat.beq len 1 && decide (c = -(n : Int))
    | _ => false
  | .ldc2_w n => match ri with
    | .lconst c => Nat.beq len 1 && Nat.beq (c : Nat) n
    | .ldc2_w k => Nat.beq len 3 && decide (lkg llL own k = some (n : Int))
    | _ => false
  | .fstore n => match ri with
    | .ldc2_w k => Nat.beq len 3 && decide (lkg llL own k = some (-(n : Int)))
    | _ => false
  | .new n => match ri with
    | .getstatic k => Nat.beq len 3 && ((Nat.ble 70100 n && decide (lkf lsL own k = some (n - 70100))) || (Nat.beq n 70003 && (Nat.beq own 7 && Nat.beq k 101)) || (Nat.beq n 70002 && (Nat.beq own 11 && Nat.beq k 270)))
    | .ldc k => Nat.beq len 2 && decide (lkf lsS own k = some n)
    | _ => false
  | i => Nat.beq len 1 && decide (ri = i)
def relM (own : Nat) (ri : Instr) (len : Nat) (i : Instr) : Bool := match i with
  | .getfield n | .dload n | .fload n | .checkcast n | .instanceof n => match ri with
    | .getfield k => Nat.beq len 3 && (decide (lkf lfL own k = some n) && (match i with
      | .getfield _ => Nat.beq (fk (n / 64) (n % 64)) 0 || Nat.beq (fk (n / 64) (n % 64)) 5
      | .dload _ => Nat.beq (fk (n / 64) (n % 64)) 1
      | .fload _ => Nat.beq (fk (n / 64) (n % 64)) 2
      | .checkcast _ => Nat.beq (fk (n / 64) (n % 64)) 3
      | _ => Nat.beq (fk (n / 64) (n % 64)) 4))
    | _ => false
  | .putfield n | .dstore n | .putstatic n | .anewarray n => match ri with
    | .putfield k => Nat.beq len 3 && (decide (lkf lfL own k = some n) && (match i with
      | .putfield _ => Nat.beq (fk (n / 64) (n % 64)) 0
      | .dstore _ => Nat.beq (fk (n / 64) (n % 64)) 1
      | .putstatic _ => Nat.beq (fk (n / 64) (n % 64)) 5
      | _ => Nat.beq (fk (n / 64) (n % 64)) 4))
    | _ => false
  | .iaload | .caload | .daload | .dastore => Nat.beq len 1 && decide (ri = .iaload)
  | .laload | .saload => Nat.beq len 1 && decide (ri = .laload)
  | .iastore | .castore => Nat.beq len 1 && decide (ri = .iastore)
  | .lastore | .sastore => Nat.beq len 1 && decide (ri = .lastore)
  | .baload | .bastore | .aastore => Nat.beq len 1 && decide (ri = i)
  | .aaload | .faload => Nat.beq len 1 && decide (ri = .aaload)
  | .arraylength | .ddiv | .dadd | .dsub | .fadd => Nat.beq len 1 && decide (ri = .arraylength)
  | .fneg => match ri with
    | .getfield k => Nat.beq len 3 && (Nat.beq own 7 && Nat.beq k 77)
    | _ => false
  | .monitorenter | .monitorexit | .nop => match ri with
    | .invokestatic k => Nat.beq len 3 && laL.any (fun e => Nat.beq e.1 own && Nat.beq e.2.1 k)
    | _ => false
  | _ => false
/-- String's own members, by the reference's and the enum's pools -/
def orcL : List (Nat × Nat × Nat × Nat) := [(7, 81, 1002, 885), (7, 87, 1001, 889), (7, 97, 1003, 899), (12, 132, 1001, 1619), (12, 137, 1003, 1620)]
/-- a call: its method, how many values it takes -/
def relK (own pc : Nat) (ri : Instr) (len n : Nat) : Bool := match ri with
  | .invokevirtual k => Nat.beq len 3 && (decide (lkf lmL own k = some (n / 512)) && (!(stOf (n / 512)) && (Nat.beq (n % 16) (naOf (n / 512) + 1) && (Nat.beq (n / 16 % 32) (owOf (n / 512) + 1) && Nat.blt (owOf (n / 512)) 13))))
  | .invokestatic k => Nat.beq len 3 && (Nat.beq (n / 16 % 32) 0 && ((decide (lkf lmL own k = some (n / 512)) && (stOf (n / 512) && Nat.beq (n % 16) (naOf (n / 512)))) || (Nat.beq own 2 && (Nat.beq k 86 && (Nat.beq (n / 512) 127 && Nat.beq (n % 16) 4)))))
  | _ => false
def relC (own pc : Nat) (ri : Instr) (len : Nat) (i : Instr) : Bool := match i with
  | .iload n => match ri with
    | .iload k => Nat.beq len 2 && Nat.beq k n
    | .iload_n k => Nat.beq len 1 && Nat.beq (k : Nat) n
    | _ => false
  | .lload n => match ri with
    | .lload k => Nat.beq len 2 && Nat.beq k n
    | .lload_n k => Nat.beq len 1 && Nat.beq (k : Nat) n
    | _ => false
  | .aload n => match ri with
    | .aload k => Nat.beq len 2 && Nat.beq k n
    | .aload_n k => Nat.beq len 1 && Nat.beq (k : Nat) n
    | _ => false
  | .istore n => match ri with
    | .istore k => Nat.beq len 2 && Nat.beq k n
    | .istore_n k => Nat.beq len 1 && Nat.beq (k : Nat) n
    | _ => false
  | .lstore n => match ri with
    | .lstore k => Nat.beq len 2 && Nat.beq k n
    | .lstore_n k => Nat.beq len 1 && Nat.beq (k : Nat) n
    | _ => false
  | .astore n => match ri with
    | .astore k => Nat.beq len 2 && Nat.beq k n
    | .astore_n k => Nat.beq len 1 && Nat.beq (k : Nat) n
    | _ => false
  | .iinc n c => match ri with
    | .iinc k d => Nat.beq len 3 && (Nat.beq k n && decide (d = c))
    | _ => false
  | .goto t => match ri with
    | .goto f => Nat.beq len 3 && decide ((pc : Int) + f = (t.toNat : Int))
    | _ => false
  | .if_icmp c t => match ri with
    | .if_icmp d f => Nat.beq len 3 && (decide (d = c) && decide ((pc : Int) + f = (t.toNat : Int)))
    | _ => false
  | .ifCond c t => match ri with
    | .ifCond d f => Nat.beq len 3 && (decide (d = c) && decide ((pc : Int) + f = (t.toNat : Int)))
    | _ => false
  | .if_acmp c t => match ri with
    | .if_acmp d f => Nat.beq len 3 && (decide (d = c) && decide ((pc : Int) + f = (t.toNat : Int)))
    | _ => false
  | .tableswitch d lo hi offs => match ri with
    | .tableswitch d2 lo2 hi2 offs2 => decide (lo2 = lo) && (decide (hi2 = hi) && (decide (0 ≤ lo) && (decide (hi < 1000) && (decide (lo + (offs.size : Int) = hi + 1) && (decide ((pc : Int) + d2 = (d.toNat : Int)) && decide (offs2.toList.map (fun f => (pc : Int) + f) = offs.toList.map (fun t => (t.toNat : Int))))))))
    | _ => false
  | .invokevirtual n => (relK own pc ri len n && Nat.blt (n / 512) 234) || (match ri with
    | .invokevirtual k => Nat.beq len 3 && (decide (lkf orcL own k = some (n / 512)) && (Nat.beq (n / 16 % 32) 15 && Nat.beq (n % 16) (cond (Nat.beq (n / 512) 1003) 2 1)))
    | _ => false)
  | .invokestatic n => relK own pc ri len n && (Nat.ble 234 (n / 512) && Nat.blt (n / 512) 264)
  | .invokespecial n => relK own pc ri len n && Nat.blt (n / 512) 234
  | .ireturn | .freturn => Nat.beq len 1 && decide (ri = .ireturn)
  | .lreturn | .areturn | .return_ => Nat.beq len 1 && decide (ri = i)
  | _ => false
/-- throw new E(text): new, dup, ldc, <init>, athrow -/
def thL : List (Nat × Nat × Nat × Nat × Nat) := [(11, 0, 144, 146, 148), (11, 0, 144, 351, 148), (11, 1, 346, 348, 350), (11, 2, 353, 355, 357), (11, 3, 332, 334, 336)]
def chT (own : Nat) (b : ByteArray) (pc E : Nat) : Bool := thL.any fun e => Nat.beq e.1 own && (Nat.beq e.2.1 E && (decide (decode b pc = .ok (.new e.2.2.1, 3)) && (decide (decode b (pc + 3) = .ok (.dup, 1)) && (
  (decide (decode b (pc + 4) = .ok (.ldc e.2.2.2.1, 2)) && (decide (decode b (pc + 6) = .ok (.invokespecial e.2.2.2.2, 3)) && decide (decode b (pc + 9) = .ok (.athrow, 1)))) ||
  (decide (decode b (pc + 4) = .ok (.ldc_w e.2.2.2.1, 3)) && (decide (decode b (pc + 7) = .ok (.invokespecial e.2.2.2.2, 3)) && decide (decode b (pc + 10) = .ok (.athrow, 1))))))))
def chk (own : Nat) (b : ByteArray) : Nat → List Ins → Bool
  | _, [] => true
  | pc, (0, i) :: is => match decode b pc with
    | .ok (ri, len) => relN own ri len i && chk own b (pc + len) is
    | _ => false
  | pc, (1, i) :: is => match decode b pc with
    | .ok (ri, len) => relM own ri len i && chk own b (pc + len) is
    | _ => false
  | pc, (_ + 2, .jsr t) :: _ => Nat.beq t.toNat pc
  | pc, (_ + 2, .ldc2_w E) :: _ => chT own b pc E
  | pc, (_ + 2, i) :: is => match decode b pc with
    | .ok (ri, len) => relC own pc ri len i && chk own b (pc + len) is
    | _ => false
/-- stores within the locals, ends of the answer's kind -/
def chS (ml : Nat) (rt : Option FieldType) : List Ins → Bool
  | [] => true
  | (_ + 2, i) :: is => (match i with
    | .istore n | .astore n | .iinc n _ => Nat.blt n ml
    | .lstore n => Nat.blt (n + 1) ml
    | .ireturn => decide (rt = some .int)
    | .freturn => decide (rt = some .boolean)
    | .lreturn => decide (rt = some .long)
    | .areturn => decide (rt = some (.object "WellPumps$Thing"))
    | .return_ => decide (rt = none)
    | _ => true) && chS ml rt is
  | _ :: is => chS ml rt is
theorem cs_0 : tx_0.all (fun b => chS 4 none b.2.2) = true := by decide +kernel
theorem ck_0 : tx_0.all (fun b => chk 0 cX0_follow b.1 b.2.2) = true := by decide +kernel
theorem cs_1 : tx_1.all (fun b => chS 6 none b.2.2) = true := by decide +kernel
theorem ck_1 : tx_1.all (fun b => chk 0 cX0_shape b.1 b.2.2) = true := by decide +kernel
theorem cs_2 : tx_2.all (fun b => chS 6 none b.2.2) = true := by decide +kernel
theorem ck_2 : tx_2.all (fun b => chk 0 cX0_multiplyRow b.1 b.2.2) = true := by decide +kernel
theorem cs_3 : tx_3.all (fun b => chS 8 none b.2.2) = true := by decide +kernel
theorem ck_3 : tx_3.all (fun b => chk 0 cX0_settle b.1 b.2.2) = true := by decide +kernel
theorem cs_4 : tx_4.all (fun b => chS 8 none b.2.2) = true := by decide +kernel
theorem ck_4 : tx_4.all (fun b => chk 0 cX0_solve b.1 b.2.2) = true := by decide +kernel
theorem cs_5 : tx_5.all (fun b => chS 4 (some .long) b.2.2) = true := by decide +kernel
theorem ck_5 : tx_5.all (fun b => chk 0 cX0_onceElse b.1 b.2.2) = true := by decide +kernel
theorem cs_6 : tx_6.all (fun b => chS 3 (some .int) b.2.2) = true := by decide +kernel
theorem ck_6 : tx_6.all (fun b => chk 1 cX1_answerAt b.1 b.2.2) = true := by decide +kernel
theorem cs_7 : tx_7.all (fun b => chS 4 none b.2.2) = true := by decide +kernel
theorem ck_7 : tx_7.all (fun b => chk 1 cX1_offerTo b.1 b.2.2) = true := by decide +kernel
theorem cs_8 : tx_8.all (fun b => chS 5 none b.2.2) = true := by decide +kernel
theorem ck_8 : tx_8.all (fun b => chk 1 cX1_offerAll b.1 b.2.2) = true := by decide +kernel
theorem cs_9 : tx_9.all (fun b => chS 3 none b.2.2) = true := by decide +kernel
theorem ck_9 : tx_9.all (fun b => chk 1 cX1_settle b.1 b.2.2) = true := by decide +kernel
theorem cs_10 : tx_10.all (fun b => chS 3 none b.2.2) = true := by decide +kernel
theorem ck_10 : tx_10.all (fun b => chk 1 cX1_evaluate b.1 b.2.2) = true := by decide +kernel
theorem cs_11 : tx_11.all (fun b => chS 8 (some .boolean) b.2.2) = true := by decide +kernel
theorem ck_11 : tx_11.all (fun b => chk 1 cX1_improve b.1 b.2.2) = true := by decide +kernel
theorem cs_12 : tx_12.all (fun b => chS 10 (some .int) b.2.2) = true := by decide +kernel
theorem ck_12 : tx_12.all (fun b => chk 1 cX1_bestAt b.1 b.2.2) = true := by decide +kernel
theorem cs_13 : tx_13.all (fun b => chS 5 (some .long) b.2.2) = true := by decide +kernel
theorem ck_13 : tx_13.all (fun b => chk 1 cX1_valueOf b.1 b.2.2) = true := by decide +kernel
theorem cs_14 : tx_14.all (fun b => chS 10 (some .int) b.2.2) = true := by decide +kernel
theorem ck_14 : tx_14.all (fun b => chk 1 cX1_nearAt b.1 b.2.2) = true := by decide +kernel
theorem cs_15 : tx_15.all (fun b => chS 1 none b.2.2) = true := by decide +kernel
theorem ck_15 : tx_15.all (fun b => chk 2 cX2_follow b.1 b.2.2) = true := by decide +kernel
theorem cs_16 : tx_16.all (fun b => chS 6 (some .int) b.2.2) = true := by decide +kernel
theorem ck_16 : tx_16.all (fun b => chk 2 cX2_first b.1 b.2.2) = true := by decide +kernel
theorem cs_17 : tx_17.all (fun b => chS 5 none b.2.2) = true := by decide +kernel
theorem ck_17 : tx_17.all (fun b => chk 2 cX2_settle b.1 b.2.2) = true := by decide +kernel
theorem cs_18 : tx_18.all (fun b => chS 12 (some .boolean) b.2.2) = true := by decide +kernel
theorem ck_18 : tx_18.all (fun b => chk 2 cX2_wouldElse b.1 b.2.2) = true := by decide +kernel
theorem cs_19 : tx_19.all (fun b => chS 3 (some .int) b.2.2) = true := by decide +kernel
theorem ck_19 : tx_19.all (fun b => chk 3 cX3_place b.1 b.2.2) = true := by decide +kernel
theorem cs_20 : tx_20.all (fun b => chS 1 (some .int) b.2.2) = true := by decide +kernel
theorem ck_20 : tx_20.all (fun b => chk 3 cX3_read b.1 b.2.2) = true := by decide +kernel
theorem cs_21 : tx_21.all (fun b => chS 5 none b.2.2) = true := by decide +kernel
theorem ck_21 : tx_21.all (fun b => chk 3 cX3_partText b.1 b.2.2) = true := by decide +kernel
theorem cs_22 : tx_22.all (fun b => chS 3 (some .int) b.2.2) = true := by decide +kernel
theorem ck_22 : tx_22.all (fun b => chk 3 cX3_behindThing b.1 b.2.2) = true := by decide +kernel
theorem cs_23 : tx_23.all (fun b => chS 5 (some .int) b.2.2) = true := by decide +kernel
theorem ck_23 : tx_23.all (fun b => chk 3 cX3_numberOf b.1 b.2.2) = true := by decide +kernel
theorem cs_24 : tx_24.all (fun b => chS 3 (some (.object "WellPumps$Thing")) b.2.2) = true := by decide +kernel
theorem ck_24 : tx_24.all (fun b => chk 3 cX3_thingOf b.1 b.2.2) = true := by decide +kernel
theorem cs_25 : tx_25.all (fun b => chS 6 none b.2.2) = true := by decide +kernel
theorem ck_25 : tx_25.all (fun b => chk 3 cX3_readLines b.1 b.2.2) = true := by decide +kernel
theorem cs_26 : tx_26.all (fun b => chS 7 (some .long) b.2.2) = true := by decide +kernel
theorem ck_26 : tx_26.all (fun b => chk 3 cX3_readLine b.1 b.2.2) = true := by decide +kernel
theorem cs_27 : tx_27.all (fun b => chS 5 (some .long) b.2.2) = true := by decide +kernel
theorem ck_27 : tx_27.all (fun b => chk 3 cX3_readCondition b.1 b.2.2) = true := by decide +kernel
theorem cs_28 : tx_28.all (fun b => chS 5 (some .long) b.2.2) = true := by decide +kernel
theorem ck_28 : tx_28.all (fun b => chk 3 cX3_readAll b.1 b.2.2) = true := by decide +kernel
theorem cs_29 : tx_29.all (fun b => chS 5 (some .long) b.2.2) = true := by decide +kernel
theorem ck_29 : tx_29.all (fun b => chk 3 cX3_readAtom b.1 b.2.2) = true := by decide +kernel
theorem cs_30 : tx_30.all (fun b => chS 2 (some .long) b.2.2) = true := by decide +kernel
theorem ck_30 : tx_30.all (fun b => chk 3 cX3_readTagOrSums b.1 b.2.2) = true := by decide +kernel
theorem cs_31 : tx_31.all (fun b => chS 4 none b.2.2) = true := by decide +kernel
theorem ck_31 : tx_31.all (fun b => chk 3 cX3_readSum b.1 b.2.2) = true := by decide +kernel
theorem cs_32 : tx_32.all (fun b => chS 1 none b.2.2) = true := by decide +kernel
theorem ck_32 : tx_32.all (fun b => chk 3 cX3_step2 b.1 b.2.2) = true := by decide +kernel
theorem cs_33 : tx_33.all (fun b => chS 7 (some .long) b.2.2) = true := by decide +kernel
theorem ck_33 : tx_33.all (fun b => chk 3 cX3_whereLess b.1 b.2.2) = true := by decide +kernel
theorem cs_34 : tx_34.all (fun b => chS 2 none b.2.2) = true := by decide +kernel
theorem ck_34 : tx_34.all (fun b => chk 3 cX3_take b.1 b.2.2) = true := by decide +kernel
theorem cs_35 : tx_35.all (fun b => chS 1 none b.2.2) = true := by decide +kernel
theorem ck_35 : tx_35.all (fun b => chk 3 cX3_refuse b.1 b.2.2) = true := by decide +kernel
theorem cs_36 : tx_36.all (fun b => chS 1 none b.2.2) = true := by decide +kernel
theorem ck_36 : tx_36.all (fun b => chk 3 cX3_step b.1 b.2.2) = true := by decide +kernel
theorem cs_37 : tx_37.all (fun b => chS 6 none b.2.2) = true := by decide +kernel
theorem ck_37 : tx_37.all (fun b => chk 4 cX4_work b.1 b.2.2) = true := by decide +kernel
theorem cs_38 : tx_38.all (fun b => chS 4 none b.2.2) = true := by decide +kernel
theorem ck_38 : tx_38.all (fun b => chk 4 cX4_workLevel b.1 b.2.2) = true := by decide +kernel
theorem cs_39 : tx_39.all (fun b => chS 6 none b.2.2) = true := by decide +kernel
theorem ck_39 : tx_39.all (fun b => chk 4 cX4_value b.1 b.2.2) = true := by decide +kernel
theorem cs_40 : tx_40.all (fun b => chS 6 (some .boolean) b.2.2) = true := by decide +kernel
theorem ck_40 : tx_40.all (fun b => chk 4 cX4_isAtRest b.1 b.2.2) = true := by decide +kernel
theorem cs_41 : tx_41.all (fun b => chS 7 (some .long) b.2.2) = true := by decide +kernel
theorem ck_41 : tx_41.all (fun b => chk 5 cX5_runDry b.1 b.2.2) = true := by decide +kernel
theorem cs_42 : tx_42.all (fun b => chS 8 (some .long) b.2.2) = true := by decide +kernel
theorem ck_42 : tx_42.all (fun b => chk 5 cX5_buckets b.1 b.2.2) = true := by decide +kernel
theorem cs_43 : tx_43.all (fun b => chS 3 none b.2.2) = true := by decide +kernel
theorem ck_43 : tx_43.all (fun b => chk 6 cX6_put b.1 b.2.2) = true := by decide +kernel
theorem cs_44 : tx_44.all (fun b => chS 4 (some .boolean) b.2.2) = true := by decide +kernel
theorem ck_44 : tx_44.all (fun b => chk 6 cX6_isIn b.1 b.2.2) = true := by decide +kernel
theorem cs_45 : tx_45.all (fun b => chS 5 (some .boolean) b.2.2) = true := by decide +kernel
theorem ck_45 : tx_45.all (fun b => chk 7 cX7_isSpelled b.1 b.2.2) = true := by decide +kernel
theorem cs_46 : tx_46.all (fun b => chS 4 (some (.object "WellPumps$Thing")) b.2.2) = true := by decide +kernel
theorem ck_46 : tx_46.all (fun b => chk 7 cX7_spelledBy b.1 b.2.2) = true := by decide +kernel
theorem cs_47 : tx_47.all (fun b => chS 2 none b.2.2) = true := by decide +kernel
theorem ck_47 : tx_47.all (fun b => chk 8 cX8_become b.1 b.2.2) = true := by decide +kernel
theorem cs_48 : tx_48.all (fun b => chS 6 (some .int) b.2.2) = true := by decide +kernel
theorem ck_48 : tx_48.all (fun b => chk 8 cX8_addFarm b.1 b.2.2) = true := by decide +kernel
theorem cs_49 : tx_49.all (fun b => chS 7 (some .int) b.2.2) = true := by decide +kernel
theorem ck_49 : tx_49.all (fun b => chk 8 cX8_addRule b.1 b.2.2) = true := by decide +kernel
theorem cs_50 : tx_50.all (fun b => chS 2 (some .int) b.2.2) = true := by decide +kernel
theorem ck_50 : tx_50.all (fun b => chk 8 cX8_addDraw b.1 b.2.2) = true := by decide +kernel
theorem cs_51 : tx_51.all (fun b => chS 5 (some .int) b.2.2) = true := by decide +kernel
theorem ck_51 : tx_51.all (fun b => chk 8 cX8_addBreak b.1 b.2.2) = true := by decide +kernel
theorem cs_52 : tx_52.all (fun b => chS 1 (some .int) b.2.2) = true := by decide +kernel
theorem ck_52 : tx_52.all (fun b => chk 8 cX8_allParts b.1 b.2.2) = true := by decide +kernel
theorem cs_53 : tx_53.all (fun b => chS 3 (some .int) b.2.2) = true := by decide +kernel
theorem ck_53 : tx_53.all (fun b => chk 8 cX8_ruleNumber b.1 b.2.2) = true := by decide +kernel
theorem cs_54 : tx_54.all (fun b => chS 7 (some .int) b.2.2) = true := by decide +kernel
theorem ck_54 : tx_54.all (fun b => chk 8 cX8_numberBy b.1 b.2.2) = true := by decide +kernel
theorem cs_55 : tx_55.all (fun b => chS 4 none b.2.2) = true := by decide +kernel
theorem ck_55 : tx_55.all (fun b => chk 9 cX9_begin b.1 b.2.2) = true := by decide +kernel
theorem cs_56 : tx_56.all (fun b => chS 4 none b.2.2) = true := by decide +kernel
theorem ck_56 : tx_56.all (fun b => chk 9 cX9_pass b.1 b.2.2) = true := by decide +kernel
theorem cs_57 : tx_57.all (fun b => chS 5 (some .boolean) b.2.2) = true := by decide +kernel
theorem ck_57 : tx_57.all (fun b => chk 9 cX9_breakBy b.1 b.2.2) = true := by decide +kernel
theorem cs_58 : tx_58.all (fun b => chS 3 none b.2.2) = true := by decide +kernel
theorem ck_58 : tx_58.all (fun b => chk 9 cX9_passBeside b.1 b.2.2) = true := by decide +kernel
theorem cs_59 : tx_59.all (fun b => chS 4 (some .int) b.2.2) = true := by decide +kernel
theorem ck_59 : tx_59.all (fun b => chk 9 cX9_rainOf b.1 b.2.2) = true := by decide +kernel
theorem cs_60 : tx_60.all (fun b => chS 2 (some .int) b.2.2) = true := by decide +kernel
theorem ck_60 : tx_60.all (fun b => chk 9 cX9_tells b.1 b.2.2) = true := by decide +kernel
theorem cs_61 : tx_61.all (fun b => chS 5 none b.2.2) = true := by decide +kernel
theorem ck_61 : tx_61.all (fun b => chk 10 cX10_open b.1 b.2.2) = true := by decide +kernel
theorem cs_62 : tx_62.all (fun b => chS 2 (some .int) b.2.2) = true := by decide +kernel
theorem ck_62 : tx_62.all (fun b => chk 10 cX10_wantedAt b.1 b.2.2) = true := by decide +kernel
theorem cs_63 : tx_63.all (fun b => chS 4 (some .int) b.2.2) = true := by decide +kernel
theorem ck_63 : tx_63.all (fun b => chk 10 cX10_wantedBy b.1 b.2.2) = true := by decide +kernel
theorem cs_64 : tx_64.all (fun b => chS 6 none b.2.2) = true := by decide +kernel
theorem ck_64 : tx_64.all (fun b => chk 10 cX10_promise b.1 b.2.2) = true := by decide +kernel
theorem cs_65 : tx_65.all (fun b => chS 4 none b.2.2) = true := by decide +kernel
theorem ck_65 : tx_65.all (fun b => chk 10 cX10_ruleWith b.1 b.2.2) = true := by decide +kernel
theorem cs_66 : tx_66.all (fun b => chS 11 none b.2.2) = true := by decide +kernel
theorem ck_66 : tx_66.all (fun b => chk 10 cX10_priceWith b.1 b.2.2) = true := by decide +kernel
theorem cs_67 : tx_67.all (fun b => chS 3 none b.2.2) = true := by decide +kernel
theorem ck_67 : tx_67.all (fun b => chk 10 cX10_wish b.1 b.2.2) = true := by decide +kernel
theorem cs_68 : tx_68.all (fun b => chS 3 none b.2.2) = true := by decide +kernel
theorem ck_68 : tx_68.all (fun b => chk 10 cX10_pumpBy b.1 b.2.2) = true := by decide +kernel
theorem cs_69 : tx_69.all (fun b => chS 4 none b.2.2) = true := by decide +kernel
theorem ck_69 : tx_69.all (fun b => chk 10 cX10_pump b.1 b.2.2) = true := by decide +kernel
theorem cs_70 : tx_70.all (fun b => chS 3 (some .int) b.2.2) = true := by decide +kernel
theorem ck_70 : tx_70.all (fun b => chk 10 cX10_had b.1 b.2.2) = true := by decide +kernel
theorem cs_71 : tx_71.all (fun b => chS 3 (some .int) b.2.2) = true := by decide +kernel
theorem ck_71 : tx_71.all (fun b => chk 10 cX10_hadPlain b.1 b.2.2) = true := by decide +kernel
theorem cs_72 : tx_72.all (fun b => chS 3 (some .int) b.2.2) = true := by decide +kernel
theorem ck_72 : tx_72.all (fun b => chk 10 cX10_risen b.1 b.2.2) = true := by decide +kernel
theorem cs_73 : tx_73.all (fun b => chS 4 (some .int) b.2.2) = true := by decide +kernel
theorem ck_73 : tx_73.all (fun b => chk 10 cX10_partsTo b.1 b.2.2) = true := by decide +kernel
theorem cs_74 : tx_74.all (fun b => chS 7 (some .long) b.2.2) = true := by decide +kernel
theorem ck_74 : tx_74.all (fun b => chk 10 cX10_awaited b.1 b.2.2) = true := by decide +kernel
theorem cs_75 : tx_75.all (fun b => chS 3 none b.2.2) = true := by decide +kernel
theorem ck_75 : tx_75.all (fun b => chk 10 cX10_unpack b.1 b.2.2) = true := by decide +kernel
theorem cs_76 : tx_76.all (fun b => chS 3 (some .int) b.2.2) = true := by decide +kernel
theorem ck_76 : tx_76.all (fun b => chk 10 cX10_numberIn b.1 b.2.2) = true := by decide +kernel
theorem cs_77 : tx_77.all (fun b => chS 2 (some .int) b.2.2) = true := by decide +kernel
theorem ck_77 : tx_77.all (fun b => chk 10 cX10_shiftOf b.1 b.2.2) = true := by decide +kernel
theorem cs_78 : tx_78.all (fun b => chS 1 (some .int) b.2.2) = true := by decide +kernel
theorem ck_78 : tx_78.all (fun b => chk 10 cX10_ways b.1 b.2.2) = true := by decide +kernel
theorem cs_79 : tx_79.all (fun b => chS 6 (some .int) b.2.2) = true := by decide +kernel
theorem ck_79 : tx_79.all (fun b => chk 11 cX11_feed b.1 b.2.2) = true := by decide +kernel
theorem cs_80 : tx_80.all (fun b => chS 2 (some .boolean) b.2.2) = true := by decide +kernel
theorem ck_80 : tx_80.all (fun b => chk 11 cX11_end b.1 b.2.2) = true := by decide +kernel
theorem cs_81 : tx_81.all (fun b => chS 3 none b.2.2) = true := by decide +kernel
theorem ck_81 : tx_81.all (fun b => chk 11 cX11_well b.1 b.2.2) = true := by decide +kernel
theorem cs_82 : tx_82.all (fun b => chS 5 none b.2.2) = true := by decide +kernel
theorem ck_82 : tx_82.all (fun b => chk 11 cX11_rain b.1 b.2.2) = true := by decide +kernel
theorem cs_83 : tx_83.all (fun b => chS 3 none b.2.2) = true := by decide +kernel
theorem ck_83 : tx_83.all (fun b => chk 11 cX11_years b.1 b.2.2) = true := by decide +kernel
theorem cs_84 : tx_84.all (fun b => chS 5 (some .int) b.2.2) = true := by decide +kernel
theorem ck_84 : tx_84.all (fun b => chk 11 cX11_farm b.1 b.2.2) = true := by decide +kernel
theorem cs_85 : tx_85.all (fun b => chS 6 (some .int) b.2.2) = true := by decide +kernel
theorem ck_85 : tx_85.all (fun b => chk 11 cX11_rule b.1 b.2.2) = true := by decide +kernel
theorem cs_86 : tx_86.all (fun b => chS 3 (some .boolean) b.2.2) = true := by decide +kernel
theorem ck_86 : tx_86.all (fun b => chk 11 cX11_force b.1 b.2.2) = true := by decide +kernel
theorem cs_87 : tx_87.all (fun b => chS 1 (some .int) b.2.2) = true := by decide +kernel
theorem ck_87 : tx_87.all (fun b => chk 11 cX11_draw b.1 b.2.2) = true := by decide +kernel
theorem cs_88 : tx_88.all (fun b => chS 1 (some .int) b.2.2) = true := by decide +kernel
theorem ck_88 : tx_88.all (fun b => chk 11 cX11_fault b.1 b.2.2) = true := by decide +kernel
theorem cs_89 : tx_89.all (fun b => chS 4 (some .boolean) b.2.2) = true := by decide +kernel
theorem ck_89 : tx_89.all (fun b => chk 11 cX11_by b.1 b.2.2) = true := by decide +kernel
theorem cs_90 : tx_90.all (fun b => chS 4 (some .int) b.2.2) = true := by decide +kernel
theorem ck_90 : tx_90.all (fun b => chk 11 cX11_broken b.1 b.2.2) = true := by decide +kernel
theorem cs_91 : tx_91.all (fun b => chS 3 (some .int) b.2.2) = true := by decide +kernel
theorem ck_91 : tx_91.all (fun b => chk 11 cX11_row b.1 b.2.2) = true := by decide +kernel
theorem cs_92 : tx_92.all (fun b => chS 4 none b.2.2) = true := by decide +kernel
theorem ck_92 : tx_92.all (fun b => chk 11 cX11_beside b.1 b.2.2) = true := by decide +kernel
theorem cs_93 : tx_93.all (fun b => chS 1 none b.2.2) = true := by decide +kernel
theorem ck_93 : tx_93.all (fun b => chk 11 cX11_image b.1 b.2.2) = true := by decide +kernel
theorem cs_94 : tx_94.all (fun b => chS 1 (some .boolean) b.2.2) = true := by decide +kernel
theorem ck_94 : tx_94.all (fun b => chk 11 cX11_back b.1 b.2.2) = true := by decide +kernel
theorem cs_95 : tx_95.all (fun b => chS 2 (some .int) b.2.2) = true := by decide +kernel
theorem ck_95 : tx_95.all (fun b => chk 11 cX11_count b.1 b.2.2) = true := by decide +kernel
theorem cs_96 : tx_96.all (fun b => chS 5 (some .int) b.2.2) = true := by decide +kernel
theorem ck_96 : tx_96.all (fun b => chk 11 cX11_wants b.1 b.2.2) = true := by decide +kernel
theorem cs_97 : tx_97.all (fun b => chS 4 (some .int) b.2.2) = true := by decide +kernel
theorem ck_97 : tx_97.all (fun b => chk 11 cX11_gains b.1 b.2.2) = true := by decide +kernel
theorem cs_98 : tx_98.all (fun b => chS 4 (some .int) b.2.2) = true := by decide +kernel
theorem ck_98 : tx_98.all (fun b => chk 11 cX11_next b.1 b.2.2) = true := by decide +kernel
theorem cs_99 : tx_99.all (fun b => chS 6 (some .long) b.2.2) = true := by decide +kernel
theorem ck_99 : tx_99.all (fun b => chk 11 cX11_worth b.1 b.2.2) = true := by decide +kernel
theorem cs_100 : tx_100.all (fun b => chS 1 (some .int) b.2.2) = true := by decide +kernel
theorem ck_100 : tx_100.all (fun b => chk 11 cX11_judge b.1 b.2.2) = true := by decide +kernel
theorem cs_101 : tx_101.all (fun b => chS 4 (some .int) b.2.2) = true := by decide +kernel
theorem ck_101 : tx_101.all (fun b => chk 11 cX11_pacts b.1 b.2.2) = true := by decide +kernel
theorem cs_102 : tx_102.all (fun b => chS 3 (some .int) b.2.2) = true := by decide +kernel
theorem ck_102 : tx_102.all (fun b => chk 11 cX11_weak b.1 b.2.2) = true := by decide +kernel
theorem cs_103 : tx_103.all (fun b => chS 3 (some .int) b.2.2) = true := by decide +kernel
theorem ck_103 : tx_103.all (fun b => chk 11 cX11_answer b.1 b.2.2) = true := by decide +kernel
theorem cs_104 : tx_104.all (fun b => chS 7 (some .int) b.2.2) = true := by decide +kernel
theorem ck_104 : tx_104.all (fun b => chk 11 cX11_edge b.1 b.2.2) = true := by decide +kernel
theorem cs_105 : tx_105.all (fun b => chS 3 (some .int) b.2.2) = true := by decide +kernel
theorem ck_105 : tx_105.all (fun b => chk 11 cX11_owner b.1 b.2.2) = true := by decide +kernel
theorem cs_106 : tx_106.all (fun b => chS 3 (some .long) b.2.2) = true := by decide +kernel
theorem ck_106 : tx_106.all (fun b => chk 11 cX11_owned b.1 b.2.2) = true := by decide +kernel
theorem cs_107 : tx_107.all (fun b => chS 6 (some .long) b.2.2) = true := by decide +kernel
theorem ck_107 : tx_107.all (fun b => chk 11 cX11_lost b.1 b.2.2) = true := by decide +kernel
theorem cs_108 : tx_108.all (fun b => chS 4 (some .int) b.2.2) = true := by decide +kernel
theorem ck_108 : tx_108.all (fun b => chk 11 cX11_near b.1 b.2.2) = true := by decide +kernel
theorem cs_109 : tx_109.all (fun b => chS 4 (some .int) b.2.2) = true := by decide +kernel
theorem ck_109 : tx_109.all (fun b => chk 11 cX11_rest b.1 b.2.2) = true := by decide +kernel
theorem cs_110 : tx_110.all (fun b => chS 5 (some .long) b.2.2) = true := by decide +kernel
theorem ck_110 : tx_110.all (fun b => chk 11 cX11_restWorth b.1 b.2.2) = true := by decide +kernel
theorem cs_111 : tx_111.all (fun b => chS 9 (some .int) b.2.2) = true := by decide +kernel
theorem ck_111 : tx_111.all (fun b => chk 11 cX11_nearest b.1 b.2.2) = true := by decide +kernel
theorem cs_112 : tx_112.all (fun b => chS 3 (some .long) b.2.2) = true := by decide +kernel
theorem ck_112 : tx_112.all (fun b => chk 11 cX11_dry b.1 b.2.2) = true := by decide +kernel
theorem cs_113 : tx_113.all (fun b => chS 4 (some .long) b.2.2) = true := by decide +kernel
theorem ck_113 : tx_113.all (fun b => chk 11 cX11_part b.1 b.2.2) = true := by decide +kernel
theorem cs_114 : tx_114.all (fun b => chS 9 (some .int) b.2.2) = true := by decide +kernel
theorem ck_114 : tx_114.all (fun b => chk 11 cX11_most b.1 b.2.2) = true := by decide +kernel
theorem cs_115 : tx_115.all (fun b => chS 4 (some .int) b.2.2) = true := by decide +kernel
theorem ck_115 : tx_115.all (fun b => chk 11 cX11_lasts b.1 b.2.2) = true := by decide +kernel
theorem cs_116 : tx_116.all (fun b => chS 7 (some .int) b.2.2) = true := by decide +kernel
theorem ck_116 : tx_116.all (fun b => chk 11 cX11_run b.1 b.2.2) = true := by decide +kernel
theorem cs_117 : tx_117.all (fun b => chS 2 none b.2.2) = true := by decide +kernel
theorem ck_117 : tx_117.all (fun b => chk 11 cX11_needFarm b.1 b.2.2) = true := by decide +kernel
theorem cs_118 : tx_118.all (fun b => chS 2 none b.2.2) = true := by decide +kernel
theorem ck_118 : tx_118.all (fun b => chk 11 cX11_needLevel b.1 b.2.2) = true := by decide +kernel
theorem cs_119 : tx_119.all (fun b => chS 2 none b.2.2) = true := by decide +kernel
theorem ck_119 : tx_119.all (fun b => chk 11 cX11_needIndex b.1 b.2.2) = true := by decide +kernel
theorem cs_120 : tx_120.all (fun b => chS 3 none b.2.2) = true := by decide +kernel
theorem ck_120 : tx_120.all (fun b => chk 11 cX11_needNumber b.1 b.2.2) = true := by decide +kernel
theorem cs_121 : tx_121.all (fun b => chS 2 none b.2.2) = true := by decide +kernel
theorem ck_121 : tx_121.all (fun b => chk 11 cX11_needRoom b.1 b.2.2) = true := by decide +kernel
theorem cs_122 : tx_122.all (fun b => chS 3 none b.2.2) = true := by decide +kernel
theorem ck_122 : tx_122.all (fun b => chk 11 cX11_pumpByDraws b.1 b.2.2) = true := by decide +kernel
theorem cs_123 : tx_123.all (fun b => chS 5 (some .int) b.2.2) = true := by decide +kernel
theorem ck_123 : tx_123.all (fun b => chk 11 cX11_levelsOfRest b.1 b.2.2) = true := by decide +kernel
theorem cs_124 : tx_124.all (fun b => chS 1 none b.2.2) = true := by decide +kernel
theorem ck_124 : tx_124.all (fun b => chk 11 cX11_ownAll b.1 b.2.2) = true := by decide +kernel
theorem cs_125 : tx_125.all (fun b => chS 7 (some .long) b.2.2) = true := by decide +kernel
theorem ck_125 : tx_125.all (fun b => chk 11 cX11_half b.1 b.2.2) = true := by decide +kernel
theorem cs_126 : tx_126.all (fun b => chS 11 (some .long) b.2.2) = true := by decide +kernel
theorem ck_126 : tx_126.all (fun b => chk 11 cX11_commonPart b.1 b.2.2) = true := by decide +kernel
theorem cs_127 : tx_127.all (fun b => chS 25 (some .boolean) b.2.2) = true := by decide +kernel
theorem ck_127 : tx_127.all (fun b => chk 11 cX11_isMore b.1 b.2.2) = true := by decide +kernel
theorem cs_128 : tx_128.all (fun b => chS 10 (some .long) b.2.2) = true := by decide +kernel
theorem ck_128 : tx_128.all (fun b => chk 11 cX11_wholeLess b.1 b.2.2) = true := by decide +kernel
theorem cs_129 : tx_129.all (fun b => chS 1 (some .int) b.2.2) = true := by decide +kernel
theorem ck_129 : tx_129.all (fun b => chk 12 cX12_thrown b.1 b.2.2) = true := by decide +kernel
theorem cs_130 : tx_130.all (fun b => chS 3 (some .boolean) b.2.2) = true := by decide +kernel
theorem ck_130 : tx_130.all (fun b => chk 12 cX12_throwsIf b.1 b.2.2) = true := by decide +kernel
theorem cs_131 : tx_131.all (fun b => chS 3 (some .boolean) b.2.2) = true := by decide +kernel
theorem ck_131 : tx_131.all (fun b => chk 12 cX12_in b.1 b.2.2) = true := by decide +kernel
theorem cs_132 : tx_132.all (fun b => chS 2 none b.2.2) = true := by decide +kernel
theorem ck_132 : tx_132.all (fun b => chk 12 cX12_image b.1 b.2.2) = true := by decide +kernel
theorem cs_133 : tx_133.all (fun b => chS 2 (some .boolean) b.2.2) = true := by decide +kernel
theorem ck_133 : tx_133.all (fun b => chk 12 cX12_back b.1 b.2.2) = true := by decide +kernel
theorem cs_134 : tx_134.all (fun b => chS 1 (some .int) b.2.2) = true := by decide +kernel
theorem ck_134 : tx_134.all (fun b => chk 12 cX12_topIs b.1 b.2.2) = true := by decide +kernel
theorem cs_135 : tx_135.all (fun b => chS 1 (some .int) b.2.2) = true := by decide +kernel
theorem ck_135 : tx_135.all (fun b => chk 12 cX12_farms b.1 b.2.2) = true := by decide +kernel
theorem cs_136 : tx_136.all (fun b => chS 1 (some .int) b.2.2) = true := by decide +kernel
theorem ck_136 : tx_136.all (fun b => chk 12 cX12_parts b.1 b.2.2) = true := by decide +kernel
theorem cs_137 : tx_137.all (fun b => chS 2 (some .boolean) b.2.2) = true := by decide +kernel
theorem ck_137 : tx_137.all (fun b => chk 12 cX12_noLevel b.1 b.2.2) = true := by decide +kernel
theorem cs_138 : tx_138.all (fun b => chS 2 (some .boolean) b.2.2) = true := by decide +kernel
theorem ck_138 : tx_138.all (fun b => chk 12 cX12_noFarm b.1 b.2.2) = true := by decide +kernel
theorem cs_139 : tx_139.all (fun b => chS 2 (some .boolean) b.2.2) = true := by decide +kernel
theorem ck_139 : tx_139.all (fun b => chk 12 cX12_noDraw b.1 b.2.2) = true := by decide +kernel
theorem cs_140 : tx_140.all (fun b => chS 3 none b.2.2) = true := by decide +kernel
theorem ck_140 : tx_140.all (fun b => chk 12 cX12_well b.1 b.2.2) = true := by decide +kernel
theorem cs_141 : tx_141.all (fun b => chS 5 none b.2.2) = true := by decide +kernel
theorem ck_141 : tx_141.all (fun b => chk 12 cX12_rain b.1 b.2.2) = true := by decide +kernel
theorem cs_142 : tx_142.all (fun b => chS 3 none b.2.2) = true := by decide +kernel
theorem ck_142 : tx_142.all (fun b => chk 12 cX12_years b.1 b.2.2) = true := by decide +kernel
theorem cs_143 : tx_143.all (fun b => chS 6 (some .int) b.2.2) = true := by decide +kernel
theorem ck_143 : tx_143.all (fun b => chk 12 cX12_farm b.1 b.2.2) = true := by decide +kernel
theorem cs_144 : tx_144.all (fun b => chS 7 (some .int) b.2.2) = true := by decide +kernel
theorem ck_144 : tx_144.all (fun b => chk 12 cX12_rule b.1 b.2.2) = true := by decide +kernel
theorem cs_145 : tx_145.all (fun b => chS 2 (some .boolean) b.2.2) = true := by decide +kernel
theorem ck_145 : tx_145.all (fun b => chk 12 cX12_force b.1 b.2.2) = true := by decide +kernel
theorem cs_146 : tx_146.all (fun b => chS 7 (some .int) b.2.2) = true := by decide +kernel
theorem ck_146 : tx_146.all (fun b => chk 12 cX12_feed b.1 b.2.2) = true := by decide +kernel
theorem cs_147 : tx_147.all (fun b => chS 2 (some .boolean) b.2.2) = true := by decide +kernel
theorem ck_147 : tx_147.all (fun b => chk 12 cX12_end b.1 b.2.2) = true := by decide +kernel
theorem cs_148 : tx_148.all (fun b => chS 1 none b.2.2) = true := by decide +kernel
theorem ck_148 : tx_148.all (fun b => chk 12 cX12_uses b.1 b.2.2) = true := by decide +kernel
theorem cs_149 : tx_149.all (fun b => chS 3 (some .boolean) b.2.2) = true := by decide +kernel
theorem ck_149 : tx_149.all (fun b => chk 12 cX12_isAt b.1 b.2.2) = true := by decide +kernel
theorem cs_150 : tx_150.all (fun b => chS 1 none b.2.2) = true := by decide +kernel
theorem ck_150 : tx_150.all (fun b => chk 12 cX12_blanks b.1 b.2.2) = true := by decide +kernel
theorem cs_151 : tx_151.all (fun b => chS 1 none b.2.2) = true := by decide +kernel
theorem ck_151 : tx_151.all (fun b => chk 12 cX12_letters b.1 b.2.2) = true := by decide +kernel
theorem cs_152 : tx_152.all (fun b => chS 4 (some .boolean) b.2.2) = true := by decide +kernel
theorem ck_152 : tx_152.all (fun b => chk 12 cX12_isWord b.1 b.2.2) = true := by decide +kernel
theorem cs_153 : tx_153.all (fun b => chS 2 (some .boolean) b.2.2) = true := by decide +kernel
theorem ck_153 : tx_153.all (fun b => chk 12 cX12_passes b.1 b.2.2) = true := by decide +kernel
theorem cs_154 : tx_154.all (fun b => chS 2 (some .boolean) b.2.2) = true := by decide +kernel
theorem ck_154 : tx_154.all (fun b => chk 12 cX12_sign b.1 b.2.2) = true := by decide +kernel
theorem cs_155 : tx_155.all (fun b => chS 3 (some .int) b.2.2) = true := by decide +kernel
theorem ck_155 : tx_155.all (fun b => chk 12 cX12_number b.1 b.2.2) = true := by decide +kernel
theorem cs_156 : tx_156.all (fun b => chS 1 (some .int) b.2.2) = true := by decide +kernel
theorem ck_156 : tx_156.all (fun b => chk 12 cX12_fault b.1 b.2.2) = true := by decide +kernel
theorem cs_157 : tx_157.all (fun b => chS 1 (some .int) b.2.2) = true := by decide +kernel
theorem ck_157 : tx_157.all (fun b => chk 12 cX12_drawAt b.1 b.2.2) = true := by decide +kernel
theorem cs_158 : tx_158.all (fun b => chS 2 (some .int) b.2.2) = true := by decide +kernel
theorem ck_158 : tx_158.all (fun b => chk 12 cX12_lineAt b.1 b.2.2) = true := by decide +kernel
theorem cs_159 : tx_159.all (fun b => chS 4 none b.2.2) = true := by decide +kernel
theorem ck_159 : tx_159.all (fun b => chk 12 cX12_emits b.1 b.2.2) = true := by decide +kernel
theorem cs_160 : tx_160.all (fun b => chS 2 (some .boolean) b.2.2) = true := by decide +kernel
theorem ck_160 : tx_160.all (fun b => chk 12 cX12_readPart b.1 b.2.2) = true := by decide +kernel
theorem cs_161 : tx_161.all (fun b => chS 1 (some .boolean) b.2.2) = true := by decide +kernel
theorem ck_161 : tx_161.all (fun b => chk 12 cX12_readSum b.1 b.2.2) = true := by decide +kernel
theorem cs_162 : tx_162.all (fun b => chS 2 (some .boolean) b.2.2) = true := by decide +kernel
theorem ck_162 : tx_162.all (fun b => chk 12 cX12_readAtom b.1 b.2.2) = true := by decide +kernel
theorem cs_163 : tx_163.all (fun b => chS 1 (some .boolean) b.2.2) = true := by decide +kernel
theorem ck_163 : tx_163.all (fun b => chk 12 cX12_readAllOf b.1 b.2.2) = true := by decide +kernel
theorem cs_164 : tx_164.all (fun b => chS 1 (some .boolean) b.2.2) = true := by decide +kernel
theorem ck_164 : tx_164.all (fun b => chk 12 cX12_readCond b.1 b.2.2) = true := by decide +kernel
theorem cs_165 : tx_165.all (fun b => chS 3 (some .boolean) b.2.2) = true := by decide +kernel
theorem ck_165 : tx_165.all (fun b => chk 12 cX12_readLine b.1 b.2.2) = true := by decide +kernel
theorem cs_166 : tx_166.all (fun b => chS 2 (some .int) b.2.2) = true := by decide +kernel
theorem ck_166 : tx_166.all (fun b => chk 12 cX12_readAll b.1 b.2.2) = true := by decide +kernel
theorem cs_167 : tx_167.all (fun b => chS 4 (some .int) b.2.2) = true := by decide +kernel
theorem ck_167 : tx_167.all (fun b => chk 12 cX12_draw b.1 b.2.2) = true := by decide +kernel
theorem cs_168 : tx_168.all (fun b => chS 4 (some .boolean) b.2.2) = true := by decide +kernel
theorem ck_168 : tx_168.all (fun b => chk 12 cX12_by b.1 b.2.2) = true := by decide +kernel
theorem cs_169 : tx_169.all (fun b => chS 13 (some .boolean) b.2.2) = true := by decide +kernel
theorem ck_169 : tx_169.all (fun b => chk 12 cX12_holds b.1 b.2.2) = true := by decide +kernel
theorem cs_170 : tx_170.all (fun b => chS 6 (some .int) b.2.2) = true := by decide +kernel
theorem ck_170 : tx_170.all (fun b => chk 12 cX12_drawn b.1 b.2.2) = true := by decide +kernel
theorem cs_171 : tx_171.all (fun b => chS 4 (some .int) b.2.2) = true := by decide +kernel
theorem ck_171 : tx_171.all (fun b => chk 12 cX12_wantOf b.1 b.2.2) = true := by decide +kernel
theorem cs_172 : tx_172.all (fun b => chS 8 (some .int) b.2.2) = true := by decide +kernel
theorem ck_172 : tx_172.all (fun b => chk 12 cX12_gainOf b.1 b.2.2) = true := by decide +kernel
theorem cs_173 : tx_173.all (fun b => chS 6 none b.2.2) = true := by decide +kernel
theorem ck_173 : tx_173.all (fun b => chk 12 cX12_year b.1 b.2.2) = true := by decide +kernel
theorem cs_174 : tx_174.all (fun b => chS 1 (some .int) b.2.2) = true := by decide +kernel
theorem ck_174 : tx_174.all (fun b => chk 12 cX12_ruleNow b.1 b.2.2) = true := by decide +kernel
theorem cs_175 : tx_175.all (fun b => chS 4 none b.2.2) = true := by decide +kernel
theorem ck_175 : tx_175.all (fun b => chk 12 cX12_wantNow b.1 b.2.2) = true := by decide +kernel
theorem cs_176 : tx_176.all (fun b => chS 3 none b.2.2) = true := by decide +kernel
theorem ck_176 : tx_176.all (fun b => chk 12 cX12_yearNow b.1 b.2.2) = true := by decide +kernel
theorem cs_177 : tx_177.all (fun b => chS 3 (some .int) b.2.2) = true := by decide +kernel
theorem ck_177 : tx_177.all (fun b => chk 12 cX12_rained b.1 b.2.2) = true := by decide +kernel
theorem cs_178 : tx_178.all (fun b => chS 5 (some .int) b.2.2) = true := by decide +kernel
theorem ck_178 : tx_178.all (fun b => chk 12 cX12_wants b.1 b.2.2) = true := by decide +kernel
theorem cs_179 : tx_179.all (fun b => chS 4 (some .int) b.2.2) = true := by decide +kernel
theorem ck_179 : tx_179.all (fun b => chk 12 cX12_gains b.1 b.2.2) = true := by decide +kernel
theorem cs_180 : tx_180.all (fun b => chS 6 (some .int) b.2.2) = true := by decide +kernel
theorem ck_180 : tx_180.all (fun b => chk 12 cX12_next b.1 b.2.2) = true := by decide +kernel
theorem cs_181 : tx_181.all (fun b => chS 10 (some .long) b.2.2) = true := by decide +kernel
theorem ck_181 : tx_181.all (fun b => chk 12 cX12_common b.1 b.2.2) = true := by decide +kernel
theorem cs_182 : tx_182.all (fun b => chS 25 (some .int) b.2.2) = true := by decide +kernel
theorem ck_182 : tx_182.all (fun b => chk 12 cX12_compared b.1 b.2.2) = true := by decide +kernel
theorem cs_183 : tx_183.all (fun b => chS 7 none b.2.2) = true := by decide +kernel
theorem ck_183 : tx_183.all (fun b => chk 12 cX12_tells b.1 b.2.2) = true := by decide +kernel
theorem cs_184 : tx_184.all (fun b => chS 8 (some .long) b.2.2) = true := by decide +kernel
theorem ck_184 : tx_184.all (fun b => chk 12 cX12_numberWith b.1 b.2.2) = true := by decide +kernel
theorem cs_185 : tx_185.all (fun b => chS 3 none b.2.2) = true := by decide +kernel
theorem ck_185 : tx_185.all (fun b => chk 12 cX12_squares b.1 b.2.2) = true := by decide +kernel
theorem cs_186 : tx_186.all (fun b => chS 2 none b.2.2) = true := by decide +kernel
theorem ck_186 : tx_186.all (fun b => chk 12 cX12_solves b.1 b.2.2) = true := by decide +kernel
theorem cs_187 : tx_187.all (fun b => chS 7 (some .long) b.2.2) = true := by decide +kernel
theorem ck_187 : tx_187.all (fun b => chk 12 cX12_awaited b.1 b.2.2) = true := by decide +kernel
theorem cs_188 : tx_188.all (fun b => chS 3 (some .int) b.2.2) = true := by decide +kernel
theorem ck_188 : tx_188.all (fun b => chk 12 cX12_at b.1 b.2.2) = true := by decide +kernel
theorem cs_189 : tx_189.all (fun b => chS 4 none b.2.2) = true := by decide +kernel
theorem ck_189 : tx_189.all (fun b => chk 12 cX12_worthsByDraws b.1 b.2.2) = true := by decide +kernel
theorem cs_190 : tx_190.all (fun b => chS 6 (some .long) b.2.2) = true := by decide +kernel
theorem ck_190 : tx_190.all (fun b => chk 12 cX12_worth b.1 b.2.2) = true := by decide +kernel
theorem cs_191 : tx_191.all (fun b => chS 10 (some .boolean) b.2.2) = true := by decide +kernel
theorem ck_191 : tx_191.all (fun b => chk 12 cX12_gainsBy b.1 b.2.2) = true := by decide +kernel
theorem cs_192 : tx_192.all (fun b => chS 4 (some .int) b.2.2) = true := by decide +kernel
theorem ck_192 : tx_192.all (fun b => chk 12 cX12_judged b.1 b.2.2) = true := by decide +kernel
theorem cs_193 : tx_193.all (fun b => chS 1 (some .int) b.2.2) = true := by decide +kernel
theorem ck_193 : tx_193.all (fun b => chk 12 cX12_judge b.1 b.2.2) = true := by decide +kernel
theorem cs_194 : tx_194.all (fun b => chS 6 none b.2.2) = true := by decide +kernel
theorem ck_194 : tx_194.all (fun b => chk 12 cX12_wantsBy b.1 b.2.2) = true := by decide +kernel
theorem cs_195 : tx_195.all (fun b => chS 4 (some .int) b.2.2) = true := by decide +kernel
theorem ck_195 : tx_195.all (fun b => chk 12 cX12_codes b.1 b.2.2) = true := by decide +kernel
theorem cs_196 : tx_196.all (fun b => chS 4 none b.2.2) = true := by decide +kernel
theorem ck_196 : tx_196.all (fun b => chk 12 cX12_yearBy b.1 b.2.2) = true := by decide +kernel
theorem cs_197 : tx_197.all (fun b => chS 2 (some .int) b.2.2) = true := by decide +kernel
theorem ck_197 : tx_197.all (fun b => chk 12 cX12_gainBy b.1 b.2.2) = true := by decide +kernel
theorem cs_198 : tx_198.all (fun b => chS 11 none b.2.2) = true := by decide +kernel
theorem ck_198 : tx_198.all (fun b => chk 12 cX12_betters b.1 b.2.2) = true := by decide +kernel
theorem cs_199 : tx_199.all (fun b => chS 3 (some .int) b.2.2) = true := by decide +kernel
theorem ck_199 : tx_199.all (fun b => chk 12 cX12_answer b.1 b.2.2) = true := by decide +kernel
theorem cs_200 : tx_200.all (fun b => chS 3 (some .int) b.2.2) = true := by decide +kernel
theorem ck_200 : tx_200.all (fun b => chk 12 cX12_owner b.1 b.2.2) = true := by decide +kernel
theorem cs_201 : tx_201.all (fun b => chS 3 (some .long) b.2.2) = true := by decide +kernel
theorem ck_201 : tx_201.all (fun b => chk 12 cX12_owned b.1 b.2.2) = true := by decide +kernel
theorem cs_202 : tx_202.all (fun b => chS 10 (some .long) b.2.2) = true := by decide +kernel
theorem ck_202 : tx_202.all (fun b => chk 12 cX12_lost b.1 b.2.2) = true := by decide +kernel
theorem cs_203 : tx_203.all (fun b => chS 1 (some .boolean) b.2.2) = true := by decide +kernel
theorem ck_203 : tx_203.all (fun b => chk 12 cX12_noYears b.1 b.2.2) = true := by decide +kernel
theorem cs_204 : tx_204.all (fun b => chS 12 (some .int) b.2.2) = true := by decide +kernel
theorem ck_204 : tx_204.all (fun b => chk 12 cX12_near b.1 b.2.2) = true := by decide +kernel
theorem cs_205 : tx_205.all (fun b => chS 11 (some .boolean) b.2.2) = true := by decide +kernel
theorem ck_205 : tx_205.all (fun b => chk 12 cX12_isRest b.1 b.2.2) = true := by decide +kernel
theorem cs_206 : tx_206.all (fun b => chS 5 (some .int) b.2.2) = true := by decide +kernel
theorem ck_206 : tx_206.all (fun b => chk 12 cX12_plainOf b.1 b.2.2) = true := by decide +kernel
theorem cs_207 : tx_207.all (fun b => chS 7 none b.2.2) = true := by decide +kernel
theorem ck_207 : tx_207.all (fun b => chk 12 cX12_rests b.1 b.2.2) = true := by decide +kernel
theorem cs_208 : tx_208.all (fun b => chS 4 (some .int) b.2.2) = true := by decide +kernel
theorem ck_208 : tx_208.all (fun b => chk 12 cX12_rest b.1 b.2.2) = true := by decide +kernel
theorem cs_209 : tx_209.all (fun b => chS 5 (some .long) b.2.2) = true := by decide +kernel
theorem ck_209 : tx_209.all (fun b => chk 12 cX12_restWorth b.1 b.2.2) = true := by decide +kernel
theorem cs_210 : tx_210.all (fun b => chS 7 (some .int) b.2.2) = true := by decide +kernel
theorem ck_210 : tx_210.all (fun b => chk 12 cX12_nearest b.1 b.2.2) = true := by decide +kernel
theorem cs_211 : tx_211.all (fun b => chS 4 (some .int) b.2.2) = true := by decide +kernel
theorem ck_211 : tx_211.all (fun b => chk 12 cX12_pacts b.1 b.2.2) = true := by decide +kernel
theorem cs_212 : tx_212.all (fun b => chS 10 (some .int) b.2.2) = true := by decide +kernel
theorem ck_212 : tx_212.all (fun b => chk 12 cX12_weak b.1 b.2.2) = true := by decide +kernel
theorem cs_213 : tx_213.all (fun b => chS 8 (some .long) b.2.2) = true := by decide +kernel
theorem ck_213 : tx_213.all (fun b => chk 12 cX12_dry b.1 b.2.2) = true := by decide +kernel
theorem cs_214 : tx_214.all (fun b => chS 9 (some .long) b.2.2) = true := by decide +kernel
theorem ck_214 : tx_214.all (fun b => chk 12 cX12_partOfAll b.1 b.2.2) = true := by decide +kernel
theorem cs_215 : tx_215.all (fun b => chS 4 (some .long) b.2.2) = true := by decide +kernel
theorem ck_215 : tx_215.all (fun b => chk 12 cX12_part b.1 b.2.2) = true := by decide +kernel
theorem cs_216 : tx_216.all (fun b => chS 9 (some .int) b.2.2) = true := by decide +kernel
theorem ck_216 : tx_216.all (fun b => chk 12 cX12_most b.1 b.2.2) = true := by decide +kernel
theorem cs_217 : tx_217.all (fun b => chS 8 (some .int) b.2.2) = true := by decide +kernel
theorem ck_217 : tx_217.all (fun b => chk 12 cX12_edge b.1 b.2.2) = true := by decide +kernel
theorem cs_218 : tx_218.all (fun b => chS 4 (some .int) b.2.2) = true := by decide +kernel
theorem ck_218 : tx_218.all (fun b => chk 12 cX12_lasts b.1 b.2.2) = true := by decide +kernel
theorem cs_219 : tx_219.all (fun b => chS 4 none b.2.2) = true := by decide +kernel
theorem ck_219 : tx_219.all (fun b => chk 12 cX12_beside b.1 b.2.2) = true := by decide +kernel
theorem cs_220 : tx_220.all (fun b => chS 5 (some .int) b.2.2) = true := by decide +kernel
theorem ck_220 : tx_220.all (fun b => chk 12 cX12_broken b.1 b.2.2) = true := by decide +kernel
theorem cs_221 : tx_221.all (fun b => chS 3 (some .int) b.2.2) = true := by decide +kernel
theorem ck_221 : tx_221.all (fun b => chk 12 cX12_row b.1 b.2.2) = true := by decide +kernel
theorem cs_222 : tx_222.all (fun b => chS 4 (some .int) b.2.2) = true := by decide +kernel
theorem ck_222 : tx_222.all (fun b => chk 12 cX12_partOf b.1 b.2.2) = true := by decide +kernel
theorem cs_223 : tx_223.all (fun b => chS 18 (some .int) b.2.2) = true := by decide +kernel
theorem ck_223 : tx_223.all (fun b => chk 12 cX12_run b.1 b.2.2) = true := by decide +kernel
theorem cs_224 : tx_224.all (fun b => chS 6 (some .int) b.2.2) = true := by decide +kernel
theorem ck_224 : tx_224.all (fun b => chk 12 cX12_count b.1 b.2.2) = true := by decide +kernel
theorem cs_225 : tx_225.all (fun b => chS 1 (some .int) b.2.2) = true := by decide +kernel
theorem ck_225 : tx_225.all (fun b => chk 14 cJ6_bitCount_0f7a4 b.1 b.2.2) = true := by decide +kernel
theorem cs_226 : tx_226.all (fun b => chS 6 (some .long) b.2.2) = true := by decide +kernel
theorem ck_226 : tx_226.all (fun b => chk 15 cJ9_floorDiv_f86c9 b.1 b.2.2) = true := by decide +kernel
theorem cs_227 : tx_227.all (fun b => chS 6 (some .long) b.2.2) = true := by decide +kernel
theorem ck_227 : tx_227.all (fun b => chk 15 cJ9_floorMod_f86c9 b.1 b.2.2) = true := by decide +kernel
theorem cs_228 : tx_228.all (fun b => chS 1 (some .int) b.2.2) = true := by decide +kernel
theorem ck_228 : tx_228.all (fun b => chk 15 cJ9_abs_0f7a4 b.1 b.2.2) = true := by decide +kernel
theorem cs_229 : tx_229.all (fun b => chS 2 (some .long) b.2.2) = true := by decide +kernel
theorem ck_229 : tx_229.all (fun b => chk 15 cJ9_abs_067f4 b.1 b.2.2) = true := by decide +kernel
theorem cs_230 : tx_230.all (fun b => chS 2 (some .int) b.2.2) = true := by decide +kernel
theorem ck_230 : tx_230.all (fun b => chk 15 cJ9_max_7cf53 b.1 b.2.2) = true := by decide +kernel
theorem cs_231 : tx_231.all (fun b => chS 2 (some .int) b.2.2) = true := by decide +kernel
theorem ck_231 : tx_231.all (fun b => chk 15 cJ9_min_7cf53 b.1 b.2.2) = true := by decide +kernel
theorem cs_232 : tx_232.all (fun b => chS 5 none b.2.2) = true := by decide +kernel
theorem ck_232 : tx_232.all (fun b => chk 16 cJ7_fill_d0a16 b.1 b.2.2) = true := by decide +kernel
theorem cs_233 : tx_233.all (fun b => chS 4 none b.2.2) = true := by decide +kernel
theorem ck_233 : tx_233.all (fun b => chk 16 cJ7_fill_53178 b.1 b.2.2) = true := by decide +kernel
theorem cs_234 : tx_234.all (fun b => chS 4 (some .int) b.2.2) = true := by decide +kernel
theorem ck_234 : tx_234.all (fun b => chk 13 cL_well b.1 b.2.2) = true := by decide +kernel
theorem cs_235 : tx_235.all (fun b => chS 6 (some .int) b.2.2) = true := by decide +kernel
theorem ck_235 : tx_235.all (fun b => chk 13 cL_rain b.1 b.2.2) = true := by decide +kernel
theorem cs_236 : tx_236.all (fun b => chS 4 (some .int) b.2.2) = true := by decide +kernel
theorem ck_236 : tx_236.all (fun b => chk 13 cL_years b.1 b.2.2) = true := by decide +kernel
theorem cs_237 : tx_237.all (fun b => chS 7 (some .int) b.2.2) = true := by decide +kernel
theorem ck_237 : tx_237.all (fun b => chk 13 cL_farm b.1 b.2.2) = true := by decide +kernel
theorem cs_238 : tx_238.all (fun b => chS 8 (some .int) b.2.2) = true := by decide +kernel
theorem ck_238 : tx_238.all (fun b => chk 13 cL_rule b.1 b.2.2) = true := by decide +kernel
theorem cs_239 : tx_239.all (fun b => chS 4 (some .int) b.2.2) = true := by decide +kernel
theorem ck_239 : tx_239.all (fun b => chk 13 cL_force b.1 b.2.2) = true := by decide +kernel
theorem cs_240 : tx_240.all (fun b => chS 3 (some .int) b.2.2) = true := by decide +kernel
theorem ck_240 : tx_240.all (fun b => chk 13 cL_draw b.1 b.2.2) = true := by decide +kernel
theorem cs_241 : tx_241.all (fun b => chS 5 (some .int) b.2.2) = true := by decide +kernel
theorem ck_241 : tx_241.all (fun b => chk 13 cL_by b.1 b.2.2) = true := by decide +kernel
theorem cs_242 : tx_242.all (fun b => chS 7 (some .int) b.2.2) = true := by decide +kernel
theorem ck_242 : tx_242.all (fun b => chk 13 cL_wants b.1 b.2.2) = true := by decide +kernel
theorem cs_243 : tx_243.all (fun b => chS 6 (some .int) b.2.2) = true := by decide +kernel
theorem ck_243 : tx_243.all (fun b => chk 13 cL_gains b.1 b.2.2) = true := by decide +kernel
theorem cs_244 : tx_244.all (fun b => chS 6 (some .int) b.2.2) = true := by decide +kernel
theorem ck_244 : tx_244.all (fun b => chk 13 cL_next b.1 b.2.2) = true := by decide +kernel
theorem cs_245 : tx_245.all (fun b => chS 7 (some .int) b.2.2) = true := by decide +kernel
theorem ck_245 : tx_245.all (fun b => chk 13 cL_worth b.1 b.2.2) = true := by decide +kernel
theorem cs_246 : tx_246.all (fun b => chS 5 (some .int) b.2.2) = true := by decide +kernel
theorem ck_246 : tx_246.all (fun b => chk 13 cL_answer b.1 b.2.2) = true := by decide +kernel
theorem cs_247 : tx_247.all (fun b => chS 5 (some .int) b.2.2) = true := by decide +kernel
theorem ck_247 : tx_247.all (fun b => chk 13 cL_owner b.1 b.2.2) = true := by decide +kernel
theorem cs_248 : tx_248.all (fun b => chS 5 (some .int) b.2.2) = true := by decide +kernel
theorem ck_248 : tx_248.all (fun b => chk 13 cL_owned b.1 b.2.2) = true := by decide +kernel
theorem cs_249 : tx_249.all (fun b => chS 4 (some .int) b.2.2) = true := by decide +kernel
theorem ck_249 : tx_249.all (fun b => chk 13 cL_lost b.1 b.2.2) = true := by decide +kernel
theorem cs_250 : tx_250.all (fun b => chS 6 (some .int) b.2.2) = true := by decide +kernel
theorem ck_250 : tx_250.all (fun b => chk 13 cL_near b.1 b.2.2) = true := by decide +kernel
theorem cs_251 : tx_251.all (fun b => chS 6 (some .int) b.2.2) = true := by decide +kernel
theorem ck_251 : tx_251.all (fun b => chk 13 cL_rest b.1 b.2.2) = true := by decide +kernel
theorem cs_252 : tx_252.all (fun b => chS 7 (some .int) b.2.2) = true := by decide +kernel
theorem ck_252 : tx_252.all (fun b => chk 13 cL_restWorth b.1 b.2.2) = true := by decide +kernel
theorem cs_253 : tx_253.all (fun b => chS 5 (some .int) b.2.2) = true := by decide +kernel
theorem ck_253 : tx_253.all (fun b => chk 13 cL_nearest b.1 b.2.2) = true := by decide +kernel
theorem cs_254 : tx_254.all (fun b => chS 4 (some .int) b.2.2) = true := by decide +kernel
theorem ck_254 : tx_254.all (fun b => chk 13 cL_pacts b.1 b.2.2) = true := by decide +kernel
theorem cs_255 : tx_255.all (fun b => chS 5 (some .int) b.2.2) = true := by decide +kernel
theorem ck_255 : tx_255.all (fun b => chk 13 cL_dry b.1 b.2.2) = true := by decide +kernel
theorem cs_256 : tx_256.all (fun b => chS 6 (some .int) b.2.2) = true := by decide +kernel
theorem ck_256 : tx_256.all (fun b => chk 13 cL_broken b.1 b.2.2) = true := by decide +kernel
theorem cs_257 : tx_257.all (fun b => chS 3 (some .int) b.2.2) = true := by decide +kernel
theorem ck_257 : tx_257.all (fun b => chk 13 cL_row b.1 b.2.2) = true := by decide +kernel
theorem cs_258 : tx_258.all (fun b => chS 8 (some .int) b.2.2) = true := by decide +kernel
theorem ck_258 : tx_258.all (fun b => chk 13 cL_run b.1 b.2.2) = true := by decide +kernel
theorem cs_259 : tx_259.all (fun b => chS 6 (some .int) b.2.2) = true := by decide +kernel
theorem ck_259 : tx_259.all (fun b => chk 13 cL_part b.1 b.2.2) = true := by decide +kernel
theorem cs_260 : tx_260.all (fun b => chS 5 (some .int) b.2.2) = true := by decide +kernel
theorem ck_260 : tx_260.all (fun b => chk 13 cL_most b.1 b.2.2) = true := by decide +kernel
theorem cs_261 : tx_261.all (fun b => chS 5 (some .int) b.2.2) = true := by decide +kernel
theorem ck_261 : tx_261.all (fun b => chk 13 cL_edge b.1 b.2.2) = true := by decide +kernel
theorem cs_262 : tx_262.all (fun b => chS 4 (some .int) b.2.2) = true := by decide +kernel
theorem ck_262 : tx_262.all (fun b => chk 13 cL_lasts b.1 b.2.2) = true := by decide +kernel
theorem cs_263 : tx_263.all (fun b => chS 5 (some .int) b.2.2) = true := by decide +kernel
theorem ck_263 : tx_263.all (fun b => chk 13 cL_beside b.1 b.2.2) = true := by decide +kernel
