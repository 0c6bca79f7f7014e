/-! THE PROGRAMS: numbers. -/
def iz (z : Int) : Int32 := Int32.ofInt z
def lz (z : Int) : Int64 := Int64.ofInt z
theorem iz_toInt {z : Int} (h : -2147483648 ≤ z) (h2 : z < 2147483648) : (iz z).toInt = z := by
  unfold iz
  rw [Int32.toInt_ofInt]
  have hs : Int32.size = 4294967296 := rfl
  exact Int.bmod_eq_of_le_mul_two (by omega) (by omega)
theorem lz_toInt {z : Int} (h : -9223372036854775808 ≤ z) (h2 : z < 9223372036854775808) : (lz z).toInt = z := by
  unfold lz
  rw [Int64.toInt_ofInt]
  have hs : Int64.size = 18446744073709551616 := rfl
  exact Int.bmod_eq_of_le_mul_two (by omega) (by omega)
theorem iz_of (x : Int32) : iz x.toInt = x := Int32.ofInt_toInt x
theorem lz_of (x : Int64) : lz x.toInt = x := Int64.ofInt_toInt x
theorem iz_n (n : Nat) : nI n = iz n := (Int32.ofInt_eq_ofNat (n := n)).symm
theorem lz_n (n : Nat) : lN n = lz n := (Int64.ofInt_eq_ofNat (n := n)).symm
theorem iz_add (a b : Int) : iz a + iz b = iz (a + b) := (Int32.ofInt_add a b).symm
theorem iz_sub (a b : Int) : iz a - iz b = iz (a - b) := (Int32.ofInt_sub a b).symm
theorem iz_mul (a b : Int) : iz a * iz b = iz (a * b) := (Int32.ofInt_mul a b).symm
theorem iz_neg (a : Int) : -iz a = iz (-a) := (Int32.ofInt_neg a).symm
theorem lz_add (a b : Int) : lz a + lz b = lz (a + b) := (Int64.ofInt_add a b).symm
theorem lz_sub (a b : Int) : lz a - lz b = lz (a - b) := (Int64.ofInt_sub a b).symm
theorem lz_mul (a b : Int) : lz a * lz b = lz (a * b) := (Int64.ofInt_mul a b).symm
theorem lz_neg (a : Int) : -lz a = lz (-a) := (Int64.ofInt_neg a).symm
theorem nI_mul (a b : Nat) : nI a * nI b = nI (a * b) := (Int32.ofNat_mul a b).symm
theorem nI_sub {a b : Nat} (h : b ≤ a) : nI a - nI b = nI (a - b) := by
  have : nI a = nI (a - b) + nI b := by rw [nI_add, Nat.sub_add_cancel h]
  rw [this, Int32.add_sub_cancel]
theorem one_nI : Int32.ofInt 1 = nI 1 := rfl
theorem nI_s (a : Nat) : nI a + Int32.ofInt 1 = nI (a + 1) := nI_add a 1
theorem zero_nI : (0 : Int32) = nI 0 := rfl
/-- a number of the machine's ints -/
def i32 (z : Int) : Prop := -2147483648 ≤ z ∧ z < 2147483648
def i64 (z : Int) : Prop := -9223372036854775808 ≤ z ∧ z < 9223372036854775808
theorem iz_lt {a b : Int} (ha : i32 a) (hb : i32 b) : iz a < iz b ↔ a < b := by rw [Int32.lt_iff_toInt_lt, iz_toInt ha.1 ha.2, iz_toInt hb.1 hb.2]
theorem iz_le {a b : Int} (ha : i32 a) (hb : i32 b) : iz a ≤ iz b ↔ a ≤ b := by rw [Int32.le_iff_toInt_le, iz_toInt ha.1 ha.2, iz_toInt hb.1 hb.2]
theorem iz_eq {a b : Int} (ha : i32 a) (hb : i32 b) : iz a = iz b ↔ a = b := by rw [← Int32.toInt_inj, iz_toInt ha.1 ha.2, iz_toInt hb.1 hb.2]
theorem lz_lt {a b : Int} (ha : i64 a) (hb : i64 b) : lz a < lz b ↔ a < b := by rw [Int64.lt_iff_toInt_lt, lz_toInt ha.1 ha.2, lz_toInt hb.1 hb.2]
theorem lz_le {a b : Int} (ha : i64 a) (hb : i64 b) : lz a ≤ lz b ↔ a ≤ b := by rw [Int64.le_iff_toInt_le, lz_toInt ha.1 ha.2, lz_toInt hb.1 hb.2]
theorem lz_eq {a b : Int} (ha : i64 a) (hb : i64 b) : lz a = lz b ↔ a = b := by rw [← Int64.toInt_inj, lz_toInt ha.1 ha.2, lz_toInt hb.1 hb.2]
theorem iz_l {a : Int} (ha : i32 a) : (iz a).toInt64 = lz a := Int64.toInt_inj.mp (by rw [Int32.toInt_toInt64, iz_toInt ha.1 ha.2, lz_toInt (by have := ha.1; omega) (by have := ha.2; omega)])
theorem lz_i (a : Int) : (lz a).toInt32 = iz a := by
  unfold lz iz
  exact Int64.toInt32_ofInt
theorem iz_nat {a : Int} (ha : i32 a) : (iz a).toNatClampNeg = a.toNat := by
  show (iz a).toInt.toNat = a.toNat
  rw [iz_toInt ha.1 ha.2]
theorem iz_in {a : Int} {n : Nat} (h : 0 ≤ a) (h2 : a < n) (hn : n < 2147483648) : vp_in (iz a) n := by
  rw [vp_in_iff, iz_toInt (by omega) (by omega)]
  exact ⟨h, h2⟩
theorem nI_in2 {a n : Nat} (h : a < n) (hn : n < 2147483648) : vp_in (nI a) n := vp_in_nI h hn
theorem nI_c {a : Nat} (h : a < 2147483648) : (nI a).toNatClampNeg = a := nI_clamp h
theorem iz_max {a b : Int} (ha : i32 a) (hb : i32 b) : (if iz a ≤ iz b then iz b else iz a) = iz (max a b) := by
  by_cases h : a ≤ b
  · rw [if_pos ((iz_le ha hb).mpr h)]; congr 1; omega
  · rw [if_neg (fun q => h ((iz_le ha hb).mp q))]; congr 1; omega
theorem cmp_v (a b : Int64) : lg_cmp a b = if b.toInt < a.toInt then 1 else if a.toInt = b.toInt then 0 else -1 := by
  unfold lg_cmp
  simp only [Int64.lt_iff_toInt_lt, ← Int64.toInt_inj]
theorem cmp_lt {a b : Int64} : lg_cmp a b < 0 ↔ a < b := by
  rw [cmp_v, Int64.lt_iff_toInt_lt]
  split
  · exact ⟨fun q => absurd q (by decide), fun q => by omega⟩
  · split
    · exact ⟨fun q => absurd q (by decide), fun q => by omega⟩
    · exact ⟨fun _ => by omega, fun _ => by decide⟩
theorem cmp_eq {a b : Int64} : lg_cmp a b = 0 ↔ a = b := by
  rw [cmp_v, ← Int64.toInt_inj]
  split
  · exact ⟨fun q => absurd q (by decide), fun q => by omega⟩
  · split
    · exact ⟨fun _ => by omega, fun _ => rfl⟩
    · exact ⟨fun q => absurd q (by decide), fun q => by omega⟩
theorem cmp_le {a b : Int64} : lg_cmp a b ≤ 0 ↔ a ≤ b := by
  rw [cmp_v, Int64.le_iff_toInt_le]
  split
  · exact ⟨fun q => absurd q (by decide), fun q => by omega⟩
  · split
    · exact ⟨fun _ => by omega, fun _ => by decide⟩
    · exact ⟨fun _ => by omega, fun _ => by decide⟩
theorem cmp_gt {a b : Int64} : 0 < lg_cmp a b ↔ b < a := by
  rw [cmp_v, Int64.lt_iff_toInt_lt]
  split
  · exact ⟨fun _ => by omega, fun _ => by decide⟩
  · split
    · exact ⟨fun q => absurd q (by decide), fun q => by omega⟩
    · exact ⟨fun q => absurd q (by decide), fun q => by omega⟩
theorem cmp_ge {a b : Int64} : 0 ≤ lg_cmp a b ↔ b ≤ a := by
  rw [cmp_v, Int64.le_iff_toInt_le]
  split
  · exact ⟨fun _ => by omega, fun _ => by decide⟩
  · split
    · exact ⟨fun _ => by omega, fun _ => by decide⟩
    · exact ⟨fun q => absurd q (by decide), fun q => by omega⟩
/-! THE PROGRAMS: what a method does. -/
abbrev SC (d : Nat) : CT := (sem d).1
abbrev ST (d : Nat) : TT := (sem d).2
theorem go_in {d : Nat} {R : RT} {tx : Tx} {g pc : Nat} {L : Lo} {st : List Value} {M : Mm} (h : blk (SC d) (ST d) R hdN tx (Wp (SC d) (ST d) R hdN tx) g pc L st M) : Wp (SC d) (ST d) R hdN tx g pc L st M := Wp_in (sem_mono d).1 (sem_mono d).2 hdN_ok h
theorem sC {d k : Nat} {as : List Value} {M : Mm} {Q : List Value → Mm → Prop} (hk : k < 234) (ha : aOK as (mlOf k) = true) (h : Wp (SC d) (ST d) (RP Q) hdN (txOf k) 0 0 (entL as (mlOf k)) [] M) : SC (d + 1) k as M Q := by
  refine Or.inr ⟨by omega, ha, ?_⟩
  have hd0 : hdC k Q = hdN := by
    unfold hdC
    rw [show Nat.blt k 234 = true from Nat.blt_eq.mpr hk]; rfl
  have hg : gOf k = 0 := by
    unfold gOf
    have : Nat.ble 234 k = false := by
      cases hb : Nat.ble 234 k with
      | true => have := Nat.le_of_ble_eq_true hb; omega
      | false => rfl
    rw [this]; rfl
  rw [hd0, hg]
  exact h
theorem useC {d k : Nat} {as : List Value} {M : Mm} {Q Q' : List Value → Mm → Prop} (h : SC d k as M Q) (hq : ∀ vs N, Q vs N → Q' vs N) : SC d k as M Q' := (sem_mono d).1 _ _ _ _ _ hq h
theorem upC {d e k : Nat} {as : List Value} {M : Mm} {Q : List Value → Mm → Prop} (h : SC d k as M Q) (hde : d ≤ e) : SC e k as M Q := by
  obtain ⟨n, rfl⟩ : ∃ n, e = d + n := ⟨e - d, by omega⟩
  exact (sem_le d n).1 _ _ _ _ _ (fun _ _ q => q) h
theorem upT {d e k : Nat} {as : List Value} {M : Mm} {Q : Nat → Mm → Prop} (h : ST d k as M Q) (hde : d ≤ e) : ST e k as M Q := by
  obtain ⟨n, rfl⟩ : ∃ n, e = d + n := ⟨e - d, by omega⟩
  exact (sem_le d n).2 _ _ _ _ _ (fun _ _ q => q) h
/-- what may have changed -/
def Fr (P : Nat → Nat → Bool) (M N : Mm) : Prop := ∀ k j, P k j = false → N.1 k j = M.1 k j ∧ N.2.1 k j = M.2.1 k j ∧ N.2.2 k j = M.2.2 k j
theorem Fr.rf {P : Nat → Nat → Bool} {M : Mm} : Fr P M M := fun _ _ _ => ⟨rfl, rfl, rfl⟩
theorem Fr.tr {P : Nat → Nat → Bool} {M N O : Mm} (h : Fr P M N) (h2 : Fr P N O) : Fr P M O := fun k j q => ⟨((h2 k j q).1).trans (h k j q).1, ((h2 k j q).2.1).trans (h k j q).2.1, ((h2 k j q).2.2).trans (h k j q).2.2⟩
theorem Fr.le {P P' : Nat → Nat → Bool} {M N : Mm} (h : Fr P M N) (hp : ∀ k j, P' k j = false → P k j = false) : Fr P' M N := fun k j q => h k j (hp k j q)
theorem Fr.sI {P : Nat → Nat → Bool} {M N : Mm} {k j : Nat} {v : Int32} (h : Fr P M N) (hp : P k j = true) : Fr P M (sI N k j v) := fun a b q => by
  have hne : ¬ (a = k ∧ b = j) := fun e => by rw [e.1, e.2, hp] at q; cases q
  exact ⟨(sI_ne N v hne).trans (h a b q).1, (h a b q).2⟩
theorem Fr.sJ {P : Nat → Nat → Bool} {M N : Mm} {k j : Nat} {v : Int64} (h : Fr P M N) (hp : P k j = true) : Fr P M (sJ N k j v) := fun a b q => by
  have hne : ¬ (a = k ∧ b = j) := fun e => by rw [e.1, e.2, hp] at q; cases q
  exact ⟨(h a b q).1, (sJ_ne N v hne).trans (h a b q).2.1, (h a b q).2.2⟩
theorem Fr.sR {P : Nat → Nat → Bool} {M N : Mm} {k j v : Nat} (h : Fr P M N) (hp : P k j = true) : Fr P M (sR N k j v) := fun a b q => by
  have hne : ¬ (a = k ∧ b = j) := fun e => by rw [e.1, e.2, hp] at q; cases q
  exact ⟨(h a b q).1, (h a b q).2.1, (sR_ne N v hne).trans (h a b q).2.2⟩
theorem Fr.cpI {P : Nat → Nat → Bool} {M N : Mm} {x y sp dp n : Nat} (h : Fr P M N) (hp : ∀ b, dp ≤ b → b < dp + n → P y b = true) : Fr P M (cpI N x y sp dp n) := fun a b q => by
  refine ⟨?_, (h a b q).2⟩
  show (if a = y ∧ dp ≤ b ∧ b < dp + n then N.1 x (sp + (b - dp)) else N.1 a b) = M.1 a b
  rw [if_neg (fun e => by rw [e.1, hp b e.2.1 e.2.2] at q; cases q)]
  exact (h a b q).1
theorem Fr.cpJ {P : Nat → Nat → Bool} {M N : Mm} {x y sp dp n : Nat} (h : Fr P M N) (hp : ∀ b, dp ≤ b → b < dp + n → P y b = true) : Fr P M (cpJ N x y sp dp n) := fun a b q => by
  refine ⟨(h a b q).1, ?_, (h a b q).2.2⟩
  show (if a = y ∧ dp ≤ b ∧ b < dp + n then N.2.1 x (sp + (b - dp)) else N.2.1 a b) = M.2.1 a b
  rw [if_neg (fun e => by rw [e.1, hp b e.2.1 e.2.2] at q; cases q)]
  exact (h a b q).2.1
theorem sI_v (M : Mm) (k j : Nat) (v : Int32) (a b : Nat) : (sI M k j v).1 a b = if a = k ∧ b = j then v else M.1 a b := rfl
theorem sJ_v (M : Mm) (k j : Nat) (v : Int64) (a b : Nat) : (sJ M k j v).2.1 a b = if a = k ∧ b = j then v else M.2.1 a b := rfl
theorem sR_v (M : Mm) (k j v : Nat) (a b : Nat) : (sR M k j v).2.2 a b = if a = k ∧ b = j then v else M.2.2 a b := rfl
theorem go_inE {d : Nat} {R : RT} {Q : Nat → Mm → Prop} {tx : Tx} {g pc : Nat} {L : Lo} {st : List Value} {M : Mm} (h : blk (SC d) (ST d) R (hdE Q) tx (Wp (SC d) (ST d) R (hdE Q) tx) g pc L st M) : Wp (SC d) (ST d) R (hdE Q) tx g pc L st M := Wp_in (sem_mono d).1 (sem_mono d).2 (fun _ _ _ _ _ _ _ q => q) h
theorem sT {d k : Nat} {as : List Value} {M : Mm} {Q : Nat → Mm → Prop} (hk : k < 234) (h127 : k ≠ 127) (ho : owOf k = 11) (ha : aOK as (mlOf k) = true) (h : Wp (SC d) (ST d) (RE Q) (hdE Q) (txOf k) 1 0 (entL as (mlOf k)) [] M) : ST (d + 1) k as M Q := ⟨hk, h127, ho, ha, h⟩
theorem useT {d k : Nat} {as : List Value} {M : Mm} {Q Q' : Nat → Mm → Prop} (h : ST d k as M Q) (hq : ∀ E N, Q E N → Q' E N) : ST d k as M Q' := (sem_mono d).2 _ _ _ _ _ hq h
