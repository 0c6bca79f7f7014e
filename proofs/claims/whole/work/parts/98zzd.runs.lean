/-! A run, year by year. -/
def brk (w : Nat → Nat) (yr : Nat) (v : Nat → Nat) : Nat → Nat → Nat
  | 0 => v
  | k + 1 => if w (57 + 3 * k) = yr then V1 (brk w yr v k) (w (58 + 3 * k)) (w (59 + 3 * k)) else brk w yr v k
def rnR (w : Nat → Nat) : Nat → Nat → Nat → Nat
  | 0, r, _ => r
  | k + 1, r, p => if p < w (2 + r) then r else rnR w k (r + 1) (p - w (2 + r))
def sdN (sd : Int32) : Nat → Int32
  | 0 => sd
  | n + 1 => sdN sd n * nI 1103515245 + nI 12345
def b15 (x : Int32) : Nat := x.toBitVec.toNat / 65536 % 32768
def rnN (w : Nat → Nat) (sd : Int32) (tld : Bool) (yr : Nat) : Nat := if tld = true then (if yr < w 13 then w (75 + yr) else 0) else rnR w 3 0 (b15 (sdN sd (yr + 1)) % (w 2 + w 3 + w 4 + w 5))
/-- the state: level, lower level, folk, broken, first dry and first broken (one more; 0 none) -/
def rnv (w : Nat → Nat) (ta : Nat → Nat → Nat → Nat) (s : Nat → Nat) (yr : Nat) : Nat → Nat := brk w yr (waW w ta (s 3) (s 0)) (w 12)
def rnM (w : Nat → Nat) (ta : Nat → Nat → Nat → Nat) (s : Nat → Nat) (yr : Nat) : Bool := anB (fun f => decide (waW w ta 0 (s 0) f < rnv w ta s yr f)) (w 8)
def rnL (w : Nat → Nat) (ta : Nat → Nat → Nat → Nat) (sd : Int32) (tld : Bool) (s : Nat → Nat) (yr : Nat) : Nat := min (w 0) (lowS (yW w (w 10)) (kW w) (rnv w ta s yr) (s 0) + rnN w sd tld yr)
def rnQ (w : Nat → Nat) (ta : Nat → Nat → Nat → Nat) (s : Nat → Nat) (yr : Nat) : Nat := min (w 14) (s 1 + lkd (kW w) (lw (rnv w ta s yr) (s 0 - w (32 + 5 * w 10 + 1)) (s 0) (w 8)))
def rnT (w : Nat → Nat) (ta : Nat → Nat → Nat → Nat) (sd : Int32) (tld : Bool) (s : Nat → Nat) (yr i : Nat) : Nat := if i = 0 then rnL w ta sd tld s yr else if i = 1 then rnQ w ta s yr - min (w 16) (rnQ w ta s yr) else if i = 2 then s 2 + min (w 16) (rnQ w ta s yr) else if i = 3 then (if s 3 = 1 ∨ rnM w ta s yr = true then 1 else 0) else if i = 4 then (if rnL w ta sd tld s yr = 0 ∧ s 4 = 0 then yr + 1 else s 4) else (if s 3 = 1 ∧ s 5 = 0 then yr + 1 else s 5)
def rnS (w : Nat → Nat) (ta : Nat → Nat → Nat → Nat) (l0 : Nat) (sd : Int32) (tld : Bool) : Nat → Nat → Nat
  | 0 => fun i => if i = 0 then l0 else if i = 1 then w 15 else 0
  | n + 1 => rnT w ta sd tld (rnS w ta l0 sd tld n) n
def rnH (w : Nat → Nat) (ta : Nat → Nat → Nat → Nat) (l0 : Nat) (sd : Int32) (tld : Bool) : Nat → Nat → Int
  | 0, _ => 0
  | n + 1, f => rnH w ta l0 sd tld n f + if f < w 8 then gnW w (w 10) (rnv w ta (rnS w ta l0 sd tld n) n) (rnS w ta l0 sd tld n 0) f else 0
def rnA (w : Nat → Nat) (ta : Nat → Nat → Nat → Nat) (l0 n : Nat) (sd : Int32) (tld : Bool) (what : Nat) : Int := if what < 3 then rnH w ta l0 sd tld n what else if what = 3 then (rnS w ta l0 sd tld n 0 : Int) else if what = 4 then (rnS w ta l0 sd tld n 4 : Int) - 1 else if what = 5 then (rnS w ta l0 sd tld n 5 : Int) - 1 else if what = 7 then (rnS w ta l0 sd tld n 2 : Int) else if w 14 = 0 then -1 else (rnS w ta l0 sd tld n 1 : Int)
section RN
variable {w : Nat → Nat} {ta : Nat → Nat → Nat → Nat} {sd : Int32} {tld : Bool}
theorem brk_3 (hb : WB w) {yr : Nat} {v : Nat → Nat} (hv : ∀ f, v f ≤ 3) : ∀ k, k ≤ w 12 → ∀ f, brk w yr v k f ≤ 3
  | 0, _, f => hv f
  | k + 1, hk, f => by
    have h := hb.2.2.2.2.2.2.2.1 k (by omega)
    unfold brk
    split
    · exact V1_le (fun g => brk_3 hb hv k (by omega) g) h.2.2 f
    · exact brk_3 hb hv k (by omega) f
theorem rnv_3 (hb : WB w) (s : Nat → Nat) (yr f : Nat) : rnv w ta s yr f ≤ 3 := brk_3 hb (fun f => wbd_le) (w 12) (Nat.le_refl _) f
theorem rnR_ok : ∀ k r p, r + k = 3 → ∃ q, rnR w k r p = q ∧ q ≤ 3
  | 0, r, p, h => ⟨r, rfl, by omega⟩
  | k + 1, r, p, h => by
    by_cases hp : p < w (2 + r)
    · exact ⟨r, if_pos hp, by omega⟩
    · obtain ⟨q, h1, h2⟩ := rnR_ok k (r + 1) (p - w (2 + r)) (by omega)
      refine ⟨q, ?_, h2⟩
      have e : rnR w (k + 1) r p = if p < w (2 + r) then r else rnR w k (r + 1) (p - w (2 + r)) := rfl
      rw [e, if_neg hp]
      exact h1
theorem rnN_3 (hb : WB w) (yr : Nat) : rnN w sd tld yr ≤ 3 := by
  unfold rnN
  split
  · split
    · exact hb.2.2.2.2.2.2.2.2 yr (by assumption)
    · omega
  · obtain ⟨q, h1, h2⟩ := rnR_ok (w := w) 3 0 (b15 (sdN sd (yr + 1)) % (w 2 + w 3 + w 4 + w 5)) rfl
    rw [h1]
    exact h2
theorem rnS_bd (hb : WB w) {l0 : Nat} (hl : l0 ≤ w 0) : ∀ n, rnS w ta l0 sd tld n 0 ≤ w 0 ∧ rnS w ta l0 sd tld n 1 ≤ 7 ∧ rnS w ta l0 sd tld n 3 ≤ 1 ∧ rnS w ta l0 sd tld n 4 ≤ n ∧ rnS w ta l0 sd tld n 5 ≤ n
  | 0 => by
    have h := hb.2.2.2.2.1
    exact ⟨hl, (show w 15 ≤ 7 by omega), Nat.zero_le _, Nat.le_refl _, Nat.le_refl _⟩
  | n + 1 => by
    obtain ⟨h0, h1, h3, h4, h5⟩ := rnS_bd hb hl n
    have h := hb.2.2.2.2.1
    refine ⟨Nat.min_le_left _ _, ?_, ?_, ?_, ?_⟩
    · show rnQ w ta (rnS w ta l0 sd tld n) n - min (w 16) (rnQ w ta (rnS w ta l0 sd tld n) n) ≤ 7
      have : rnQ w ta (rnS w ta l0 sd tld n) n ≤ w 14 := Nat.min_le_left _ _
      omega
    · show (if rnS w ta l0 sd tld n 3 = 1 ∨ rnM w ta (rnS w ta l0 sd tld n) n = true then 1 else 0) ≤ 1
      split <;> omega
    · show (if rnL w ta sd tld (rnS w ta l0 sd tld n) n = 0 ∧ rnS w ta l0 sd tld n 4 = 0 then n + 1 else rnS w ta l0 sd tld n 4) ≤ n + 1
      split <;> omega
    · show (if rnS w ta l0 sd tld n 3 = 1 ∧ rnS w ta l0 sd tld n 5 = 0 then n + 1 else rnS w ta l0 sd tld n 5) ≤ n + 1
      split <;> omega
theorem rnH_0 {l0 f : Nat} (hf : ¬ f < w 8) : ∀ n, rnH w ta l0 sd tld n f = 0
  | 0 => rfl
  | n + 1 => by
    unfold rnH
    rw [rnH_0 hf n, if_neg hf]
    rfl
end RN
/-! fifteen bits -/
theorem in_u16 (x : Int32) : (x.toUInt32 >>> ((nI 16).toUInt32 &&& Int32.toUInt32 31)).toInt32 &&& nI 32767 = nI (b15 x) := by
  obtain ⟨n, hn, rfl⟩ := wb_of32 x
  refine b_ext fun i hi => ?_
  rw [b_and, b_ushr 16 (by omega)]
  have e : b15 (nI n) = n / 65536 % 32768 := by
    unfold b15
    have h1 : (nI n).toBitVec.toNat = n := by
      show (BitVec.ofNat 32 n).toNat = n
      rw [BitVec.toNat_ofNat, Nat.mod_eq_of_lt hn]
    rw [h1]
  rw [e]
  have hbt : ∀ m i, i < 32 → bt (nI m) i = m.testBit i := fun m i hi => by
    show (BitVec.ofNat 32 m).getLsbD i = _
    rw [BitVec.getLsbD_ofNat, decide_eq_true hi, Bool.true_and]
  rw [hbt _ i hi, hbt _ i hi]
  by_cases h15 : i < 15
  · have e1 : (32767 : Nat).testBit i = true := by
      rw [show (32767 : Nat) = 2 ^ 15 - 1 from rfl, Nat.testBit_two_pow_sub_one, decide_eq_true h15]
    have e2 : (n / 65536 % 32768).testBit i = n.testBit (16 + i) := by
      rw [show (32768 : Nat) = 2 ^ 15 from rfl, Nat.testBit_mod_two_pow, decide_eq_true h15, Bool.true_and, show (65536 : Nat) = 2 ^ 16 from rfl, Nat.testBit_div_two_pow]
      congr 1
      omega
    rw [e1, e2, Bool.and_true, hbt n (16 + i) (by omega)]
  · have e1 : (32767 : Nat).testBit i = false := by
      rw [show (32767 : Nat) = 2 ^ 15 - 1 from rfl, Nat.testBit_two_pow_sub_one, decide_eq_false h15]
    have e2 : (n / 65536 % 32768).testBit i = false := by
      rw [show (32768 : Nat) = 2 ^ 15 from rfl, Nat.testBit_mod_two_pow, decide_eq_false h15, Bool.false_and]
    rw [e1, e2, Bool.and_false]
theorem in_s16 (x : Int32) : (x >>> (nI 16 &&& 31)) &&& nI 32767 = nI (b15 x) := by
  rw [← in_u16]
  refine b_ext fun i hi => ?_
  rw [b_and, b_and, b_ushr 16 (by omega), b_sshr 16 (by omega) x hi]
  by_cases h15 : i < 15
  · rw [if_pos (by omega)]
  · have hbt : bt (nI 32767) i = false := by
      show (BitVec.ofNat 32 32767).getLsbD i = _
      rw [BitVec.getLsbD_ofNat, show (32767 : Nat) = 2 ^ 15 - 1 from rfl, Nat.testBit_two_pow_sub_one, decide_eq_false h15, Bool.and_false]
    rw [hbt, Bool.and_false, Bool.and_false]
theorem b15_lt (x : Int32) : b15 x < 32768 := Nat.mod_lt _ (by decide)
