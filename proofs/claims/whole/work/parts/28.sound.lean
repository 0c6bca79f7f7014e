/-! SOUNDNESS: what the small machine asks, the machine does. -/
def rz (ad : Nat → Nat) : Value → Value
  | .ref k => .ref (ad k)
  | v => v
theorem ofInt_nat (n : Nat) : Int32.ofInt (n : Int) = nI n := by
  show Int32.ofInt (n : Int) = Int32.ofNat n
  exact Int32.ofInt_eq_ofNat
theorem b8 : ∀ n : Nat, n < 128 → (Int8.ofInt (n : Int)).toInt32 = nI n := by decide +kernel
theorem b16 {n : Nat} (h : n < 32768) : (Int16.ofInt (n : Int)).toInt32 = nI n := by
  apply Int32.toInt_inj.mp
  rw [Int16.toInt_toInt32, Int16.toInt_ofInt, nI_toInt (by omega)]
  have e : (Int16.size : Int) = 65536 := rfl
  exact Int.bmod_eq_of_le (by omega) (by omega)
theorem neg_nat (n : Nat) : Int32.ofInt (-(n : Int)) = -(nI n) := by
  rw [Int32.ofInt_neg, ofInt_nat]
theorem l_nat (n : Nat) : Int64.ofInt (n : Int) = lN n := Int64.ofInt_eq_ofNat
theorem l_neg (n : Nat) : Int64.ofInt (-(n : Int)) = -(lN n) := by
  rw [Int64.ofInt_neg, l_nat]
theorem beqN {a b : Nat} (h : Nat.beq a b = true) : a = b := Nat.eq_of_beq_eq_true h
section SN
variable {p : Program} {l : Launch} {e : Env} {R : Room} {s : State} {m : MethodId} {args : Array Value} {below : List Frame} {meth : Method} {c : Code} {H : Heap} {locs : List Loc} {cells slots : Nat} {Q : State → Prop}
variable {cc : ByteArray} {pc : Nat} {ls : Array Slot} {ad : Nat → Nat}
set_option maxHeartbeats 4000000 in
/-- numbers but constants -/
theorem sndA (hx : p.tables.exec = Jvm.exec) (hb : c.code = cc) {i : Instr} {st : List Value} {k : List Value → Prop} (hd : decode cc pc = .ok (i, 1)) (h : exN i st k)
    (hi : (∀ n, i ≠ .ldc n) ∧ (∀ n, i ≠ .ldc_w n) ∧ (∀ n, i ≠ .ldc2_w n) ∧ (∀ n, i ≠ .fstore n) ∧ (∀ n, i ≠ .new n))
    (kk : ∀ st, k st → W p l e R s m args below meth c H locs cells slots Q (F0 m (pc + 1) ls (st.map (rz ad)))) : W p l e R s m args below meth c H locs cells slots Q (F0 m pc ls (st.map (rz ad))) := by
  unfold exN at h
  split at h
  · split at h <;> first | exact h.elim | exact lv_iadd hx hb hd (kk _ h)
  · split at h <;> first | exact h.elim | exact lv_isub hx hb hd (kk _ h)
  · split at h <;> first | exact h.elim | exact lv_imul hx hb hd (kk _ h)
  · split at h <;> first | exact h.elim | exact lv_idiv hx hb hd h.1 (kk _ h.2)
  · split at h <;> first | exact h.elim | exact lv_irem hx hb hd h.1 (kk _ h.2)
  · split at h <;> first | exact h.elim | exact lv_ineg hx hb hd (kk _ h)
  · split at h <;> first | exact h.elim | exact lv_iand hx hb hd (kk _ h)
  · split at h <;> first | exact h.elim | exact lv_ior hx hb hd (kk _ h)
  · split at h <;> first | exact h.elim | exact lv_ixor hx hb hd (kk _ h)
  · split at h <;> first | exact h.elim | exact lv_ishl hx hb hd (kk _ h)
  · split at h <;> first | exact h.elim | exact lv_ishr hx hb hd (kk _ h)
  · split at h <;> first | exact h.elim | exact lv_iushr hx hb hd rfl (kk _ h)
  · split at h <;> first | exact h.elim | exact lv_ladd hx hb hd (kk _ h)
  · split at h <;> first | exact h.elim | exact lv_lsub hx hb hd (kk _ h)
  · split at h <;> first | exact h.elim | exact lv_lmul hx hb hd (kk _ h)
  · split at h <;> first | exact h.elim | exact lv_ldiv hx hb hd h.1 (kk _ h.2)
  · split at h <;> first | exact h.elim | exact lv_lrem hx hb hd h.1 (kk _ h.2)
  · split at h <;> first | exact h.elim | exact lv_lneg hx hb hd (kk _ h)
  · split at h <;> first | exact h.elim | exact lv_land hx hb hd (kk _ h)
  · split at h <;> first | exact h.elim | exact lv_lor hx hb hd (kk _ h)
  · split at h <;> first | exact h.elim | exact lv_lxor hx hb hd (kk _ h)
  · split at h <;> first | exact h.elim | exact lv_lshl hx hb hd rfl (kk _ h)
  · split at h <;> first | exact h.elim | exact lv_lushr hx hb hd rfl (kk _ h)
  · split at h <;> first | exact h.elim | exact W.lcmp hx hb hd (kk _ h)
  · split at h <;> first | exact h.elim | exact lv_i2l hx hb hd rfl (kk _ h)
  · split at h <;> first | exact h.elim | exact lv_l2i hx hb hd rfl (kk _ h)
  · split at h <;> first | exact h.elim | exact lv_i2b hx hb hd rfl (kk _ h)
  · split at h <;> first | exact h.elim | exact lv_dup hx hb hd rfl (kk _ h)
  · split at h <;> first | exact h.elim | exact lv_dup2_2 hx hb hd rfl (kk _ h) | exact lv_dup2_11 hx hb hd rfl rfl (kk _ h)
  · split at h <;> first | exact h.elim | exact lv_pop hx hb hd rfl (kk _ h)
  · exact absurd rfl (hi.1 _)
  · exact absurd rfl (hi.2.1 _)
  · exact absurd rfl (hi.2.2.1 _)
  · exact absurd rfl (hi.2.2.2.1 _)
  · exact absurd rfl (hi.2.2.2.2 _)
  · exact h.elim
end SN
