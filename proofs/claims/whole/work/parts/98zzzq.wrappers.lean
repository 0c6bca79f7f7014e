/-! The law's wrappers. -/
theorem go_inW {d k : Nat} {R : RT} {Q : List Value → Mm → Prop} {tx : Tx} {g pc : Nat} {L : Lo} {st : List Value} {M : Mm} (h : blk (SC d) (ST d) R (hdW k Q) tx (Wp (SC d) (ST d) R (hdW k Q) tx) g pc L st M) : Wp (SC d) (ST d) R (hdW k Q) tx g pc L st M := Wp_in (sem_mono d).1 (sem_mono d).2 (fun _ _ _ _ _ _ _ q => q) h
theorem sW {d k : Nat} {as : List Value} {M : Mm} {Q : List Value → Mm → Prop} (hk : 234 ≤ k) (hk2 : k < 264) (ha : aOK as (mlOf k) = true) (h : Wp (SC d) (ST d) (RP Q) (hdW k Q) (txOf k) 1 0 (entL as (mlOf k)) [] M) : SC (d + 1) k as M Q := by
  refine Or.inr ⟨hk2, ha, ?_⟩
  have hd0 : hdC k Q = hdW k Q := by
    unfold hdC
    rw [show Nat.blt k 234 = false by
      cases hb : Nat.blt k 234 with
      | true => have := Nat.blt_eq.mp hb; omega
      | false => rfl]
    rfl
  have hg : gOf k = 1 := by
    unfold gOf
    rw [show Nat.ble 234 k = true from Nat.ble_eq.mpr hk]
    rfl
  rw [hd0, hg]
  exact h
section WR
variable {d : Nat} {M : Mm}
theorem c234 {a b : Int32} {Q : List Value → Mm → Prop} (h : SC d 81 [.ref 704, .int a, .int b] M (fun vs N => vs = [] ∧ Q [.int (nI 0)] N)) : SC (d + 1) 234 [.ref 704, .int a, .int b] M Q := by
  refine sW (by decide) (by decide) rfl (go_inW (e234_0 (Or.inl (useC h fun vs N q => ?_))))
  obtain ⟨rfl, q⟩ := q
  exact e234_6 (go_inW (e234_12 ⟨rfl, q⟩))
theorem t234 {a b : Int32} {Q : List Value → Mm → Prop} (h : ST d 81 [.ref 704, .int a, .int b] M (fun E N => ∃ v, hdc 234 E = some v ∧ Q [.int (nI v)] N)) : SC (d + 1) 234 [.ref 704, .int a, .int b] M Q := by
  refine sW (by decide) (by decide) rfl (go_inW (e234_0 (Or.inr ?_)))
  show ST _ 81 _ _ _
  refine useT h fun E N q => ?_
  obtain ⟨v, hv, q⟩ := q
  show (match hdc 234 E with
    | some v => Q [.int (nI v)] N
    | none => False)
  rw [hv]
  exact q
theorem c235 {a b c e : Int32} {Q : List Value → Mm → Prop} (h : SC d 82 [.ref 704, .int a, .int b, .int c, .int e] M (fun vs N => vs = [] ∧ Q [.int (nI 0)] N)) : SC (d + 1) 235 [.ref 704, .int a, .int b, .int c, .int e] M Q := by
  refine sW (by decide) (by decide) rfl (go_inW (e235_0 (Or.inl (useC h fun vs N q => ?_))))
  obtain ⟨rfl, q⟩ := q
  exact e235_9 (go_inW (e235_16 ⟨rfl, q⟩))
theorem t235 {a b c e : Int32} {Q : List Value → Mm → Prop} (h : ST d 82 [.ref 704, .int a, .int b, .int c, .int e] M (fun E N => ∃ v, hdc 235 E = some v ∧ Q [.int (nI v)] N)) : SC (d + 1) 235 [.ref 704, .int a, .int b, .int c, .int e] M Q := by
  refine sW (by decide) (by decide) rfl (go_inW (e235_0 (Or.inr ?_)))
  show ST _ 82 _ _ _
  refine useT h fun E N q => ?_
  obtain ⟨v, hv, q⟩ := q
  show (match hdc 235 E with
    | some v => Q [.int (nI v)] N
    | none => False)
  rw [hv]
  exact q
theorem c236 {a b : Int32} {Q : List Value → Mm → Prop} (h : SC d 83 [.ref 704, .int a, .int b] M (fun vs N => vs = [] ∧ Q [.int (nI 0)] N)) : SC (d + 1) 236 [.ref 704, .int a, .int b] M Q := by
  refine sW (by decide) (by decide) rfl (go_inW (e236_0 (Or.inl (useC h fun vs N q => ?_))))
  obtain ⟨rfl, q⟩ := q
  exact e236_6 (go_inW (e236_12 ⟨rfl, q⟩))
theorem t236 {a b : Int32} {Q : List Value → Mm → Prop} (h : ST d 83 [.ref 704, .int a, .int b] M (fun E N => ∃ v, hdc 236 E = some v ∧ Q [.int (nI v)] N)) : SC (d + 1) 236 [.ref 704, .int a, .int b] M Q := by
  refine sW (by decide) (by decide) rfl (go_inW (e236_0 (Or.inr ?_)))
  show ST _ 83 _ _ _
  refine useT h fun E N q => ?_
  obtain ⟨v, hv, q⟩ := q
  show (match hdc 236 E with
    | some v => Q [.int (nI v)] N
    | none => False)
  rw [hv]
  exact q
theorem c237 {a b c e : Int32} {Q : List Value → Mm → Prop} (h : SC d 84 [.ref 704, .int a, .int b, .int c, .int e] M (fun vs N => ∃ y, vs = [.int y] ∧ Q [.int (nI 0)] (sJ N 70000 0 y.toInt64))) : SC (d + 1) 237 [.ref 704, .int a, .int b, .int c, .int e, .ref 70000] M Q := by
  refine sW (by decide) (by decide) rfl (go_inW (e237_0 (Or.inl (useC h fun vs N q => ?_))))
  obtain ⟨y, rfl, q⟩ := q
  exact e237_12 ⟨nI_in2 (by decide) (by decide), go_inW (e237_25 ⟨rfl, q⟩)⟩
theorem t237 {a b c e : Int32} {Q : List Value → Mm → Prop} (h : ST d 84 [.ref 704, .int a, .int b, .int c, .int e] M (fun E N => ∃ v, hdc 237 E = some v ∧ Q [.int (nI v)] N)) : SC (d + 1) 237 [.ref 704, .int a, .int b, .int c, .int e, .ref 70000] M Q := by
  refine sW (by decide) (by decide) rfl (go_inW (e237_0 (Or.inr ?_)))
  show ST _ 84 _ _ _
  refine useT h fun E N q => ?_
  obtain ⟨v, hv, q⟩ := q
  show (match hdc 237 E with
    | some v => Q [.int (nI v)] N
    | none => False)
  rw [hv]
  exact q
theorem c238 {a b c e f : Int32} {Q : List Value → Mm → Prop} (h : SC d 85 [.ref 704, .int a, .int b, .int c, .int e, .int f] M (fun vs N => ∃ y, vs = [.int y] ∧ Q [.int (nI 0)] (sJ N 70000 0 y.toInt64))) : SC (d + 1) 238 [.ref 704, .int a, .int b, .int c, .int e, .int f, .ref 70000] M Q := by
  refine sW (by decide) (by decide) rfl (go_inW (e238_0 (Or.inl (useC h fun vs N q => ?_))))
  obtain ⟨y, rfl, q⟩ := q
  exact e238_14 ⟨nI_in2 (by decide) (by decide), go_inW (e238_27 ⟨rfl, q⟩)⟩
theorem t238 {a b c e f : Int32} {Q : List Value → Mm → Prop} (h : ST d 85 [.ref 704, .int a, .int b, .int c, .int e, .int f] M (fun E N => ∃ v, hdc 238 E = some v ∧ Q [.int (nI v)] N)) : SC (d + 1) 238 [.ref 704, .int a, .int b, .int c, .int e, .int f, .ref 70000] M Q := by
  refine sW (by decide) (by decide) rfl (go_inW (e238_0 (Or.inr ?_)))
  show ST _ 85 _ _ _
  refine useT h fun E N q => ?_
  obtain ⟨v, hv, q⟩ := q
  show (match hdc 238 E with
    | some v => Q [.int (nI v)] N
    | none => False)
  rw [hv]
  exact q
theorem c239 {a : Int32} {Q : List Value → Mm → Prop} (h : SC d 86 [.ref 704, .int a] M (fun vs N => ∃ b : Bool, vs = [.int (nI (cond b 1 0))] ∧ Q [.int (nI 0)] (sJ N 70000 0 (lN (cond b 1 0))))) : SC (d + 1) 239 [.ref 704, .int a, .ref 70000] M Q := by
  refine sW (by decide) (by decide) rfl (go_inW (e239_0 (Or.inl (useC h fun vs N q => ?_))))
  obtain ⟨b, rfl, q⟩ := q
  cases b with
  | false => exact e239_7 ⟨fun _ => go_inW (e239_14 (go_inW (e239_15 ⟨nI_in2 (by decide) (by decide), go_inW (e239_22 ⟨rfl, q⟩)⟩))), fun z => absurd rfl z⟩
  | true => exact e239_7 ⟨fun z => absurd z (by decide), fun _ => go_inW (e239_15 ⟨nI_in2 (by decide) (by decide), go_inW (e239_22 ⟨rfl, q⟩)⟩)⟩
theorem t239 {a : Int32} {Q : List Value → Mm → Prop} (h : ST d 86 [.ref 704, .int a] M (fun E N => ∃ v, hdc 239 E = some v ∧ Q [.int (nI v)] N)) : SC (d + 1) 239 [.ref 704, .int a, .ref 70000] M Q := by
  refine sW (by decide) (by decide) rfl (go_inW (e239_0 (Or.inr ?_)))
  show ST _ 86 _ _ _
  refine useT h fun E N q => ?_
  obtain ⟨v, hv, q⟩ := q
  show (match hdc 239 E with
    | some v => Q [.int (nI v)] N
    | none => False)
  rw [hv]
  exact q
theorem c240 {Q : List Value → Mm → Prop} (h : SC d 87 [.ref 704] M (fun vs N => ∃ y, vs = [.int y] ∧ Q [.int (nI 0)] (sJ N 70000 0 y.toInt64))) : SC (d + 1) 240 [.ref 704, .ref 70000] M Q := by
  refine sW (by decide) (by decide) rfl (go_inW (e240_0 (Or.inl (useC h fun vs N q => ?_))))
  obtain ⟨y, rfl, q⟩ := q
  exact e240_6 ⟨nI_in2 (by decide) (by decide), go_inW (e240_17 ⟨rfl, q⟩)⟩
theorem t240 {Q : List Value → Mm → Prop} (h : ST d 87 [.ref 704] M (fun E N => ∃ v, hdc 240 E = some v ∧ Q [.int (nI v)] N)) : SC (d + 1) 240 [.ref 704, .ref 70000] M Q := by
  refine sW (by decide) (by decide) rfl (go_inW (e240_0 (Or.inr ?_)))
  show ST _ 87 _ _ _
  refine useT h fun E N q => ?_
  obtain ⟨v, hv, q⟩ := q
  show (match hdc 240 E with
    | some v => Q [.int (nI v)] N
    | none => False)
  rw [hv]
  exact q
theorem c241 {a b : Int32} {Q : List Value → Mm → Prop} (h : SC d 89 [.ref 704, .int a, .int b] M (fun vs N => ∃ b : Bool, vs = [.int (nI (cond b 1 0))] ∧ Q [.int (nI 0)] (sJ N 70000 0 (lN (cond b 1 0))))) : SC (d + 1) 241 [.ref 704, .int a, .int b, .ref 70000] M Q := by
  refine sW (by decide) (by decide) rfl (go_inW (e241_0 (Or.inl (useC h fun vs N q => ?_))))
  obtain ⟨b, rfl, q⟩ := q
  cases b with
  | false => exact e241_8 ⟨fun _ => go_inW (e241_15 (go_inW (e241_16 ⟨nI_in2 (by decide) (by decide), go_inW (e241_24 ⟨rfl, q⟩)⟩))), fun z => absurd rfl z⟩
  | true => exact e241_8 ⟨fun z => absurd z (by decide), fun _ => go_inW (e241_16 ⟨nI_in2 (by decide) (by decide), go_inW (e241_24 ⟨rfl, q⟩)⟩)⟩
theorem t241 {a b : Int32} {Q : List Value → Mm → Prop} (h : ST d 89 [.ref 704, .int a, .int b] M (fun E N => ∃ v, hdc 241 E = some v ∧ Q [.int (nI v)] N)) : SC (d + 1) 241 [.ref 704, .int a, .int b, .ref 70000] M Q := by
  refine sW (by decide) (by decide) rfl (go_inW (e241_0 (Or.inr ?_)))
  show ST _ 89 _ _ _
  refine useT h fun E N q => ?_
  obtain ⟨v, hv, q⟩ := q
  show (match hdc 241 E with
    | some v => Q [.int (nI v)] N
    | none => False)
  rw [hv]
  exact q
theorem c242 {a b c e : Int32} {Q : List Value → Mm → Prop} (h : SC d 96 [.ref 704, .int a, .int b, .int c, .int e] M (fun vs N => ∃ y, vs = [.int y] ∧ Q [.int (nI 0)] (sJ N 70000 0 y.toInt64))) : SC (d + 1) 242 [.ref 704, .int a, .int b, .int c, .int e, .ref 70000] M Q := by
  refine sW (by decide) (by decide) rfl (go_inW (e242_0 (Or.inl (useC h fun vs N q => ?_))))
  obtain ⟨y, rfl, q⟩ := q
  exact e242_12 ⟨nI_in2 (by decide) (by decide), go_inW (e242_21 ⟨rfl, q⟩)⟩
theorem t242 {a b c e : Int32} {Q : List Value → Mm → Prop} (h : ST d 96 [.ref 704, .int a, .int b, .int c, .int e] M (fun E N => ∃ v, hdc 242 E = some v ∧ Q [.int (nI v)] N)) : SC (d + 1) 242 [.ref 704, .int a, .int b, .int c, .int e, .ref 70000] M Q := by
  refine sW (by decide) (by decide) rfl (go_inW (e242_0 (Or.inr ?_)))
  show ST _ 96 _ _ _
  refine useT h fun E N q => ?_
  obtain ⟨v, hv, q⟩ := q
  show (match hdc 242 E with
    | some v => Q [.int (nI v)] N
    | none => False)
  rw [hv]
  exact q
theorem c243 {a b c : Int32} {Q : List Value → Mm → Prop} (h : SC d 97 [.ref 704, .int a, .int b, .int c] M (fun vs N => ∃ y, vs = [.int y] ∧ Q [.int (nI 0)] (sJ N 70000 0 y.toInt64))) : SC (d + 1) 243 [.ref 704, .int a, .int b, .int c, .ref 70000] M Q := by
  refine sW (by decide) (by decide) rfl (go_inW (e243_0 (Or.inl (useC h fun vs N q => ?_))))
  obtain ⟨y, rfl, q⟩ := q
  exact e243_10 ⟨nI_in2 (by decide) (by decide), go_inW (e243_19 ⟨rfl, q⟩)⟩
theorem t243 {a b c : Int32} {Q : List Value → Mm → Prop} (h : ST d 97 [.ref 704, .int a, .int b, .int c] M (fun E N => ∃ v, hdc 243 E = some v ∧ Q [.int (nI v)] N)) : SC (d + 1) 243 [.ref 704, .int a, .int b, .int c, .ref 70000] M Q := by
  refine sW (by decide) (by decide) rfl (go_inW (e243_0 (Or.inr ?_)))
  show ST _ 97 _ _ _
  refine useT h fun E N q => ?_
  obtain ⟨v, hv, q⟩ := q
  show (match hdc 243 E with
    | some v => Q [.int (nI v)] N
    | none => False)
  rw [hv]
  exact q
theorem c244 {a b c : Int32} {Q : List Value → Mm → Prop} (h : SC d 98 [.ref 704, .int a, .int b, .int c] M (fun vs N => ∃ y, vs = [.int y] ∧ Q [.int (nI 0)] (sJ N 70000 0 y.toInt64))) : SC (d + 1) 244 [.ref 704, .int a, .int b, .int c, .ref 70000] M Q := by
  refine sW (by decide) (by decide) rfl (go_inW (e244_0 (Or.inl (useC h fun vs N q => ?_))))
  obtain ⟨y, rfl, q⟩ := q
  exact e244_10 ⟨nI_in2 (by decide) (by decide), go_inW (e244_19 ⟨rfl, q⟩)⟩
theorem t244 {a b c : Int32} {Q : List Value → Mm → Prop} (h : ST d 98 [.ref 704, .int a, .int b, .int c] M (fun E N => ∃ v, hdc 244 E = some v ∧ Q [.int (nI v)] N)) : SC (d + 1) 244 [.ref 704, .int a, .int b, .int c, .ref 70000] M Q := by
  refine sW (by decide) (by decide) rfl (go_inW (e244_0 (Or.inr ?_)))
  show ST _ 98 _ _ _
  refine useT h fun E N q => ?_
  obtain ⟨v, hv, q⟩ := q
  show (match hdc 244 E with
    | some v => Q [.int (nI v)] N
    | none => False)
  rw [hv]
  exact q
theorem c245 {a b c e : Int32} {Q : List Value → Mm → Prop} (h : SC d 99 [.ref 704, .int a, .int b, .int c, .int e] M (fun vs N => ∃ y, vs = [.long y] ∧ Q [.int (nI 0)] (sJ N 70000 0 y))) : SC (d + 1) 245 [.ref 704, .int a, .int b, .int c, .int e, .ref 70000] M Q := by
  refine sW (by decide) (by decide) rfl (go_inW (e245_0 (Or.inl (useC h fun vs N q => ?_))))
  obtain ⟨y, rfl, q⟩ := q
  exact e245_12 ⟨nI_in2 (by decide) (by decide), go_inW (e245_20 ⟨rfl, q⟩)⟩
theorem t245 {a b c e : Int32} {Q : List Value → Mm → Prop} (h : ST d 99 [.ref 704, .int a, .int b, .int c, .int e] M (fun E N => ∃ v, hdc 245 E = some v ∧ Q [.int (nI v)] N)) : SC (d + 1) 245 [.ref 704, .int a, .int b, .int c, .int e, .ref 70000] M Q := by
  refine sW (by decide) (by decide) rfl (go_inW (e245_0 (Or.inr ?_)))
  show ST _ 99 _ _ _
  refine useT h fun E N q => ?_
  obtain ⟨v, hv, q⟩ := q
  show (match hdc 245 E with
    | some v => Q [.int (nI v)] N
    | none => False)
  rw [hv]
  exact q
theorem c246 {a b : Int32} {Q : List Value → Mm → Prop} (h : SC d 103 [.ref 704, .int a, .int b] M (fun vs N => ∃ y, vs = [.int y] ∧ Q [.int (nI 0)] (sJ N 70000 0 y.toInt64))) : SC (d + 1) 246 [.ref 704, .int a, .int b, .ref 70000] M Q := by
  refine sW (by decide) (by decide) rfl (go_inW (e246_0 (Or.inl (useC h fun vs N q => ?_))))
  obtain ⟨y, rfl, q⟩ := q
  exact e246_8 ⟨nI_in2 (by decide) (by decide), go_inW (e246_17 ⟨rfl, q⟩)⟩
theorem t246 {a b : Int32} {Q : List Value → Mm → Prop} (h : ST d 103 [.ref 704, .int a, .int b] M (fun E N => ∃ v, hdc 246 E = some v ∧ Q [.int (nI v)] N)) : SC (d + 1) 246 [.ref 704, .int a, .int b, .ref 70000] M Q := by
  refine sW (by decide) (by decide) rfl (go_inW (e246_0 (Or.inr ?_)))
  show ST _ 103 _ _ _
  refine useT h fun E N q => ?_
  obtain ⟨v, hv, q⟩ := q
  show (match hdc 246 E with
    | some v => Q [.int (nI v)] N
    | none => False)
  rw [hv]
  exact q
theorem c247 {a b : Int32} {Q : List Value → Mm → Prop} (h : SC d 105 [.ref 704, .int a, .int b] M (fun vs N => ∃ y, vs = [.int y] ∧ Q [.int (nI 0)] (sJ N 70000 0 y.toInt64))) : SC (d + 1) 247 [.ref 704, .int a, .int b, .ref 70000] M Q := by
  refine sW (by decide) (by decide) rfl (go_inW (e247_0 (Or.inl (useC h fun vs N q => ?_))))
  obtain ⟨y, rfl, q⟩ := q
  exact e247_8 ⟨nI_in2 (by decide) (by decide), go_inW (e247_17 ⟨rfl, q⟩)⟩
theorem t247 {a b : Int32} {Q : List Value → Mm → Prop} (h : ST d 105 [.ref 704, .int a, .int b] M (fun E N => ∃ v, hdc 247 E = some v ∧ Q [.int (nI v)] N)) : SC (d + 1) 247 [.ref 704, .int a, .int b, .ref 70000] M Q := by
  refine sW (by decide) (by decide) rfl (go_inW (e247_0 (Or.inr ?_)))
  show ST _ 105 _ _ _
  refine useT h fun E N q => ?_
  obtain ⟨v, hv, q⟩ := q
  show (match hdc 247 E with
    | some v => Q [.int (nI v)] N
    | none => False)
  rw [hv]
  exact q
theorem c248 {a b : Int32} {Q : List Value → Mm → Prop} (h : SC d 106 [.ref 704, .int a, .int b] M (fun vs N => ∃ y, vs = [.long y] ∧ Q [.int (nI 0)] (sJ N 70000 0 y))) : SC (d + 1) 248 [.ref 704, .int a, .int b, .ref 70000] M Q := by
  refine sW (by decide) (by decide) rfl (go_inW (e248_0 (Or.inl (useC h fun vs N q => ?_))))
  obtain ⟨y, rfl, q⟩ := q
  exact e248_8 ⟨nI_in2 (by decide) (by decide), go_inW (e248_16 ⟨rfl, q⟩)⟩
theorem t248 {a b : Int32} {Q : List Value → Mm → Prop} (h : ST d 106 [.ref 704, .int a, .int b] M (fun E N => ∃ v, hdc 248 E = some v ∧ Q [.int (nI v)] N)) : SC (d + 1) 248 [.ref 704, .int a, .int b, .ref 70000] M Q := by
  refine sW (by decide) (by decide) rfl (go_inW (e248_0 (Or.inr ?_)))
  show ST _ 106 _ _ _
  refine useT h fun E N q => ?_
  obtain ⟨v, hv, q⟩ := q
  show (match hdc 248 E with
    | some v => Q [.int (nI v)] N
    | none => False)
  rw [hv]
  exact q
theorem c249 {a : Int32} {Q : List Value → Mm → Prop} (h : SC d 107 [.ref 704, .int a] M (fun vs N => ∃ y, vs = [.long y] ∧ Q [.int (nI 0)] (sJ N 70000 0 y))) : SC (d + 1) 249 [.ref 704, .int a, .ref 70000] M Q := by
  refine sW (by decide) (by decide) rfl (go_inW (e249_0 (Or.inl (useC h fun vs N q => ?_))))
  obtain ⟨y, rfl, q⟩ := q
  exact e249_7 ⟨nI_in2 (by decide) (by decide), go_inW (e249_14 ⟨rfl, q⟩)⟩
theorem t249 {a : Int32} {Q : List Value → Mm → Prop} (h : ST d 107 [.ref 704, .int a] M (fun E N => ∃ v, hdc 249 E = some v ∧ Q [.int (nI v)] N)) : SC (d + 1) 249 [.ref 704, .int a, .ref 70000] M Q := by
  refine sW (by decide) (by decide) rfl (go_inW (e249_0 (Or.inr ?_)))
  show ST _ 107 _ _ _
  refine useT h fun E N q => ?_
  obtain ⟨v, hv, q⟩ := q
  show (match hdc 249 E with
    | some v => Q [.int (nI v)] N
    | none => False)
  rw [hv]
  exact q
theorem c250 {a b c : Int32} {Q : List Value → Mm → Prop} (h : SC d 108 [.ref 704, .int a, .int b, .int c] M (fun vs N => ∃ y, vs = [.int y] ∧ Q [.int (nI 0)] (sJ N 70000 0 y.toInt64))) : SC (d + 1) 250 [.ref 704, .int a, .int b, .int c, .ref 70000] M Q := by
  refine sW (by decide) (by decide) rfl (go_inW (e250_0 (Or.inl (useC h fun vs N q => ?_))))
  obtain ⟨y, rfl, q⟩ := q
  exact e250_10 ⟨nI_in2 (by decide) (by decide), go_inW (e250_23 ⟨rfl, q⟩)⟩
theorem t250 {a b c : Int32} {Q : List Value → Mm → Prop} (h : ST d 108 [.ref 704, .int a, .int b, .int c] M (fun E N => ∃ v, hdc 250 E = some v ∧ Q [.int (nI v)] N)) : SC (d + 1) 250 [.ref 704, .int a, .int b, .int c, .ref 70000] M Q := by
  refine sW (by decide) (by decide) rfl (go_inW (e250_0 (Or.inr ?_)))
  show ST _ 108 _ _ _
  refine useT h fun E N q => ?_
  obtain ⟨v, hv, q⟩ := q
  show (match hdc 250 E with
    | some v => Q [.int (nI v)] N
    | none => False)
  rw [hv]
  exact q
theorem c251 {a b c : Int32} {Q : List Value → Mm → Prop} (h : SC d 109 [.ref 704, .int a, .int b, .int c] M (fun vs N => ∃ y, vs = [.int y] ∧ Q [.int (nI 0)] (sJ N 70000 0 y.toInt64))) : SC (d + 1) 251 [.ref 704, .int a, .int b, .int c, .ref 70000] M Q := by
  refine sW (by decide) (by decide) rfl (go_inW (e251_0 (Or.inl (useC h fun vs N q => ?_))))
  obtain ⟨y, rfl, q⟩ := q
  exact e251_10 ⟨nI_in2 (by decide) (by decide), go_inW (e251_23 ⟨rfl, q⟩)⟩
theorem t251 {a b c : Int32} {Q : List Value → Mm → Prop} (h : ST d 109 [.ref 704, .int a, .int b, .int c] M (fun E N => ∃ v, hdc 251 E = some v ∧ Q [.int (nI v)] N)) : SC (d + 1) 251 [.ref 704, .int a, .int b, .int c, .ref 70000] M Q := by
  refine sW (by decide) (by decide) rfl (go_inW (e251_0 (Or.inr ?_)))
  show ST _ 109 _ _ _
  refine useT h fun E N q => ?_
  obtain ⟨v, hv, q⟩ := q
  show (match hdc 251 E with
    | some v => Q [.int (nI v)] N
    | none => False)
  rw [hv]
  exact q
theorem c252 {a b c e : Int32} {Q : List Value → Mm → Prop} (h : SC d 110 [.ref 704, .int a, .int b, .int c, .int e] M (fun vs N => ∃ y, vs = [.long y] ∧ Q [.int (nI 0)] (sJ N 70000 0 y))) : SC (d + 1) 252 [.ref 704, .int a, .int b, .int c, .int e, .ref 70000] M Q := by
  refine sW (by decide) (by decide) rfl (go_inW (e252_0 (Or.inl (useC h fun vs N q => ?_))))
  obtain ⟨y, rfl, q⟩ := q
  exact e252_12 ⟨nI_in2 (by decide) (by decide), go_inW (e252_24 ⟨rfl, q⟩)⟩
theorem t252 {a b c e : Int32} {Q : List Value → Mm → Prop} (h : ST d 110 [.ref 704, .int a, .int b, .int c, .int e] M (fun E N => ∃ v, hdc 252 E = some v ∧ Q [.int (nI v)] N)) : SC (d + 1) 252 [.ref 704, .int a, .int b, .int c, .int e, .ref 70000] M Q := by
  refine sW (by decide) (by decide) rfl (go_inW (e252_0 (Or.inr ?_)))
  show ST _ 110 _ _ _
  refine useT h fun E N q => ?_
  obtain ⟨v, hv, q⟩ := q
  show (match hdc 252 E with
    | some v => Q [.int (nI v)] N
    | none => False)
  rw [hv]
  exact q
theorem c253 {a b : Int32} {Q : List Value → Mm → Prop} (h : SC d 111 [.ref 704, .int a, .int b] M (fun vs N => ∃ y, vs = [.int y] ∧ Q [.int (nI 0)] (sJ N 70000 0 y.toInt64))) : SC (d + 1) 253 [.ref 704, .int a, .int b, .ref 70000] M Q := by
  refine sW (by decide) (by decide) rfl (go_inW (e253_0 (Or.inl (useC h fun vs N q => ?_))))
  obtain ⟨y, rfl, q⟩ := q
  exact e253_8 ⟨nI_in2 (by decide) (by decide), go_inW (e253_21 ⟨rfl, q⟩)⟩
theorem t253 {a b : Int32} {Q : List Value → Mm → Prop} (h : ST d 111 [.ref 704, .int a, .int b] M (fun E N => ∃ v, hdc 253 E = some v ∧ Q [.int (nI v)] N)) : SC (d + 1) 253 [.ref 704, .int a, .int b, .ref 70000] M Q := by
  refine sW (by decide) (by decide) rfl (go_inW (e253_0 (Or.inr ?_)))
  show ST _ 111 _ _ _
  refine useT h fun E N q => ?_
  obtain ⟨v, hv, q⟩ := q
  show (match hdc 253 E with
    | some v => Q [.int (nI v)] N
    | none => False)
  rw [hv]
  exact q
theorem c254 {a : Int32} {Q : List Value → Mm → Prop} (h : SC d 101 [.ref 704, .int a] M (fun vs N => ∃ y, vs = [.int y] ∧ Q [.int (nI 0)] (sJ N 70000 0 y.toInt64))) : SC (d + 1) 254 [.ref 704, .int a, .ref 70000] M Q := by
  refine sW (by decide) (by decide) rfl (go_inW (e254_0 (Or.inl (useC h fun vs N q => ?_))))
  obtain ⟨y, rfl, q⟩ := q
  exact e254_7 ⟨nI_in2 (by decide) (by decide), go_inW (e254_15 ⟨rfl, q⟩)⟩
theorem t254 {a : Int32} {Q : List Value → Mm → Prop} (h : ST d 101 [.ref 704, .int a] M (fun E N => ∃ v, hdc 254 E = some v ∧ Q [.int (nI v)] N)) : SC (d + 1) 254 [.ref 704, .int a, .ref 70000] M Q := by
  refine sW (by decide) (by decide) rfl (go_inW (e254_0 (Or.inr ?_)))
  show ST _ 101 _ _ _
  refine useT h fun E N q => ?_
  obtain ⟨v, hv, q⟩ := q
  show (match hdc 254 E with
    | some v => Q [.int (nI v)] N
    | none => False)
  rw [hv]
  exact q
theorem c255 {a b : Int32} {Q : List Value → Mm → Prop} (h : SC d 112 [.ref 704, .int a, .int b] M (fun vs N => ∃ y, vs = [.long y] ∧ Q [.int (nI 0)] (sJ N 70000 0 y))) : SC (d + 1) 255 [.ref 704, .int a, .int b, .ref 70000] M Q := by
  refine sW (by decide) (by decide) rfl (go_inW (e255_0 (Or.inl (useC h fun vs N q => ?_))))
  obtain ⟨y, rfl, q⟩ := q
  exact e255_8 ⟨nI_in2 (by decide) (by decide), go_inW (e255_20 ⟨rfl, q⟩)⟩
theorem t255 {a b : Int32} {Q : List Value → Mm → Prop} (h : ST d 112 [.ref 704, .int a, .int b] M (fun E N => ∃ v, hdc 255 E = some v ∧ Q [.int (nI v)] N)) : SC (d + 1) 255 [.ref 704, .int a, .int b, .ref 70000] M Q := by
  refine sW (by decide) (by decide) rfl (go_inW (e255_0 (Or.inr ?_)))
  show ST _ 112 _ _ _
  refine useT h fun E N q => ?_
  obtain ⟨v, hv, q⟩ := q
  show (match hdc 255 E with
    | some v => Q [.int (nI v)] N
    | none => False)
  rw [hv]
  exact q
theorem c256 {a b c : Int32} {Q : List Value → Mm → Prop} (h : SC d 90 [.ref 704, .int a, .int b, .int c] M (fun vs N => ∃ y, vs = [.int y] ∧ Q [.int (nI 0)] (sJ N 70000 0 y.toInt64))) : SC (d + 1) 256 [.ref 704, .int a, .int b, .int c, .ref 70000] M Q := by
  refine sW (by decide) (by decide) rfl (go_inW (e256_0 (Or.inl (useC h fun vs N q => ?_))))
  obtain ⟨y, rfl, q⟩ := q
  exact e256_10 ⟨nI_in2 (by decide) (by decide), go_inW (e256_23 ⟨rfl, q⟩)⟩
theorem t256 {a b c : Int32} {Q : List Value → Mm → Prop} (h : ST d 90 [.ref 704, .int a, .int b, .int c] M (fun E N => ∃ v, hdc 256 E = some v ∧ Q [.int (nI v)] N)) : SC (d + 1) 256 [.ref 704, .int a, .int b, .int c, .ref 70000] M Q := by
  refine sW (by decide) (by decide) rfl (go_inW (e256_0 (Or.inr ?_)))
  show ST _ 90 _ _ _
  refine useT h fun E N q => ?_
  obtain ⟨v, hv, q⟩ := q
  show (match hdc 256 E with
    | some v => Q [.int (nI v)] N
    | none => False)
  rw [hv]
  exact q
theorem c257 {Q : List Value → Mm → Prop} (h : SC d 91 [.ref 704] M (fun vs N => ∃ y, vs = [.int y] ∧ Q [.int (nI 0)] (sJ N 70000 0 y.toInt64))) : SC (d + 1) 257 [.ref 704, .ref 70000] M Q := by
  refine sW (by decide) (by decide) rfl (go_inW (e257_0 (Or.inl (useC h fun vs N q => ?_))))
  obtain ⟨y, rfl, q⟩ := q
  exact e257_6 ⟨nI_in2 (by decide) (by decide), go_inW (e257_14 ⟨rfl, q⟩)⟩
theorem t257 {Q : List Value → Mm → Prop} (h : ST d 91 [.ref 704] M (fun E N => ∃ v, hdc 257 E = some v ∧ Q [.int (nI v)] N)) : SC (d + 1) 257 [.ref 704, .ref 70000] M Q := by
  refine sW (by decide) (by decide) rfl (go_inW (e257_0 (Or.inr ?_)))
  show ST _ 91 _ _ _
  refine useT h fun E N q => ?_
  obtain ⟨v, hv, q⟩ := q
  show (match hdc 257 E with
    | some v => Q [.int (nI v)] N
    | none => False)
  rw [hv]
  exact q
theorem c258 {a b c e f : Int32} {Q : List Value → Mm → Prop} (h : SC d 116 [.ref 704, .int a, .int b, .int c, .int e, .int f] M (fun vs N => ∃ y, vs = [.int y] ∧ Q [.int (nI 0)] (sJ N 70000 0 y.toInt64))) : SC (d + 1) 258 [.ref 704, .int a, .int b, .int c, .int e, .int f, .ref 70000] M Q := by
  refine sW (by decide) (by decide) rfl (go_inW (e258_0 (Or.inl (useC h fun vs N q => ?_))))
  obtain ⟨y, rfl, q⟩ := q
  exact e258_14 ⟨nI_in2 (by decide) (by decide), go_inW (e258_31 ⟨rfl, q⟩)⟩
theorem t258 {a b c e f : Int32} {Q : List Value → Mm → Prop} (h : ST d 116 [.ref 704, .int a, .int b, .int c, .int e, .int f] M (fun E N => ∃ v, hdc 258 E = some v ∧ Q [.int (nI v)] N)) : SC (d + 1) 258 [.ref 704, .int a, .int b, .int c, .int e, .int f, .ref 70000] M Q := by
  refine sW (by decide) (by decide) rfl (go_inW (e258_0 (Or.inr ?_)))
  show ST _ 116 _ _ _
  refine useT h fun E N q => ?_
  obtain ⟨v, hv, q⟩ := q
  show (match hdc 258 E with
    | some v => Q [.int (nI v)] N
    | none => False)
  rw [hv]
  exact q
theorem c259 {a b c : Int32} {Q : List Value → Mm → Prop} (h : SC d 113 [.ref 704, .int a, .int b, .int c] M (fun vs N => ∃ y, vs = [.long y] ∧ Q [.int (nI 0)] (sJ N 70000 0 y))) : SC (d + 1) 259 [.ref 704, .int a, .int b, .int c, .ref 70000] M Q := by
  refine sW (by decide) (by decide) rfl (go_inW (e259_0 (Or.inl (useC h fun vs N q => ?_))))
  obtain ⟨y, rfl, q⟩ := q
  exact e259_10 ⟨nI_in2 (by decide) (by decide), go_inW (e259_22 ⟨rfl, q⟩)⟩
theorem t259 {a b c : Int32} {Q : List Value → Mm → Prop} (h : ST d 113 [.ref 704, .int a, .int b, .int c] M (fun E N => ∃ v, hdc 259 E = some v ∧ Q [.int (nI v)] N)) : SC (d + 1) 259 [.ref 704, .int a, .int b, .int c, .ref 70000] M Q := by
  refine sW (by decide) (by decide) rfl (go_inW (e259_0 (Or.inr ?_)))
  show ST _ 113 _ _ _
  refine useT h fun E N q => ?_
  obtain ⟨v, hv, q⟩ := q
  show (match hdc 259 E with
    | some v => Q [.int (nI v)] N
    | none => False)
  rw [hv]
  exact q
theorem c260 {a b : Int32} {Q : List Value → Mm → Prop} (h : SC d 114 [.ref 704, .int a, .int b] M (fun vs N => ∃ y, vs = [.int y] ∧ Q [.int (nI 0)] (sJ N 70000 0 y.toInt64))) : SC (d + 1) 260 [.ref 704, .int a, .int b, .ref 70000] M Q := by
  refine sW (by decide) (by decide) rfl (go_inW (e260_0 (Or.inl (useC h fun vs N q => ?_))))
  obtain ⟨y, rfl, q⟩ := q
  exact e260_8 ⟨nI_in2 (by decide) (by decide), go_inW (e260_21 ⟨rfl, q⟩)⟩
theorem t260 {a b : Int32} {Q : List Value → Mm → Prop} (h : ST d 114 [.ref 704, .int a, .int b] M (fun E N => ∃ v, hdc 260 E = some v ∧ Q [.int (nI v)] N)) : SC (d + 1) 260 [.ref 704, .int a, .int b, .ref 70000] M Q := by
  refine sW (by decide) (by decide) rfl (go_inW (e260_0 (Or.inr ?_)))
  show ST _ 114 _ _ _
  refine useT h fun E N q => ?_
  obtain ⟨v, hv, q⟩ := q
  show (match hdc 260 E with
    | some v => Q [.int (nI v)] N
    | none => False)
  rw [hv]
  exact q
theorem c261 {a b : Int32} {Q : List Value → Mm → Prop} (h : SC d 104 [.ref 704, .int a, .int b] M (fun vs N => ∃ y, vs = [.int y] ∧ Q [.int (nI 0)] (sJ N 70000 0 y.toInt64))) : SC (d + 1) 261 [.ref 704, .int a, .int b, .ref 70000] M Q := by
  refine sW (by decide) (by decide) rfl (go_inW (e261_0 (Or.inl (useC h fun vs N q => ?_))))
  obtain ⟨y, rfl, q⟩ := q
  exact e261_8 ⟨nI_in2 (by decide) (by decide), go_inW (e261_17 ⟨rfl, q⟩)⟩
theorem t261 {a b : Int32} {Q : List Value → Mm → Prop} (h : ST d 104 [.ref 704, .int a, .int b] M (fun E N => ∃ v, hdc 261 E = some v ∧ Q [.int (nI v)] N)) : SC (d + 1) 261 [.ref 704, .int a, .int b, .ref 70000] M Q := by
  refine sW (by decide) (by decide) rfl (go_inW (e261_0 (Or.inr ?_)))
  show ST _ 104 _ _ _
  refine useT h fun E N q => ?_
  obtain ⟨v, hv, q⟩ := q
  show (match hdc 261 E with
    | some v => Q [.int (nI v)] N
    | none => False)
  rw [hv]
  exact q
theorem c262 {a : Int32} {Q : List Value → Mm → Prop} (h : SC d 115 [.ref 704, .int a] M (fun vs N => ∃ y, vs = [.int y] ∧ Q [.int (nI 0)] (sJ N 70000 0 y.toInt64))) : SC (d + 1) 262 [.ref 704, .int a, .ref 70000] M Q := by
  refine sW (by decide) (by decide) rfl (go_inW (e262_0 (Or.inl (useC h fun vs N q => ?_))))
  obtain ⟨y, rfl, q⟩ := q
  exact e262_7 ⟨nI_in2 (by decide) (by decide), go_inW (e262_15 ⟨rfl, q⟩)⟩
theorem t262 {a : Int32} {Q : List Value → Mm → Prop} (h : ST d 115 [.ref 704, .int a] M (fun E N => ∃ v, hdc 262 E = some v ∧ Q [.int (nI v)] N)) : SC (d + 1) 262 [.ref 704, .int a, .ref 70000] M Q := by
  refine sW (by decide) (by decide) rfl (go_inW (e262_0 (Or.inr ?_)))
  show ST _ 115 _ _ _
  refine useT h fun E N q => ?_
  obtain ⟨v, hv, q⟩ := q
  show (match hdc 262 E with
    | some v => Q [.int (nI v)] N
    | none => False)
  rw [hv]
  exact q
theorem c263 {a b c : Int32} {Q : List Value → Mm → Prop} (h : SC d 92 [.ref 704, .int a, .int b, .int c] M (fun vs N => vs = [] ∧ Q [.int (nI 0)] N)) : SC (d + 1) 263 [.ref 704, .int a, .int b, .int c] M Q := by
  refine sW (by decide) (by decide) rfl (go_inW (e263_0 (Or.inl (useC h fun vs N q => ?_))))
  obtain ⟨rfl, q⟩ := q
  exact e263_7 (go_inW (e263_14 ⟨rfl, q⟩))
theorem t263 {a b c : Int32} {Q : List Value → Mm → Prop} (h : ST d 92 [.ref 704, .int a, .int b, .int c] M (fun E N => ∃ v, hdc 263 E = some v ∧ Q [.int (nI v)] N)) : SC (d + 1) 263 [.ref 704, .int a, .int b, .int c] M Q := by
  refine sW (by decide) (by decide) rfl (go_inW (e263_0 (Or.inr ?_)))
  show ST _ 92 _ _ _
  refine useT h fun E N q => ?_
  obtain ⟨v, hv, q⟩ := q
  show (match hdc 263 E with
    | some v => Q [.int (nI v)] N
    | none => False)
  rw [hv]
  exact q
end WR
