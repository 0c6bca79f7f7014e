/-! Checks, on both sides. -/
def a7 (k j : Nat) : Bool := Nat.beq k 768 && Nat.beq j 0
section CH
variable {d : Nat} {M : Mm}
theorem k131 {a b c : Int} {Q : List Value → Mm → Prop} (ha : i32 a) (hb : i32 b) (hc : i32 c) (h : b ≤ a ∧ a ≤ c) (k : Q [.int (nI 1)] M) : SC (d + 1) 131 [.int (iz a), .int (iz b), .int (iz c)] M Q :=
  useC (c131 ha hb hc) fun vs N q => by
    obtain ⟨rfl, q⟩ := q
    have q := q.symm
    subst q
    rw [if_pos h]
    exact k
theorem f131 {a b c : Int} {Q : List Value → Mm → Prop} (ha : i32 a) (hb : i32 b) (hc : i32 c) (h : ¬ (b ≤ a ∧ a ≤ c)) (k : Q [.int (nI 0)] M) : SC (d + 1) 131 [.int (iz a), .int (iz b), .int (iz c)] M Q :=
  useC (c131 ha hb hc) fun vs N q => by
    obtain ⟨rfl, q⟩ := q
    have q := q.symm
    subst q
    rw [if_neg h]
    exact k
theorem k131n {a : Int} {b c : Nat} {Q : List Value → Mm → Prop} (ha : i32 a) (hb : b < 2147483648) (hc : c < 2147483648) (h : (b : Int) ≤ a ∧ a ≤ c) (k : Q [.int (nI 1)] M) : SC (d + 1) 131 [.int (iz a), .int (nI b), .int (nI c)] M Q := by
  rw [iz_n b, iz_n c]
  exact k131 ha (i32_n hb) (i32_n hc) h k
theorem f131n {a : Int} {b c : Nat} {Q : List Value → Mm → Prop} (ha : i32 a) (hb : b < 2147483648) (hc : c < 2147483648) (h : ¬ ((b : Int) ≤ a ∧ a ≤ c)) (k : Q [.int (nI 0)] M) : SC (d + 1) 131 [.int (iz a), .int (nI b), .int (nI c)] M Q := by
  rw [iz_n b, iz_n c]
  exact f131 ha (i32_n hb) (i32_n hc) h k
theorem k131m {a : Int} {c : Nat} {Q : List Value → Mm → Prop} (ha : i32 a) (hc : c < 2147483648) (h : -1 ≤ a ∧ a ≤ c) (k : Q [.int (nI 1)] M) : SC (d + 1) 131 [.int (iz a), .int (-(nI 1)), .int (nI c)] M Q := by
  rw [nI_neg1, iz_n c]
  exact k131 ha ⟨by decide, by decide⟩ (i32_n hc) h k
theorem f131m {a : Int} {c : Nat} {Q : List Value → Mm → Prop} (ha : i32 a) (hc : c < 2147483648) (h : ¬ (-1 ≤ a ∧ a ≤ c)) (k : Q [.int (nI 0)] M) : SC (d + 1) 131 [.int (iz a), .int (-(nI 1)), .int (nI c)] M Q := by
  rw [nI_neg1, iz_n c]
  exact f131 ha ⟨by decide, by decide⟩ (i32_n hc) h k
theorem k130 {c : Nat} {Q : List Value → Mm → Prop} (k : Q [.int (nI 0)] M) : SC (d + 1) 130 [.ref 768, .int (nI 0), .int (nI c)] M Q :=
  useC c130f fun vs N q => by
    obtain ⟨rfl, q⟩ := q
    have q := q.symm
    subst q
    exact k
theorem f130 {c : Nat} {Q : List Value → Mm → Prop} (k : Q [.int (nI 1)] (sI M 768 0 (nI c))) : SC (d + 1) 130 [.ref 768, .int (nI 1), .int (nI c)] M Q :=
  useC c130t fun vs N q => by
    obtain ⟨rfl, q⟩ := q
    have q := q.symm
    subst q
    exact k
theorem k120 {a b c : Int} {Q : List Value → Mm → Prop} (ha : i32 a) (hb : i32 b) (hc : i32 c) (h : b ≤ a ∧ a ≤ c) (k : Q [] M) : SC (d + 1) 120 [.int (iz a), .int (iz b), .int (iz c)] M Q :=
  useC (c120 ha hb hc h.1 h.2) fun vs N q => by
    obtain ⟨rfl, q⟩ := q
    have q := q.symm
    subst q
    exact k
theorem k120n {a : Int} {b c : Nat} {Q : List Value → Mm → Prop} (ha : i32 a) (hb : b < 2147483648) (hc : c < 2147483648) (h : (b : Int) ≤ a ∧ a ≤ c) (k : Q [] M) : SC (d + 1) 120 [.int (iz a), .int (nI b), .int (nI c)] M Q := by
  rw [iz_n b, iz_n c]
  exact k120 ha (i32_n hb) (i32_n hc) h k
theorem k120m {a : Int} {c : Nat} {Q : List Value → Mm → Prop} (ha : i32 a) (hc : c < 2147483648) (h : -1 ≤ a ∧ a ≤ c) (k : Q [] M) : SC (d + 1) 120 [.int (iz a), .int (-(nI 1)), .int (nI c)] M Q := by
  rw [nI_neg1, iz_n c]
  exact k120 ha ⟨by decide, by decide⟩ (i32_n hc) h k
theorem f120 {a b c : Int} (ha : i32 a) (hb : i32 b) (hc : i32 c) (h : ¬ (b ≤ a ∧ a ≤ c)) : ST (d + 1) 120 [.int (iz a), .int (iz b), .int (iz c)] M (fun E N => E < 4 ∧ E = 0 ∧ N = M) :=
  useT (t120 ha hb hc (by omega)) fun E N q => ⟨by omega, q⟩
theorem f120n {a : Int} {b c : Nat} (ha : i32 a) (hb : b < 2147483648) (hc : c < 2147483648) (h : ¬ ((b : Int) ≤ a ∧ a ≤ c)) : ST (d + 1) 120 [.int (iz a), .int (nI b), .int (nI c)] M (fun E N => E < 4 ∧ E = 0 ∧ N = M) := by
  rw [iz_n b, iz_n c]
  exact f120 ha (i32_n hb) (i32_n hc) h
theorem f120m {a : Int} {c : Nat} (ha : i32 a) (hc : c < 2147483648) (h : ¬ (-1 ≤ a ∧ a ≤ c)) : ST (d + 1) 120 [.int (iz a), .int (-(nI 1)), .int (nI c)] M (fun E N => E < 4 ∧ E = 0 ∧ N = M) := by
  rw [nI_neg1, iz_n c]
  exact f120 ha ⟨by decide, by decide⟩ (i32_n hc) h
theorem k119 {a b : Int} {Q : List Value → Mm → Prop} (ha : i32 a) (hb : i32 b) (h : 0 ≤ a ∧ a < b) (k : Q [] M) : SC (d + 1) 119 [.int (iz a), .int (iz b)] M Q :=
  useC (c119 ha hb h.1 h.2) fun vs N q => by
    obtain ⟨rfl, q⟩ := q
    have q := q.symm
    subst q
    exact k
theorem f119 {a b : Int} (ha : i32 a) (hb : i32 b) (h : ¬ (0 ≤ a ∧ a < b)) : ST (d + 1) 119 [.int (iz a), .int (iz b)] M (fun E N => E < 4 ∧ E = 1 ∧ N = M) :=
  useT (t119 ha hb (by omega)) fun E N q => ⟨by omega, q⟩
theorem k121 {a b : Nat} {Q : List Value → Mm → Prop} (ha : a < 2147483648) (hb : b < 2147483648) (h : a < b) (k : Q [] M) : SC (d + 1) 121 [.int (nI a), .int (nI b)] M Q := by
  refine sC (by decide) rfl (go_in (e121_0 ⟨fun _ => go_in (e121_16 ⟨rfl, k⟩), fun q => absurd ?_ q⟩))
  exact (nI_ltI ha hb).mpr h
theorem f121 {a b : Nat} (ha : a < 2147483648) (hb : b < 2147483648) (h : ¬ a < b) : ST (d + 1) 121 [.int (nI a), .int (nI b)] M (fun E N => E < 4 ∧ E = 2 ∧ N = M) :=
  useT (Q := fun E N => E = 2 ∧ N = M) (sT (by decide) (by decide) (by decide +kernel) rfl (go_inE (e121_0 ⟨fun q => absurd ((nI_ltI ha hb).mp q) h, fun _ => ⟨by decide, by decide, rfl, rfl⟩⟩))) fun E N q => ⟨by omega, q⟩
theorem k117 {w : Nat → Nat} {ta : Nat → Nat → Nat → Nat} (hT : TR 512 w ta M) (hb : WB w) {a : Int} {Q : List Value → Mm → Prop} (ha : i32 a) (h : 0 ≤ a ∧ a < w 8) (k : Q [] M) : SC (d + 2) 117 [.ref 704, .int (iz a)] M Q :=
  useC (c117 hT hb ha h) fun vs N q => by
    obtain ⟨rfl, q⟩ := q
    have q := q.symm
    subst q
    exact k
theorem f117 {w : Nat → Nat} {ta : Nat → Nat → Nat → Nat} (hT : TR 512 w ta M) (hb : WB w) {a : Int} (ha : i32 a) (h : ¬ (0 ≤ a ∧ a < w 8)) : ST (d + 2) 117 [.ref 704, .int (iz a)] M (fun E N => E < 4 ∧ E = 1 ∧ N = M) :=
  useT (t117 hT hb ha h) fun E N q => ⟨by omega, q⟩
theorem k135 {w : Nat → Nat} (hw : MR w M) {Q : List Value → Mm → Prop} (k : Q [.int (nI (w 8))] M) : SC (d + 1) 135 [.ref 768] M Q :=
  useC (c135 hw) fun vs N q => by
    obtain ⟨rfl, q⟩ := q
    have q := q.symm
    subst q
    exact k
theorem k138 {w : Nat → Nat} (hw : MR w M) (hb : WB w) {a : Int} {Q : List Value → Mm → Prop} (ha : i32 a) (h : 0 ≤ a ∧ a < w 8) (k : Q [.int (nI 0)] M) : SC (d + 2) 138 [.ref 768, .int (iz a)] M Q :=
  useC (c138 hw hb ha) fun vs N q => by
    obtain ⟨rfl, q⟩ := q
    have q := q.symm
    subst q
    rw [if_pos h]
    exact k
theorem f138 {w : Nat → Nat} (hw : MR w M) (hb : WB w) {a : Int} {Q : List Value → Mm → Prop} (ha : i32 a) (h : ¬ (0 ≤ a ∧ a < w 8)) (k : Q [.int (nI 1)] M) : SC (d + 2) 138 [.ref 768, .int (iz a)] M Q :=
  useC (c138 hw hb ha) fun vs N q => by
    obtain ⟨rfl, q⟩ := q
    have q := q.symm
    subst q
    rw [if_neg h]
    exact k
theorem k139 {w : Nat → Nat} (hw : MR w M) (hb : WB w) {a : Int} {Q : List Value → Mm → Prop} (ha : i32 a) (h : 0 ≤ a ∧ a < w 11) (k : Q [.int (nI 0)] M) : SC (d + 2) 139 [.ref 768, .int (iz a)] M Q :=
  useC (c139 hw hb ha) fun vs N q => by
    obtain ⟨rfl, q⟩ := q
    have q := q.symm
    subst q
    rw [if_pos h]
    exact k
theorem f139 {w : Nat → Nat} (hw : MR w M) (hb : WB w) {a : Int} {Q : List Value → Mm → Prop} (ha : i32 a) (h : ¬ (0 ≤ a ∧ a < w 11)) (k : Q [.int (nI 1)] M) : SC (d + 2) 139 [.ref 768, .int (iz a)] M Q :=
  useC (c139 hw hb ha) fun vs N q => by
    obtain ⟨rfl, q⟩ := q
    have q := q.symm
    subst q
    rw [if_neg h]
    exact k
theorem MR.z {w : Nat → Nat} (hw : MR w M) (x : Int32) : MR w (sI M 768 0 x) := fun i hi => by
  rw [sI_v, if_neg (fun q => absurd q.1 (by decide))]
  exact hw i hi
theorem RI.z {w : Nat → Nat} {ta : Nat → Nat → Nat → Nat} (h : RI w ta M) (x : Int32) : RI w ta (sI M 768 0 x) :=
  h.of (P := a7) (Fr.rf.sI rfl) (fun j => rfl) rfl rfl
theorem RI_c {w : Nat → Nat} {ta : Nat → Nat → Nat → Nat} (h : RI w ta M) {i : Nat} (hi : i < 475) (hc : i ≠ 11) {v : Nat} {x : Int32} (hx : x = iz (wz i v)) : RI (up w i v) ta (sI M 50177 i x) := by
  rw [hx]
  exact h.up hi hc v
theorem TI_c {w : Nat → Nat} {ta : Nat → Nat → Nat → Nat} (h : TI w ta M) {i k j : Nat} (hi : i < 475) (hc : i ≠ 8 ∧ i ≠ 9 ∧ i ≠ 11 ∧ i ≠ 12 ∧ i ≠ 13) (hp : pl i = (k, j)) {v : Nat} {x : Int32} (hx : x = iz (wz i v)) : TI (up w i v) ta (sI M k j x) := by
  rw [hx]
  have := h.up hi hc v
  rw [hp] at this
  exact this
end CH
