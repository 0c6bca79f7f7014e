/-! The class's chains: from level to level. -/
theorem aws_congr {y : Nat → Nat} {R R' : Nat → Int} {low : Nat} (h : ∀ j, j ≤ y 0 → R j = R' j) : ∀ r, aws y R low r = aws y R' low r
  | 0 => rfl
  | r + 1 => by
    show aws y R low r + _ = aws y R' low r + _
    rw [aws_congr h r, h _ (Nat.min_le_left _ _)]
/-- parts from level to level -/
def Wm (y : Nat → Nat) (lo : Nat → Nat) (i k : Nat) : Int := (prt y (lo i) k 4 : Int)
theorem sm_one {n m : Nat} (a : Int) (R : Nat → Int) (h : m < n) : sm (fun k => (if m = k then a else 0) * R k) n = a * R m := by
  have h1 := sm_dl (fun k => a * R k) m n
  rw [if_pos h] at h1
  rw [← h1]
  refine sm_congr fun k _ => ?_
  unfold dl
  split <;> grind
theorem aws_sm (y : Nat → Nat) (R : Nat → Int) (low : Nat) : ∀ r, aws y R low r = sm (fun k => (prt y low k r : Int) * R k) (y 0 + 1)
  | 0 => by
    have : sm (fun k => (prt y low k 0 : Int) * R k) (y 0 + 1) = sm (fun k => 0 * R k) (y 0 + 1) := rfl
    rw [this, sm_mul]; simp [aws]
  | r + 1 => by
    show aws y R low r + (y (7 + r) : Int) * R (min (y 0) (low + r)) = _
    rw [aws_sm y R low r, ← sm_one (n := y 0 + 1) (y (7 + r) : Int) R (by omega), ← sm_add]
    refine sm_congr fun k _ => ?_
    show _ = ((prt y low k r + if min (y 0) (low + r) = k then y (7 + r) else 0 : Nat) : Int) * R k
    split <;> push_cast <;> grind
theorem Wm_sm {y : Nat → Nat} {lo : Nat → Nat} {i : Nat} (R : Nat → Int) : sm (fun k => Wm y lo i k * R k) (y 0 + 1) = aws y R (lo i) 4 := (aws_sm y R (lo i) 4).symm
theorem Wm_row {y : Nat → Nat} {k : Int} (hb : YB y k) {lo : Nat → Nat} {i : Nat} : sm (Wm y lo i) (y 0 + 1) = (y 6 : Int) := by
  have h1 := Wm_sm (y := y) (lo := lo) (i := i) (fun _ => 1)
  have h2 : sm (fun k => Wm y lo i k * 1) (y 0 + 1) = sm (Wm y lo i) (y 0 + 1) := sm_congr fun j _ => by omega
  rw [h2] at h1
  rw [h1, hb.2.2.2.2.2]
  simp only [aws, Nat.add_zero, Nat.reduceAdd]
  omega
theorem Wm_ok {y : Nat → Nat} {k : Int} (hb : YB y k) {lo : Nat → Nat} : (∀ i j, i < y 0 + 1 → j < y 0 + 1 → 0 ≤ Wm y lo i j) ∧ ∀ i, i < y 0 + 1 → sm (Wm y lo i) (y 0 + 1) ≤ 4 :=
  ⟨fun i j _ _ => Int.natCast_nonneg _, fun i _ => by rw [Wm_row hb]; have := hb.2.2.2.2.1; omega⟩
/-- the square of worths leans on its diagonal -/
theorem Wm_MM {y : Nat → Nat} {k : Int} (hb : YB y k) {lo : Nat → Nat} {p q : Nat} (hpq : p < q) : MM (AX (pW p (Wm y lo)) ((q : Int) * (y 6 : Int))) (y 0 + 1) ∧ ∀ i, i < y 0 + 1 → (y 6 : Int) * ((q : Int) - p) ≤ sm (AX (pW p (Wm y lo)) ((q : Int) * (y 6 : Int)) i) (y 0 + 1) := by
  have hrow : ∀ i, i < y 0 + 1 → sm (AX (pW p (Wm y lo)) ((q : Int) * (y 6 : Int)) i) (y 0 + 1) = (q : Int) * (y 6 : Int) - p * (y 6 : Int) := by
    intro i hi
    have h1 : sm (AX (pW p (Wm y lo)) ((q : Int) * (y 6 : Int)) i) (y 0 + 1) = -((p : Int) * sm (Wm y lo i) (y 0 + 1)) + (q : Int) * (y 6 : Int) * sm (fun j => dl i j * 1) (y 0 + 1) := by
      rw [← sm_mul, ← sm_mul, ← sm_neg, ← sm_add]
      exact sm_congr fun j _ => by unfold AX pW; grind
    rw [h1, Wm_row hb, sm_dl, if_pos hi]
    omega
  have h6 := hb.2.2.2.1
  refine ⟨⟨fun i j hi hj hij => ?_, fun i hi => ?_⟩, fun i hi => ?_⟩
  · unfold AX pW
    rw [dl_n hij]
    have : (0 : Int) ≤ (p : Int) * Wm y lo i j := Int.mul_nonneg (Int.natCast_nonneg _) (Int.natCast_nonneg _)
    omega
  · rw [hrow i hi, ← Int.sub_mul]
    exact Int.mul_pos (by omega) (by omega)
  · rw [hrow i hi]
    have : (y 6 : Int) * ((q : Int) - p) = (q : Int) * (y 6 : Int) - p * (y 6 : Int) := by grind
    omega
def tT (y lo : Nat → Nat) (C pay : Nat → Int) : Nat → Nat → Int
  | 0, l => pay l
  | k + 1, l => aws y (tT y lo C pay k) (lo l) 4 + C (k + 1) * pay l
theorem tT_tB {y lo : Nat → Nat} {C : Nat → Int} {B : Nat → Nat → Nat → Int} (h : FLP (Wm y lo) (y 0 + 1) C B) (pay : Nat → Int) : ∀ k, k ≤ y 0 + 1 → ∀ l, l < y 0 + 1 → tT y lo C pay k l = tB B (y 0 + 1) pay k l
  | 0, _, l, hl => (tB_0 h pay hl).symm
  | k + 1, hk, l, hl => by
    rw [tB_s h pay (by omega) hl, Wm_sm]
    show aws y (tT y lo C pay k) (lo l) 4 + C (k + 1) * pay l = _
    rw [aws_congr (fun j hj => tT_tB h pay k (by omega) j (by omega))]
theorem hs_congr {T T' : Nat → Nat → Int} {p d : Int} {l : Nat} : ∀ n, (∀ k, k < n → T k l = T' k l) → hs T p d n l = hs T' p d n l
  | 0, _ => rfl
  | n + 1, h => by
    show hs T p d n l * d + p ^ n * T n l = hs T' p d n l * d + p ^ n * T' n l
    rw [hs_congr n (fun k hk => h k (by omega)), h n (by omega)]
def aSh (o k _ : Nat) : Bool := Nat.beq k (1027 + 64 * o) || (Nat.beq k (1028 + 64 * o) || Nat.beq k (1029 + 64 * o))
def aSe (o k j : Nat) : Bool := Nat.beq k o && (Nat.beq j 9 || (Nat.beq j 10 || Nat.beq j 11))
def aSo (o k _ : Nat) : Bool := Nat.beq k (1030 + 64 * o) || (Nat.beq k (1031 + 64 * o) || Nat.beq k (1032 + 64 * o))
/-- a chain's low levels, pays, numbers -/
def LOC (o : Nat) (y lo : Nat → Nat) (M : Mm) : Prop := ∀ l, l < y 0 + 1 → M.1 (1025 + 64 * o) l = nI (lo l)
def PAY (o f : Nat) (y : Nat → Nat) (pay : Nat → Int) (M : Mm) : Prop := ∀ l, l < y 0 + 1 → M.1 (1026 + 64 * o) (f * 8 + l) = iz (pay l)
def COE (o : Nat) (y : Nat → Nat) (C : Nat → Int) (M : Mm) : Prop := ∀ m, m < y 0 + 2 → M.2.1 (1027 + 64 * o) m = lz (C m)
theorem i64_of {z X : Int} (h : bd X z) (hX : X < 9223372036854775808) : i64 z := ⟨by have := h.1; omega, by have := h.2; omega⟩
theorem pw36 : ∀ m, m < 8 → (32 : Int) * 36 ^ m < 9223372036854775808 := by decide +kernel
section CH0
variable {d : Nat} {M : Mm} {y lo : Nat → Nat} {k : Int}
set_option maxHeartbeats 1000000 in
theorem c2_0 (hy : YR y k M) (hb : YB y k) (hlo : LOC 0 y lo M) (hlo7 : ∀ l, lo l ≤ 7) {X : Nat → Nat → Int} (hX : ∀ i j, i < y 0 + 1 → j < y 0 + 1 → M.2.1 1028 (i * 8 + j) = lz (X i j)) {l : Nat} (hl : l < y 0 + 1) : SC (d + 3) 2 [.ref 0, .int (nI l)] M (fun vs N => vs = [] ∧ Fr (fun k j => Nat.beq k 1029 && (Nat.ble (l * 8) j && Nat.blt j (l * 8 + 8))) M N ∧ ∀ j, j < y 0 + 1 → N.2.1 1029 (l * 8 + j) = lz (aws y (fun i => X i j) (lo l) 4)) := by
  have h0 := hb.1.2.1
  have hp := y_part hb
  refine sC (by decide) rfl (go_in (e2_0 ?_))
  have outer : ∀ k' (o3 o4 o5 : Option Value) j N, j + k' = y 0 + 1 → Fr (fun k j => Nat.beq k 1029 && (Nat.ble (l * 8) j && Nat.blt j (l * 8 + 8))) M N → (∀ j', j' < j → N.2.1 1029 (l * 8 + j') = lz (aws y (fun i => X i j') (lo l) 4)) →
      WM (d + 2) 2 (fun vs N => vs = [] ∧ Fr (fun k j => Nat.beq k 1029 && (Nat.ble (l * 8) j && Nat.blt j (l * 8 + 8))) M N ∧ ∀ j, j < y 0 + 1 → N.2.1 1029 (l * 8 + j) = lz (aws y (fun i => X i j) (lo l) 4)) 2 [some (.ref 0), some (.int (nI l)), some (.int (nI j)), o3, o4, o5] [] N := by
    intro k'
    induction k' with
    | zero =>
      intro o3 o4 o5 j N hj hF hd
      have hyN := hy.of hF (fun j _ => rfl) (fun j => rfl)
      exact go_in (e2_2 (br_t (by rw [hyN.1.1]; exact nI_lt (by omega) (by omega)) (go_in (e2_88 ⟨rfl, rfl, hF, fun j' hj' => hd j' (by omega)⟩))))
    | succ k' ih =>
      intro o3 o4 o5 j N hj hF hd
      have hyN := hy.of hF (fun j _ => rfl) (fun j => rfl)
      refine go_in (e2_2 (br_f (by rw [hyN.1.1]; exact nI_nlt (by omega) (by omega)) ?_))
      have inner : ∀ k2 r, r + k2 = 4 → WM (d + 2) 2 (fun vs N => vs = [] ∧ Fr (fun k j => Nat.beq k 1029 && (Nat.ble (l * 8) j && Nat.blt j (l * 8 + 8))) M N ∧ ∀ j, j < y 0 + 1 → N.2.1 1029 (l * 8 + j) = lz (aws y (fun i => X i j) (lo l) 4)) 18 [some (.ref 0), some (.int (nI l)), some (.int (nI j)), some (.long (lz (aws y (fun i => X i j) (lo l) r))), none, some (.int (nI r))] [] N := by
        intro k2
        induction k2 with
        | zero =>
          intro r hr
          have hr : r = 4 := by omega
          subst hr
          refine go_in (e2_18 (br_t (nI_le (Nat.le_refl _) (by decide)) (go_in (e2_70 ?_))))
          rw [nI_mul, nI_add, nI_s, nI_c (by omega)]
          refine ⟨nI_in2 (by omega) (by decide), ih _ _ _ (j + 1) _ (by omega) (hF.sJ ?_) fun j' hj' => ?_⟩
          · rw [show Nat.ble (l * 8) (l * 8 + j) = true from Nat.ble_eq.mpr (by omega), show Nat.blt (l * 8 + j) (l * 8 + 8) = true from Nat.blt_eq.mpr (by omega)]
            rfl
          · rw [sJ_v]
            by_cases e : j' = j
            · subst e; rw [if_pos ⟨rfl, rfl⟩]
            · rw [if_neg (by omega)]; exact hd j' (by omega)
        | succ k2 ih2 =>
          intro r hr
          have hpr := hp r (by omega)
          have hl7 := hlo7 l
          have e1 : N.1 1025 l = nI (lo l) := by rw [(hF 1025 l rfl).1]; exact hlo l hl
          refine go_in (e2_18 (br_f (nI_ge (by omega) (by decide)) ⟨nI_in2 (by omega) (by decide), nI_in2 (by omega) (by decide), ?_⟩))
          rw [nI_c (a := l) (by omega), e1]
          refine useC (c72 hyN hb (show lo l ≤ 100 by omega) (show r ≤ 100 by omega)) fun vs N2 h => ?_
          obtain ⟨rfl, rfl⟩ := h
          refine e2_55 ?_
          have e2 : N2.2.1 1028 (min (y 0) (lo l + r) * 8 + j) = lz (X (min (y 0) (lo l + r)) j) := by rw [(hF 1028 _ rfl).2.1]; exact hX _ _ (by omega) (by omega)
          rw [nI_mul, nI_add, nI_c (a := r) (by omega), nI_c (by omega), hyN.2.2 r (by omega), e2, nI_s, iz_n (y (7 + r)), iz_l ⟨by omega, by omega⟩, lz_mul, lz_add]
          exact ⟨nI_in2 (by omega) (by decide), ih2 (r + 1) (by omega)⟩
      exact inner 4 0 rfl
  exact outer (y 0 + 1) _ _ _ 0 M (by omega) Fr.rf (fun j h => absurd h (Nat.not_lt_zero _))
end CH0
section CH1
variable {d : Nat} {M : Mm} {y lo : Nat → Nat} {k : Int}
set_option maxHeartbeats 1000000 in
theorem c2_1 (hy : YR y k M) (hb : YB y k) (hlo : LOC 1 y lo M) (hlo7 : ∀ l, lo l ≤ 7) {X : Nat → Nat → Int} (hX : ∀ i j, i < y 0 + 1 → j < y 0 + 1 → M.2.1 1092 (i * 8 + j) = lz (X i j)) {l : Nat} (hl : l < y 0 + 1) : SC (d + 3) 2 [.ref 1, .int (nI l)] M (fun vs N => vs = [] ∧ Fr (fun k j => Nat.beq k 1093 && (Nat.ble (l * 8) j && Nat.blt j (l * 8 + 8))) M N ∧ ∀ j, j < y 0 + 1 → N.2.1 1093 (l * 8 + j) = lz (aws y (fun i => X i j) (lo l) 4)) := by
  have h0 := hb.1.2.1
  have hp := y_part hb
  refine sC (by decide) rfl (go_in (e2_0_1 ?_))
  have outer : ∀ k' (o3 o4 o5 : Option Value) j N, j + k' = y 0 + 1 → Fr (fun k j => Nat.beq k 1093 && (Nat.ble (l * 8) j && Nat.blt j (l * 8 + 8))) M N → (∀ j', j' < j → N.2.1 1093 (l * 8 + j') = lz (aws y (fun i => X i j') (lo l) 4)) →
      WM (d + 2) 2 (fun vs N => vs = [] ∧ Fr (fun k j => Nat.beq k 1093 && (Nat.ble (l * 8) j && Nat.blt j (l * 8 + 8))) M N ∧ ∀ j, j < y 0 + 1 → N.2.1 1093 (l * 8 + j) = lz (aws y (fun i => X i j) (lo l) 4)) 2 [some (.ref 1), some (.int (nI l)), some (.int (nI j)), o3, o4, o5] [] N := by
    intro k'
    induction k' with
    | zero =>
      intro o3 o4 o5 j N hj hF hd
      have hyN := hy.of hF (fun j _ => rfl) (fun j => rfl)
      exact go_in (e2_2_1 (br_t (by rw [hyN.1.1]; exact nI_lt (by omega) (by omega)) (go_in (e2_88 ⟨rfl, rfl, hF, fun j' hj' => hd j' (by omega)⟩))))
    | succ k' ih =>
      intro o3 o4 o5 j N hj hF hd
      have hyN := hy.of hF (fun j _ => rfl) (fun j => rfl)
      refine go_in (e2_2_1 (br_f (by rw [hyN.1.1]; exact nI_nlt (by omega) (by omega)) ?_))
      have inner : ∀ k2 r, r + k2 = 4 → WM (d + 2) 2 (fun vs N => vs = [] ∧ Fr (fun k j => Nat.beq k 1093 && (Nat.ble (l * 8) j && Nat.blt j (l * 8 + 8))) M N ∧ ∀ j, j < y 0 + 1 → N.2.1 1093 (l * 8 + j) = lz (aws y (fun i => X i j) (lo l) 4)) 18 [some (.ref 1), some (.int (nI l)), some (.int (nI j)), some (.long (lz (aws y (fun i => X i j) (lo l) r))), none, some (.int (nI r))] [] N := by
        intro k2
        induction k2 with
        | zero =>
          intro r hr
          have hr : r = 4 := by omega
          subst hr
          refine go_in (e2_18_1 (br_t (nI_le (Nat.le_refl _) (by decide)) (go_in (e2_70_1 ?_))))
          rw [nI_mul, nI_add, nI_s, nI_c (by omega)]
          refine ⟨nI_in2 (by omega) (by decide), ih _ _ _ (j + 1) _ (by omega) (hF.sJ ?_) fun j' hj' => ?_⟩
          · rw [show Nat.ble (l * 8) (l * 8 + j) = true from Nat.ble_eq.mpr (by omega), show Nat.blt (l * 8 + j) (l * 8 + 8) = true from Nat.blt_eq.mpr (by omega)]
            rfl
          · rw [sJ_v]
            by_cases e : j' = j
            · subst e; rw [if_pos ⟨rfl, rfl⟩]
            · rw [if_neg (by omega)]; exact hd j' (by omega)
        | succ k2 ih2 =>
          intro r hr
          have hpr := hp r (by omega)
          have hl7 := hlo7 l
          have e1 : N.1 1089 l = nI (lo l) := by rw [(hF 1089 l rfl).1]; exact hlo l hl
          refine go_in (e2_18_1 (br_f (nI_ge (by omega) (by decide)) ⟨nI_in2 (by omega) (by decide), nI_in2 (by omega) (by decide), ?_⟩))
          rw [nI_c (a := l) (by omega), e1]
          refine useC (c72 hyN hb (show lo l ≤ 100 by omega) (show r ≤ 100 by omega)) fun vs N2 h => ?_
          obtain ⟨rfl, rfl⟩ := h
          refine e2_55_1 ?_
          have e2 : N2.2.1 1092 (min (y 0) (lo l + r) * 8 + j) = lz (X (min (y 0) (lo l + r)) j) := by rw [(hF 1092 _ rfl).2.1]; exact hX _ _ (by omega) (by omega)
          rw [nI_mul, nI_add, nI_c (a := r) (by omega), nI_c (by omega), hyN.2.2 r (by omega), e2, nI_s, iz_n (y (7 + r)), iz_l ⟨by omega, by omega⟩, lz_mul, lz_add]
          exact ⟨nI_in2 (by omega) (by decide), ih2 (r + 1) (by omega)⟩
      exact inner 4 0 rfl
  exact outer (y 0 + 1) _ _ _ 0 M (by omega) Fr.rf (fun j h => absurd h (Nat.not_lt_zero _))
end CH1
section CH2
variable {d : Nat} {M : Mm} {y lo : Nat → Nat} {k : Int}
set_option maxHeartbeats 1000000 in
theorem c2_2 (hy : YR y k M) (hb : YB y k) (hlo : LOC 2 y lo M) (hlo7 : ∀ l, lo l ≤ 7) {X : Nat → Nat → Int} (hX : ∀ i j, i < y 0 + 1 → j < y 0 + 1 → M.2.1 1156 (i * 8 + j) = lz (X i j)) {l : Nat} (hl : l < y 0 + 1) : SC (d + 3) 2 [.ref 2, .int (nI l)] M (fun vs N => vs = [] ∧ Fr (fun k j => Nat.beq k 1157 && (Nat.ble (l * 8) j && Nat.blt j (l * 8 + 8))) M N ∧ ∀ j, j < y 0 + 1 → N.2.1 1157 (l * 8 + j) = lz (aws y (fun i => X i j) (lo l) 4)) := by
  have h0 := hb.1.2.1
  have hp := y_part hb
  refine sC (by decide) rfl (go_in (e2_0_2 ?_))
  have outer : ∀ k' (o3 o4 o5 : Option Value) j N, j + k' = y 0 + 1 → Fr (fun k j => Nat.beq k 1157 && (Nat.ble (l * 8) j && Nat.blt j (l * 8 + 8))) M N → (∀ j', j' < j → N.2.1 1157 (l * 8 + j') = lz (aws y (fun i => X i j') (lo l) 4)) →
      WM (d + 2) 2 (fun vs N => vs = [] ∧ Fr (fun k j => Nat.beq k 1157 && (Nat.ble (l * 8) j && Nat.blt j (l * 8 + 8))) M N ∧ ∀ j, j < y 0 + 1 → N.2.1 1157 (l * 8 + j) = lz (aws y (fun i => X i j) (lo l) 4)) 2 [some (.ref 2), some (.int (nI l)), some (.int (nI j)), o3, o4, o5] [] N := by
    intro k'
    induction k' with
    | zero =>
      intro o3 o4 o5 j N hj hF hd
      have hyN := hy.of hF (fun j _ => rfl) (fun j => rfl)
      exact go_in (e2_2_2 (br_t (by rw [hyN.1.1]; exact nI_lt (by omega) (by omega)) (go_in (e2_88 ⟨rfl, rfl, hF, fun j' hj' => hd j' (by omega)⟩))))
    | succ k' ih =>
      intro o3 o4 o5 j N hj hF hd
      have hyN := hy.of hF (fun j _ => rfl) (fun j => rfl)
      refine go_in (e2_2_2 (br_f (by rw [hyN.1.1]; exact nI_nlt (by omega) (by omega)) ?_))
      have inner : ∀ k2 r, r + k2 = 4 → WM (d + 2) 2 (fun vs N => vs = [] ∧ Fr (fun k j => Nat.beq k 1157 && (Nat.ble (l * 8) j && Nat.blt j (l * 8 + 8))) M N ∧ ∀ j, j < y 0 + 1 → N.2.1 1157 (l * 8 + j) = lz (aws y (fun i => X i j) (lo l) 4)) 18 [some (.ref 2), some (.int (nI l)), some (.int (nI j)), some (.long (lz (aws y (fun i => X i j) (lo l) r))), none, some (.int (nI r))] [] N := by
        intro k2
        induction k2 with
        | zero =>
          intro r hr
          have hr : r = 4 := by omega
          subst hr
          refine go_in (e2_18_2 (br_t (nI_le (Nat.le_refl _) (by decide)) (go_in (e2_70_2 ?_))))
          rw [nI_mul, nI_add, nI_s, nI_c (by omega)]
          refine ⟨nI_in2 (by omega) (by decide), ih _ _ _ (j + 1) _ (by omega) (hF.sJ ?_) fun j' hj' => ?_⟩
          · rw [show Nat.ble (l * 8) (l * 8 + j) = true from Nat.ble_eq.mpr (by omega), show Nat.blt (l * 8 + j) (l * 8 + 8) = true from Nat.blt_eq.mpr (by omega)]
            rfl
          · rw [sJ_v]
            by_cases e : j' = j
            · subst e; rw [if_pos ⟨rfl, rfl⟩]
            · rw [if_neg (by omega)]; exact hd j' (by omega)
        | succ k2 ih2 =>
          intro r hr
          have hpr := hp r (by omega)
          have hl7 := hlo7 l
          have e1 : N.1 1153 l = nI (lo l) := by rw [(hF 1153 l rfl).1]; exact hlo l hl
          refine go_in (e2_18_2 (br_f (nI_ge (by omega) (by decide)) ⟨nI_in2 (by omega) (by decide), nI_in2 (by omega) (by decide), ?_⟩))
          rw [nI_c (a := l) (by omega), e1]
          refine useC (c72 hyN hb (show lo l ≤ 100 by omega) (show r ≤ 100 by omega)) fun vs N2 h => ?_
          obtain ⟨rfl, rfl⟩ := h
          refine e2_55_2 ?_
          have e2 : N2.2.1 1156 (min (y 0) (lo l + r) * 8 + j) = lz (X (min (y 0) (lo l + r)) j) := by rw [(hF 1156 _ rfl).2.1]; exact hX _ _ (by omega) (by omega)
          rw [nI_mul, nI_add, nI_c (a := r) (by omega), nI_c (by omega), hyN.2.2 r (by omega), e2, nI_s, iz_n (y (7 + r)), iz_l ⟨by omega, by omega⟩, lz_mul, lz_add]
          exact ⟨nI_in2 (by omega) (by decide), ih2 (r + 1) (by omega)⟩
      exact inner 4 0 rfl
  exact outer (y 0 + 1) _ _ _ 0 M (by omega) Fr.rf (fun j h => absurd h (Nat.not_lt_zero _))
end CH2
