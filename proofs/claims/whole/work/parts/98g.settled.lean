/-! The judge: the class's, settled. -/
def uY (y : Nat → Nat) (p q : Nat) (lo : Nat → Nat) (pay : Nat → Int) (l : Nat) : Int := crm (RY y p q lo) (y 0 + 1) (fun i => pay i * ((q : Int) * (y 6 : Int))) l
def dY (y : Nat → Nat) (p q : Nat) (lo : Nat → Nat) : Int := det (RY y p q lo) (y 0 + 1)
theorem uY_uWo (w : Nat → Nat) (r : Nat) (V : Nat → Nat → Nat) (f l : Nat) : uY (yW w r) (w 6) (w 7) (loY (yW w r) (kW w) V) (paY (yW w r) (foW w r (cstW w)) V f) l = uWo w r V f l := by
  unfold uY
  rw [RY_RSQ]
  rfl
theorem dY_dtW (w : Nat → Nat) (r : Nat) (V : Nat → Nat → Nat) : dY (yW w r) (w 6) (w 7) (loY (yW w r) (kW w) V) = dtW w r V := by
  unfold dY
  rw [RY_RSQ]
  rfl
/-- a chain solved for all farms -/
def SLV (o : Nat) (y : Nat → Nat) (p q : Nat) (lo : Nat → Nat) (pay : Nat → Nat → Int) (N : Mm) : Prop := ∃ C, SET o y C p q N ∧ hb C p ((q : Int) * (y 6 : Int)) (y 0 + 1) = dY y p q lo ∧ ∀ f, f < y 2 → SOL o f y (uY y p q lo (pay f)) N
def aSt (o k j : Nat) : Bool := aSe o k j || aSo o k j
theorem aSt_e {o : Nat} : ∀ k j, aSt o k j = false → aSe o k j = false := fun k j h => (Bool.or_eq_false_iff.mp h).1
theorem aSt_f {o f : Nat} : ∀ k j, aSof o f k j = true → aSt o k j = true := fun k j h => by
  unfold aSof at h
  unfold aSt aSo
  simp only [Bool.or_eq_true, Bool.and_eq_true, Nat.beq_eq, Nat.ble_eq, Nat.blt_eq] at h ⊢
  omega
theorem aSt_cl {o : Nat} (ho : o < 3) : ∀ k j, aSt o k j = true → aCl k j = true := fun k j h => by
  unfold aSt aSe aSo at h
  simp only [Bool.or_eq_true, Bool.and_eq_true, Nat.beq_eq, Nat.ble_eq, Nat.blt_eq] at h
  exact aCl_t.mpr (by omega)
section ST0
variable {d : Nat} {M : Mm} {y lo : Nat → Nat} {k : Int}
theorem c17_0 (hy : YR y k M) (hb : YB y k) (hlo : LOC 0 y lo M) (hlo7 : ∀ l, lo l ≤ 7) {C : Nat → Int} {B : Nat → Nat → Nat → Int} (hfl : FLP (Wm y lo) (y 0 + 1) C B) (hC : COE 0 y C M) {pay : Nat → Nat → Int} (hpay : ∀ f, f < y 2 → PAY 0 f y (pay f) M) (hpb : ∀ f l, f < y 2 → l < y 0 + 1 → i32 (pay f l)) {p q : Nat} (hpq : p < q) (hq : q ≤ 5) : SC (d + 5) 17 [.ref 128, .ref 0, .int (nI p), .int (nI q)] M (fun vs N => vs = [] ∧ Fr (aSt 0) M N ∧ SLV 0 y p q lo pay N) := by
  have h2 := hb.2.1.1
  have h0 := hb.1.2.1
  refine sC (by decide) rfl (go_in (e17_0 (useC (upC (c3_0 (d := d) hy hb hC (p := p) (q := q) (by omega) hq) (by omega)) fun vs N h => ?_)))
  obtain ⟨rfl, hF, hS⟩ := h
  refine e17_6 ?_
  have hF0 : Fr (aSt 0) M N := hF.le aSt_e
  have loop : ∀ k' (o2 o3 : Option Value) f N', f + k' = y 2 → Fr (aSt 0) M N' → SET 0 y C p q N' → (∀ g, g < f → SOL 0 g y (uY y p q lo (pay g)) N') → WM (d + 4) 17 (fun vs N => vs = [] ∧ Fr (aSt 0) M N ∧ SLV 0 y p q lo pay N) 9 [some (.ref 128), some (.ref 0), o2, o3, some (.int (nI f))] [] N' := by
    intro k'
    induction k' with
    | zero =>
      intro o2 o3 f N' hf hF' hS' hd
      have hy' := hy.of hF' (by decide) (fun j => rfl)
      exact go_in (e17_9 (br_t (by rw [hy'.1.2.2.1]; exact nI_le (by omega) (by omega)) (go_in (e17_33 ⟨rfl, rfl, hF', C, hS', hb_det hfl p q, fun g hg => hd g (by omega)⟩))))
    | succ k' ih =>
      intro o2 o3 f N' hf hF' hS' hd
      have hy' := hy.of hF' (by decide) (fun j => rfl)
      have hlo' : LOC 0 y lo N' := fun l hl => by rw [(hF' (1025 + 64 * 0) l rfl).1]; exact hlo l hl
      have hC' : COE 0 y C N' := fun m hm => by rw [(hF' (1027 + 64 * 0) m rfl).2.1]; exact hC m hm
      have hpa' : PAY 0 f y (pay f) N' := fun l hl => by rw [(hF' (1026 + 64 * 0) _ rfl).1]; exact hpay f (by omega) l hl
      refine go_in (e17_9 (br_f (by rw [hy'.1.2.2.1]; exact nI_ge (by omega) (by omega)) (useC (c4_0 (d := d) hy' hb hlo' hlo7 hC' hS' (show f < 3 by omega) hpa' (fun l hl => hpb f l (by omega) hl)) fun vs N2 h => ?_)))
      obtain ⟨rfl, hF2, hu⟩ := h
      refine e17_27 ?_
      rw [nI_s]
      refine ih _ _ (f + 1) _ (by omega) (hF'.tr (hF2.up aSt_f)) ⟨?_, ?_, ?_⟩ fun g hg => ?_
      · rw [(hF2 0 10 rfl).2.1]; exact hS'.1
      · rw [(hF2 0 11 rfl).2.1]; exact hS'.2.1
      · rw [(hF2 0 9 rfl).2.1]; exact hS'.2.2
      · by_cases e : g = f
        · subst e
          intro l hl
          rw [hu l hl, wth_crm hb hfl _ hpq hl]
          rfl
        · intro l hl
          rw [(hF2 (1032 + 64 * 0) (g * 8 + l) (by
            show (false || (false || (true && (Nat.ble (f * 8) (g * 8 + l) && Nat.blt (g * 8 + l) (f * 8 + 8))))) = false
            rw [off_row (by omega) e]; rfl)).2.1]
          exact hd g (by omega) l hl
  exact loop (y 2) _ _ 0 N (by omega) hF0 hS fun g hg => absurd hg (Nat.not_lt_zero g)
end ST0
section ST1
variable {d : Nat} {M : Mm} {y lo : Nat → Nat} {k : Int}
theorem c17_1 (hy : YR y k M) (hb : YB y k) (hlo : LOC 1 y lo M) (hlo7 : ∀ l, lo l ≤ 7) {C : Nat → Int} {B : Nat → Nat → Nat → Int} (hfl : FLP (Wm y lo) (y 0 + 1) C B) (hC : COE 1 y C M) {pay : Nat → Nat → Int} (hpay : ∀ f, f < y 2 → PAY 1 f y (pay f) M) (hpb : ∀ f l, f < y 2 → l < y 0 + 1 → i32 (pay f l)) {p q : Nat} (hpq : p < q) (hq : q ≤ 5) : SC (d + 5) 17 [.ref 128, .ref 1, .int (nI p), .int (nI q)] M (fun vs N => vs = [] ∧ Fr (aSt 1) M N ∧ SLV 1 y p q lo pay N) := by
  have h2 := hb.2.1.1
  have h0 := hb.1.2.1
  refine sC (by decide) rfl (go_in (e17_0_1 (useC (upC (c3_1 (d := d) hy hb hC (p := p) (q := q) (by omega) hq) (by omega)) fun vs N h => ?_)))
  obtain ⟨rfl, hF, hS⟩ := h
  refine e17_6_1 ?_
  have hF0 : Fr (aSt 1) M N := hF.le aSt_e
  have loop : ∀ k' (o2 o3 : Option Value) f N', f + k' = y 2 → Fr (aSt 1) M N' → SET 1 y C p q N' → (∀ g, g < f → SOL 1 g y (uY y p q lo (pay g)) N') → WM (d + 4) 17 (fun vs N => vs = [] ∧ Fr (aSt 1) M N ∧ SLV 1 y p q lo pay N) 9 [some (.ref 128), some (.ref 1), o2, o3, some (.int (nI f))] [] N' := by
    intro k'
    induction k' with
    | zero =>
      intro o2 o3 f N' hf hF' hS' hd
      have hy' := hy.of hF' (by decide) (fun j => rfl)
      exact go_in (e17_9_1 (br_t (by rw [hy'.1.2.2.1]; exact nI_le (by omega) (by omega)) (go_in (e17_33 ⟨rfl, rfl, hF', C, hS', hb_det hfl p q, fun g hg => hd g (by omega)⟩))))
    | succ k' ih =>
      intro o2 o3 f N' hf hF' hS' hd
      have hy' := hy.of hF' (by decide) (fun j => rfl)
      have hlo' : LOC 1 y lo N' := fun l hl => by rw [(hF' (1025 + 64 * 1) l rfl).1]; exact hlo l hl
      have hC' : COE 1 y C N' := fun m hm => by rw [(hF' (1027 + 64 * 1) m rfl).2.1]; exact hC m hm
      have hpa' : PAY 1 f y (pay f) N' := fun l hl => by rw [(hF' (1026 + 64 * 1) _ rfl).1]; exact hpay f (by omega) l hl
      refine go_in (e17_9_1 (br_f (by rw [hy'.1.2.2.1]; exact nI_ge (by omega) (by omega)) (useC (c4_1 (d := d) hy' hb hlo' hlo7 hC' hS' (show f < 3 by omega) hpa' (fun l hl => hpb f l (by omega) hl)) fun vs N2 h => ?_)))
      obtain ⟨rfl, hF2, hu⟩ := h
      refine e17_27_1 ?_
      rw [nI_s]
      refine ih _ _ (f + 1) _ (by omega) (hF'.tr (hF2.up aSt_f)) ⟨?_, ?_, ?_⟩ fun g hg => ?_
      · rw [(hF2 1 10 rfl).2.1]; exact hS'.1
      · rw [(hF2 1 11 rfl).2.1]; exact hS'.2.1
      · rw [(hF2 1 9 rfl).2.1]; exact hS'.2.2
      · by_cases e : g = f
        · subst e
          intro l hl
          rw [hu l hl, wth_crm hb hfl _ hpq hl]
          rfl
        · intro l hl
          rw [(hF2 (1032 + 64 * 1) (g * 8 + l) (by
            show (false || (false || (true && (Nat.ble (f * 8) (g * 8 + l) && Nat.blt (g * 8 + l) (f * 8 + 8))))) = false
            rw [off_row (by omega) e]; rfl)).2.1]
          exact hd g (by omega) l hl
  exact loop (y 2) _ _ 0 N (by omega) hF0 hS fun g hg => absurd hg (Nat.not_lt_zero g)
end ST1
