/-! The class's choice: one turn of bettering. -/
/-- what is offered: by level and way, what it pays and where it leads -/
def OFR (y : Nat → Nat) (K : Nat) (r : Nat → Nat → Int) (lo : Nat → Nat → Nat) (M : Mm) : Prop := M.1 64 2 = nI K ∧ ∀ l k, l ≤ y 0 → k < K → M.1 5123 (l * 64 + k) = iz (r l k) ∧ M.1 5124 (l * 64 + k) = nI (lo l k)
def LAT (y : Nat → Nat) (R : Nat → Int) (M : Mm) : Prop := ∀ l, l ≤ y 0 → M.2.1 5125 l = lz (R l)
def CHN (y : Nat → Nat) (c : Nat → Nat) (M : Mm) : Prop := ∀ l, l ≤ y 0 → M.1 5127 l = nI (c l)
/-- the numbers c worked out -/
def EVC (y : Nat → Nat) (p q : Nat) (r : Nat → Nat → Int) (lo : Nat → Nat → Nat) (c : Nat → Nat) (M : Mm) : Prop := M.2.1 2 9 = lz (dC y p q lo c) ∧ M.2.1 2 11 = lz ((q : Int) * (y 6 : Int)) ∧ (∀ l, l ≤ y 0 → M.2.1 1160 l = lz (uC y p q r lo c l)) ∧ LAT y (fun j => (p : Int) * aws y (uC y p q r lo c) j 4) M
theorem OFR.of {y : Nat → Nat} {K : Nat} {r : Nat → Nat → Int} {lo : Nat → Nat → Nat} {P : Nat → Nat → Bool} {M N : Mm} (h : OFR y K r lo M) (hF : Fr P M N) (h0 : P 64 2 = false) (h1 : ∀ j, P 5123 j = false) (h2 : ∀ j, P 5124 j = false) : OFR y K r lo N :=
  ⟨by rw [(hF _ _ h0).1]; exact h.1, fun l k hl hk => by rw [(hF _ _ (h1 _)).1, (hF _ _ (h2 _)).1]; exact h.2 l k hl hk⟩
theorem EVC.of {y : Nat → Nat} {p q : Nat} {r : Nat → Nat → Int} {lo : Nat → Nat → Nat} {c : Nat → Nat} {P : Nat → Nat → Bool} {M N : Mm} (h : EVC y p q r lo c M) (hF : Fr P M N) (h0 : P 2 9 = false) (h1 : P 2 11 = false) (h2 : ∀ j, P 1160 j = false) (h3 : ∀ j, P 5125 j = false) : EVC y p q r lo c N :=
  ⟨by rw [(hF _ _ h0).2.1]; exact h.1, by rw [(hF _ _ h1).2.1]; exact h.2.1, fun l hl => by rw [(hF _ _ (h2 _)).2.1]; exact h.2.2.1 l hl, fun l hl => by rw [(hF _ _ (h3 _)).2.1]; exact h.2.2.2 l hl⟩
def aCho (k _ : Nat) : Bool := Nat.beq k 5127
theorem cmp_gtI {a b : Int} (ha : i64 a) (hb : i64 b) : lg_cmp (lz a) (lz b) ≤ 0 ↔ a ≤ b := by rw [cmp_le, lz_le ha hb]
theorem bst_1 (g : Nat → Int) : bst g 1 = 0 := by
  have := bst_lt g 1 (by omega)
  omega
section IM
variable {d : Nat} {M : Mm} {y : Nat → Nat} {k0 : Int} {r : Nat → Nat → Int} {lo : Nat → Nat → Nat} {K : Nat}
theorem c13 (hb : YB y k0) (hK : K ≤ 64) (hO : OFR y K r lo M) {R : Nat → Int} (hL : LAT y R M) (hr : ∀ l k, l ≤ y 0 → k < K → bd 7344 (r l k)) (hlo : ∀ l k, l ≤ y 0 → lo l k ≤ y 0) {l k : Nat} (hl : l ≤ y 0) (hk : k < K) {s : Int} : SC (d + 1) 13 [.ref 64, .int (nI l), .int (nI k), .long (lz s)] M (fun vs N => vs = [.long (lz (r l k * s + R (lo l k)))] ∧ N = M) := by
  have h0 := hb.1.2.1
  refine sC (by decide) rfl (go_in (e13_0 ?_))
  obtain ⟨h1, h2⟩ := hO.2 l k hl hk
  have hly := hlo l k hl
  rw [nI_mul, nI_add, nI_c (by omega), h1, h2, nI_c (by omega), hL _ hly, iz_l (bd_i32 (bd_le (hr l k hl hk) (by decide))), lz_mul, lz_add]
  exact ⟨nI_in2 (by omega) (by decide), nI_in2 (by omega) (by decide), nI_in2 (by omega) (by decide), rfl, rfl, rfl⟩
theorem c12 (hb : YB y k0) (hK0 : 0 < K) (hK : K ≤ 64) (hO : OFR y K r lo M) {R : Nat → Int} (hL : LAT y R M) (hr : ∀ l k, l ≤ y 0 → k < K → bd 7344 (r l k)) (hlo : ∀ l k, l ≤ y 0 → lo l k ≤ y 0) {l : Nat} (hl : l ≤ y 0) {s : Int} (hi : ∀ k, k < K → i64 (r l k * s + R (lo l k))) : SC (d + 2) 12 [.ref 64, .int (nI l), .long (lz s)] M (fun vs N => vs = [.int (nI (bst (fun k => r l k * s + R (lo l k)) K))] ∧ N = M) := by
  refine sC (by decide) rfl (go_in (e12_0 (useC (upC (c13 (d := d) hb hK hO hL hr hlo hl hK0) (by omega)) fun vs N h => ?_)))
  obtain ⟨rfl, rfl⟩ := h
  refine e12_10 ?_
  have loop : ∀ j (o8 o9 o6 o3 : Option Value) n, n + j = K → 0 < n → WM (d + 1) 12 (fun vs N' => vs = [.int (nI (bst (fun k => r l k * s + R (lo l k)) K))] ∧ N' = N) 15 [some (.ref 64), some (.int (nI l)), some (.long (lz s)), o3, some (.int (nI (bst (fun k => r l k * s + R (lo l k)) n))), some (.long (lz ((fun k => r l k * s + R (lo l k)) (bst (fun k => r l k * s + R (lo l k)) n)))), o6, some (.int (nI n)), o8, o9] [] N := by
    intro j
    induction j with
    | zero =>
      intro o8 o9 o6 o3 n hn _
      have hn : n = K := by omega
      subst hn
      refine go_in (e12_15 ?_)
      rw [hO.1]
      exact br_t (nI_le (Nat.le_refl _) (by omega)) (go_in (e12_56 ⟨rfl, rfl, rfl⟩))
    | succ j ih =>
      intro o8 o9 o6 o3 n hn h0
      refine go_in (e12_15 ?_)
      rw [hO.1]
      refine br_f (nI_ge (by omega) (by omega)) (useC (upC (c13 (d := d) hb hK hO hL hr hlo hl (show n < K by omega)) (by omega)) fun vs N' h => ?_)
      obtain ⟨rfl, rfl⟩ := h
      refine e12_32 ?_
      have hbl := bst_lt (fun k => r l k * s + R (lo l k)) n h0
      rw [cmp_gtI (hi n (by omega)) (hi _ (by omega))]
      have hs : bst (fun k => r l k * s + R (lo l k)) (n + 1) = if (fun k => r l k * s + R (lo l k)) (bst (fun k => r l k * s + R (lo l k)) n) < (fun k => r l k * s + R (lo l k)) n then n else bst (fun k => r l k * s + R (lo l k)) n := rfl
      refine ⟨fun e => go_in (e12_50 ?_), fun e => go_in (e12_50 ?_)⟩
      · have hst : bst (fun k => r l k * s + R (lo l k)) (n + 1) = bst (fun k => r l k * s + R (lo l k)) n := by rw [hs, if_neg (Int.not_lt.mpr e)]
        have := ih none none none none (n + 1) (by omega) (by omega)
        rw [hst] at this
        rw [nI_s]
        exact this
      · have hst : bst (fun k => r l k * s + R (lo l k)) (n + 1) = n := by rw [hs, if_pos (Int.not_le.mp e)]
        have := ih none none none none (n + 1) (by omega) (by omega)
        rw [hst] at this
        rw [nI_s]
        exact this
  have t := loop (K - 1) none none none none 1 (by omega) (by omega)
  rw [bst_1] at t
  exact t
theorem tf_or (a b : Bool) : nI (cond a 1 0) ||| nI (cond b 1 0) = nI (cond (a || b) 1 0) := by cases a <;> cases b <;> decide
theorem vC_bd {p q : Nat} (hb : YB y k0) (hpq : p < q) (hq : q ≤ 5) (hr : ∀ l k, l ≤ y 0 → k < K → bd 7344 (r l k)) {c : Nat → Nat} (hc : ∀ l, c l < K) {l k : Nat} (hl : l ≤ y 0) (hk : k < K) : bd 304570368000000000 (vC y p q r lo c l k) := by
  have hd := dY_bd hb hpq hq (loC lo c)
  have he := RY_20 hb hpq hq
  have ha := aws_bd (y := y) (fun r hr => y_part hb r hr) (X := 3760128000000000) (R := uC y p q r lo c) (fun j hj => uC_bd hb hpq hq hr hc hj) (lo l k) 4 (by decide)
  have h1 : bd (7344 * (25600000000 * 20)) (r l k * (dC y p q lo c * ((q : Int) * (y 6 : Int)))) := bd_mul (hr l k hl hk) (bd_mul ⟨by unfold dC; omega, by unfold dC; omega⟩ ⟨by omega, he.2⟩)
  have h2 : bd ((5 : Nat) * (((4 : Nat) : Int) * (4 * 3760128000000000))) ((p : Int) * aws y (uC y p q r lo c) (lo l k) 4) := bd_mul (bd_n (by omega)) ha
  exact bd_le (bd_add h1 h2) (by decide)
theorem owC_bd {p q : Nat} (hb : YB y k0) (hpq : p < q) (hq : q ≤ 5) (hr : ∀ l k, l ≤ y 0 → k < K → bd 7344 (r l k)) {c : Nat → Nat} (hc : ∀ l, c l < K) {l : Nat} (hl : l ≤ y 0) : bd 304570368000000000 (owC y p q r lo c l) := by
  rw [bellman hl]
  exact vC_bd hb hpq hq hr hc hl (hc l)
theorem vC_f {p q : Nat} {c : Nat → Nat} {l : Nat} : (fun k => r l k * (dC y p q lo c * ((q : Int) * (y 6 : Int))) + (fun j => (p : Int) * aws y (uC y p q r lo c) j 4) (lo l k)) = vC y p q r lo c l := rfl
theorem c11 {p q : Nat} (hy : YR y k0 M) (hb : YB y k0) (hpq : p < q) (hq : q ≤ 5) (hK0 : 0 < K) (hK : K ≤ 64) (hO : OFR y K r lo M) (hr : ∀ l k, l ≤ y 0 → k < K → bd 7344 (r l k)) (hlo : ∀ l k, l ≤ y 0 → lo l k ≤ y 0) {c : Nat → Nat} (hc : ∀ l, c l < K) (hE : EVC y p q r lo c M) (hC : CHN y c M) {b : Bool} : SC (d + 4) 11 [.ref 64, .int (nI (cond b 1 0))] M (fun vs N => vs = [.int (nI (cond (imC y p q r lo K c) 1 0))] ∧ Fr aCho M N ∧ CHN y (fun l => if (mrC y p q r lo K c l || b) = true then bst (vC y p q r lo c l) K else c l) N) := by
  have h0 := hb.1.2.1
  refine sC (by decide) rfl (go_in (e11_0 ?_))
  have loop : ∀ j (o4 o5 o6 o7 : Option Value) l N, l + j = y 0 + 1 → Fr aCho M N → (∀ i, i ≤ y 0 → N.1 5127 i = nI (if i < l then (if (mrC y p q r lo K c i || b) = true then bst (vC y p q r lo c i) K else c i) else c i)) → WM (d + 3) 11 (fun vs N => vs = [.int (nI (cond (imC y p q r lo K c) 1 0))] ∧ Fr aCho M N ∧ CHN y (fun l => if (mrC y p q r lo K c l || b) = true then bst (vC y p q r lo c l) K else c l) N) 4 [some (.ref 64), some (.int (nI (cond b 1 0))), some (.int (nI (cond (anB (mrC y p q r lo K c) l) 1 0))), some (.int (nI l)), o4, o5, o6, o7] [] N := by
    intro j
    induction j with
    | zero =>
      intro o4 o5 o6 o7 l N hl hF hch
      have hl : l = y 0 + 1 := by omega
      subst hl
      refine go_in (e11_4 ?_)
      rw [(hF 640 0 rfl).1, hy.1.1]
      refine br_t (nI_lt (by omega) (by omega)) (go_in (e11_119 ⟨nI_tf _, rfl, rfl, hF, fun i hi => ?_⟩))
      rw [hch i hi, if_pos (by omega)]
    | succ j ih =>
      intro o4 o5 o6 o7 l N hl hF hch
      have hly : l ≤ y 0 := by omega
      have hE' := hE.of hF rfl rfl (fun j => rfl) (fun j => rfl)
      have hO' := hO.of hF rfl (fun j => rfl) (fun j => rfl)
      refine go_in (e11_4 ?_)
      rw [(hF 640 0 rfl).1, hy.1.1]
      refine br_f (nI_nlt (by omega) (by omega)) ⟨nI_in2 (by omega) (by decide), ?_⟩
      rw [hE'.1, hE'.2.1, nI_c (by omega), hE'.2.2.1 l hly, lz_mul, lz_mul]
      have hv := fun k hk => vC_bd hb hpq hq hr hc (lo := lo) hly (k := k) hk
      refine useC (upC (c12 (d := d) hb hK0 hK hO' hE'.2.2.2 hr hlo hly fun k hk => i64_of (hv k hk) (by decide)) (by omega)) fun vs N2 h => ?_
      obtain ⟨rfl, rfl⟩ := h
      rw [vC_f]
      refine e11_54 ?_
      rw [hE'.1, hE'.2.1, lz_mul]
      have hbl := bst_lt (vC y p q r lo c l) K hK0
      refine useC (upC (c13 (d := d) hb hK hO' hE'.2.2.2 hr hlo hly hbl) (by omega)) fun vs N2 h => ?_
      obtain ⟨rfl, rfl⟩ := h
      have hst : anB (mrC y p q r lo K c) (l + 1) = (anB (mrC y p q r lo K c) l || mrC y p q r lo K c l) := rfl
      have hbest := hv _ hbl
      have hown := owC_bd (lo := lo) hb hpq hq hr hc hly
      have hcmp : lg_cmp (lz (vC y p q r lo c l (bst (vC y p q r lo c l) K))) (lz (owC y p q r lo c l)) ≤ 0 ↔ ¬ mrC y p q r lo K c l = true := by
        rw [cmp_gtI (i64_of hbest (by decide)) (i64_of hown (by decide))]
        unfold mrC
        rw [decide_eq_true_iff]
        exact Int.not_lt.symm
      -- behind the store
      have tail : ∀ (o4 o5 : Option Value) (v : Nat) N', Fr aCho M N' → (∀ i, i ≤ y 0 → N'.1 5127 i = nI (if i < l + 1 then (if (mrC y p q r lo K c i || b) = true then bst (vC y p q r lo c i) K else c i) else c i)) → WM (d + 3) 11 (fun vs N => vs = [.int (nI (cond (imC y p q r lo K c) 1 0))] ∧ Fr aCho M N ∧ CHN y (fun l => if (mrC y p q r lo K c l || b) = true then bst (vC y p q r lo c l) K else c l) N) 108 [some (.ref 64), some (.int (nI (cond b 1 0))), some (.int (nI (cond (anB (mrC y p q r lo K c) l) 1 0))), some (.int (nI l)), o4, o5, some (.int (nI v)), some (.int (nI (cond (mrC y p q r lo K c l) 1 0)))] [] N' := by
        intro o4 o5 v N' hF' hch'
        refine go_in (e11_108 ?_)
        rw [tf_or, ← hst, nI_s]
        exact ih _ _ _ _ (l + 1) N' (by omega) hF' hch'
      have put : ∀ (o4 o5 : Option Value), (mrC y p q r lo K c l || b) = true → WM (d + 3) 11 (fun vs N => vs = [.int (nI (cond (imC y p q r lo K c) 1 0))] ∧ Fr aCho M N ∧ CHN y (fun l => if (mrC y p q r lo K c l || b) = true then bst (vC y p q r lo c l) K else c l) N) 100 [some (.ref 64), some (.int (nI (cond b 1 0))), some (.int (nI (cond (anB (mrC y p q r lo K c) l) 1 0))), some (.int (nI l)), o4, o5, some (.int (nI (bst (vC y p q r lo c l) K))), some (.int (nI (cond (mrC y p q r lo K c l) 1 0)))] [] N2 := by
        intro o4 o5 hm
        refine go_in (e11_100 ⟨nI_in2 (by omega) (by decide), ?_⟩)
        rw [nI_c (by omega)]
        refine tail _ _ _ _ (hF.sI rfl) fun i hi => ?_
        rw [sI_v]
        by_cases e : i = l
        · subst e
          rw [if_pos ⟨rfl, rfl⟩, if_pos (by omega), if_pos hm]
        · rw [if_neg (fun q => e q.2), hch i hi]
          by_cases e2 : i < l
          · rw [if_pos e2, if_pos (show i < l + 1 by omega)]
          · rw [if_neg e2, if_neg (show ¬ i < l + 1 by omega)]
      refine e11_78 ⟨fun e => go_in (e11_88 (go_in (e11_89 ?_))), fun e => go_in (e11_89 ?_)⟩
      · have hm : mrC y p q r lo K c l = false := by
          cases h : mrC y p q r lo K c l with
          | false => rfl
          | true => exact absurd h (hcmp.mp e)
        refine ⟨fun q => absurd rfl q, fun _ => ⟨fun hb0 => ?_, fun hb1 => ?_⟩⟩
        · have hbf : b = false := by
            cases b with
            | false => rfl
            | true => exact absurd hb0 (by decide)
          have t := tail none none (bst (vC y p q r lo c l) K) N2 hF fun i hi => by
            rw [hch i hi]
            by_cases e : i = l
            · subst e
              rw [if_neg (by omega), if_pos (by omega), hm, hbf, if_neg (by decide)]
            · by_cases e2 : i < l
              · rw [if_pos e2, if_pos (show i < l + 1 by omega)]
              · rw [if_neg e2, if_neg (show ¬ i < l + 1 by omega)]
          rw [hm] at t
          exact t
        · have hbt : b = true := by
            cases b with
            | false => exact absurd rfl hb1
            | true => rfl
          have t := put none none (by rw [hm, hbt]; rfl)
          rw [hm] at t
          exact t
      · have hm : mrC y p q r lo K c l = true := by
          cases h : mrC y p q r lo K c l with
          | true => rfl
          | false => exact absurd (hcmp.mpr (by rw [h]; decide)) e
        refine ⟨fun _ => ?_, fun q => absurd q (by decide)⟩
        have t := put none none (by rw [hm]; rfl)
        rw [hm] at t
        exact t
  refine loop (y 0 + 1) _ _ _ _ 0 M (by omega) Fr.rf fun i hi => ?_
  rw [if_neg (by omega)]
  exact hC i hi
end IM
