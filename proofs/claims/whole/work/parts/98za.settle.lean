/-! The class's choice: worked out, and settled. -/
def aEv (k _ : Nat) : Bool := Nat.beq k 2 || (Nat.beq k 5125 || (Nat.ble 1152 k && Nat.blt k 1216))
theorem aEv_t {k j : Nat} : aEv k j = true ↔ k = 2 ∨ k = 5125 ∨ (1152 ≤ k ∧ k < 1216) := by
  unfold aEv
  simp only [Bool.or_eq_true, Bool.and_eq_true, Nat.beq_eq, Nat.ble_eq, Nat.blt_eq]
theorem aSh_ev : ∀ k j, aSh 2 k j = true → aEv k j = true := fun k j h => by
  unfold aSh at h
  simp only [Bool.or_eq_true, Nat.beq_eq] at h
  exact aEv_t.mpr (by omega)
theorem aSe_ev : ∀ k j, aSe 2 k j = true → aEv k j = true := fun k j h => by
  unfold aSe at h
  simp only [Bool.or_eq_true, Bool.and_eq_true, Nat.beq_eq] at h
  exact aEv_t.mpr (by omega)
theorem aSof_ev : ∀ k j, aSof 2 0 k j = true → aEv k j = true := fun k j h => by
  unfold aSof at h
  simp only [Bool.or_eq_true, Bool.and_eq_true, Nat.beq_eq, Nat.ble_eq, Nat.blt_eq] at h
  exact aEv_t.mpr (by omega)
def aCx (k j : Nat) : Bool := aEv k j || aCho k j
theorem aEv_x : ∀ k j, aEv k j = true → aCx k j = true := fun k j h => by unfold aCx; rw [h]; rfl
theorem aCho_x : ∀ k j, aCho k j = true → aCx k j = true := fun k j h => by unfold aCx; rw [h]; exact Bool.or_true _
theorem Fr.fI {P : Nat → Nat → Bool} {M N : Mm} {x n : Nat} {v : Int32} (h : Fr P M N) (hp : ∀ b, P x b = true) : Fr P M (fI N x n v) := fun a b q => by
  refine ⟨?_, (h a b q).2⟩
  show (if a = x ∧ b < n then v else N.1 a b) = M.1 a b
  rw [if_neg (fun e => by rw [e.1, hp b] at q; cases q)]
  exact (h a b q).1
theorem fI_v (M : Mm) (x n : Nat) (v : Int32) (a b : Nat) : (fI M x n v).1 a b = if a = x ∧ b < n then v else M.1 a b := rfl
section EV
variable {d : Nat} {M : Mm} {y : Nat → Nat} {k0 : Int} {r : Nat → Nat → Int} {lo : Nat → Nat → Nat} {K : Nat}
theorem c10 (hy : YR y k0 M) (hb : YB y k0) (hK : K ≤ 64) (hO : OFR y K r lo M) (hr : ∀ l k, l ≤ y 0 → k < K → bd 7344 (r l k)) (hlo7 : ∀ l k, lo l k ≤ 7) {c : Nat → Nat} (hc : ∀ l, c l < K) (hC : CHN y c M) : SC (d + 5) 10 [.ref 64] M (fun vs N => vs = [] ∧ Fr aEv M N ∧ EVC y (y 4) (y 5) r lo c N) := by
  have h0 := hb.1.2.1
  have hpq := hb.2.2.1
  have hsh := hb.2.2
  refine sC (by decide) rfl (go_in (e10_0 ?_))
  obtain ⟨C, B, hfl⟩ := FLP_any (Wm y (loC lo c)) (n := y 0 + 1) (by omega)
  have P2 : ∀ j (o2 : Option Value) l N, l + j = y 0 + 1 → Fr aEv M N → N.2.1 2 9 = lz (dC y (y 4) (y 5) lo c) → SET 2 y C (y 4) (y 5) N → SOL 2 0 y (uC y (y 4) (y 5) r lo c) N → (∀ i, i < l → N.2.1 5125 i = lz ((y 4 : Int) * aws y (uC y (y 4) (y 5) r lo c) i 4)) → WM (d + 4) 10 (fun vs N => vs = [] ∧ Fr aEv M N ∧ EVC y (y 4) (y 5) r lo c N) 99 [some (.ref 64), some (.int (nI l)), o2] [] N := by
    intro j
    induction j with
    | zero =>
      intro o2 l N hl hF h9 hS hu hL
      have hl : l = y 0 + 1 := by omega
      subst hl
      refine go_in (e10_99 ?_)
      rw [(hF 640 0 rfl).1, hy.1.1]
      refine br_t (nI_lt (by omega) (by omega)) (go_in (e10_132 ⟨rfl, rfl, hF, h9, hS.2.1, fun i hi => ?_, fun i hi => hL i (by omega)⟩))
      have := hu i (by omega)
      rw [Nat.zero_mul, Nat.zero_add] at this
      exact this
    | succ j ih =>
      intro o2 l N hl hF h9 hS hu hL
      refine go_in (e10_99 ?_)
      rw [(hF 640 0 rfl).1, hy.1.1]
      refine br_f (nI_nlt (by omega) (by omega)) ?_
      show SC (d + 4) 5 [.ref 2, .int (nI 0), .int (iz 0), .int (nI l)] N _
      refine useC (c5_2 (d := d) (hy.of hF (fun j _ => rfl) (fun j => rfl)) hb hS (by decide) hu i32_0 (show l ≤ 7 by omega)) fun vs N2 h => ?_
      obtain ⟨rfl, rfl⟩ := h
      refine e10_125 ⟨nI_in2 (by omega) (by decide), ?_⟩
      rw [nI_c (by omega), nI_s, Int.zero_mul, Int.zero_mul, Int.zero_add]
      have e5 : ∀ k j, ¬ (k = 5125) → ∀ v, (sJ N2 5125 l v).2.1 k j = N2.2.1 k j := fun k j hk v => by rw [sJ_v, if_neg (fun q => hk q.1)]
      refine ih _ (l + 1) _ (by omega) (hF.sJ rfl) (by rw [e5 _ _ (by decide)]; exact h9) ⟨by rw [e5 _ _ (by decide)]; exact hS.1, by rw [e5 _ _ (by decide)]; exact hS.2.1, by rw [e5 _ _ (by decide)]; exact hS.2.2⟩ (fun i hi => by rw [e5 _ _ (by decide)]; exact hu i hi) fun i hi => ?_
      rw [sJ_v]
      by_cases e : i = l
      · subst e; rw [if_pos ⟨rfl, rfl⟩]
      · rw [if_neg (fun q => e q.2)]; exact hL i (by omega)
  have P1 : ∀ j (o2 : Option Value) l N, l + j = y 0 + 1 → Fr aEv M N → (∀ i, i < l → N.1 1153 i = nI (loC lo c i) ∧ N.1 1154 i = iz (pyC r c i)) → WM (d + 4) 10 (fun vs N => vs = [] ∧ Fr aEv M N ∧ EVC y (y 4) (y 5) r lo c N) 2 [some (.ref 64), some (.int (nI l)), o2] [] N := by
    intro j
    induction j with
    | zero =>
      intro o2 l N hl hF hA
      have hl : l = y 0 + 1 := by omega
      subst hl
      refine go_in (e10_2 ?_)
      rw [(hF 640 0 rfl).1, hy.1.1]
      have hy1 := hy.of hF (fun j _ => rfl) (fun j => rfl)
      have hlo1 : LOC 2 y (loC lo c) N := fun i hi => (hA i hi).1
      have hpa1 : PAY 2 0 y (pyC r c) N := fun i hi => by rw [Nat.zero_mul, Nat.zero_add]; exact (hA i hi).2
      refine br_t (nI_lt (by omega) (by omega)) (go_in (e10_61 (useC (upC (c1_2 (d := d) hy1 hb hlo1 (fun l => hlo7 l _) hfl) (by omega)) fun vs N2 h => ?_)))
      obtain ⟨rfl, hF2, hCo⟩ := h
      have hF2' := hF.tr (hF2.up aSh_ev)
      have hy2 := hy.of hF2' (fun j _ => rfl) (fun j => rfl)
      refine e10_68 ?_
      rw [hy2.2.1.1, hy2.2.1.2.1]
      refine useC (upC (c3_2 (d := d) hy2 hb hCo (p := y 4) (q := y 5) (by omega) (by omega)) (by omega)) fun vs N3 h => ?_
      obtain ⟨rfl, hF3, hS⟩ := h
      have hF3' := hF2'.tr (hF3.up aSe_ev)
      have hy3 := hy.of hF3' (fun j _ => rfl) (fun j => rfl)
      have hlo3 : LOC 2 y (loC lo c) N3 := fun l hl => by rw [(hF3 (1025 + 64 * 2) l rfl).1, (hF2 (1025 + 64 * 2) l rfl).1]; exact hlo1 l hl
      have hC3 : COE 2 y C N3 := fun m hm => by rw [(hF3 (1027 + 64 * 2) m rfl).2.1]; exact hCo m hm
      have hpa3 : PAY 2 0 y (pyC r c) N3 := fun l hl => by rw [(hF3 (1026 + 64 * 2) _ rfl).1, (hF2 (1026 + 64 * 2) _ rfl).1]; exact hpa1 l hl
      refine e10_89 (useC (c4_2 (d := d) hy3 hb hlo3 (fun l => hlo7 l _) hC3 hS (show 0 < 3 by decide) hpa3 (fun l hl => bd_i32 (bd_le (hr l (c l) (by omega) (hc l)) (by decide)))) fun vs N4 h => ?_)
      obtain ⟨rfl, hF4, hu⟩ := h
      have hu4 : SOL 2 0 y (uC y (y 4) (y 5) r lo c) N4 := fun l hl => by rw [hu l hl, wth_crm hb hfl _ hpq.2.1 hl]; rfl
      have hS4 : SET 2 y C (y 4) (y 5) N4 := ⟨by rw [(hF4 2 10 rfl).2.1]; exact hS.1, by rw [(hF4 2 11 rfl).2.1]; exact hS.2.1, by rw [(hF4 2 9 rfl).2.1]; exact hS.2.2⟩
      have h9 : N4.2.1 2 9 = lz (dC y (y 4) (y 5) lo c) := by rw [hS4.2.2, hb_det hfl]; rfl
      exact e10_97 (P2 (y 0 + 1) _ 0 N4 (by omega) (hF3'.tr (hF4.up aSof_ev)) h9 hS4 hu4 fun i hi => absurd hi (Nat.not_lt_zero _))
    | succ j ih =>
      intro o2 l N hl hF hA
      refine go_in (e10_2 ?_)
      rw [(hF 640 0 rfl).1, hy.1.1]
      have hly : l ≤ y 0 := by omega
      have hO1 := hO.of hF rfl (fun j => rfl) (fun j => rfl)
      have hcl := hc l
      obtain ⟨g1, g2⟩ := hO1.2 l (c l) hly hcl
      have hch : N.1 5127 l = nI (c l) := by rw [(hF 5127 l rfl).1]; exact hC l hly
      refine br_f (nI_nlt (by omega) (by omega)) ?_
      rw [nI_c (show l < 2147483648 by omega), hch, nI_mul, nI_add, nI_c (show l * 64 + c l < 2147483648 by omega), sI_v, if_neg (by omega), g1, g2, nI_s]
      refine ⟨nI_in2 (by omega) (by decide), nI_in2 (by omega) (by decide), nI_in2 (by omega) (by decide), nI_in2 (by omega) (by decide), nI_in2 (by omega) (by decide), ?_⟩
      refine ih _ (l + 1) _ (by omega) ((hF.sI rfl).sI rfl) fun i hi => ?_
      rw [sI_v, if_neg (by omega), sI_v, sI_v]
      by_cases e : i = l
      · subst e
        rw [if_pos ⟨rfl, rfl⟩, if_pos ⟨rfl, rfl⟩]
        exact ⟨rfl, rfl⟩
      · rw [if_neg (fun q => e q.2), if_neg (fun q => e q.2), sI_v, if_neg (by omega)]
        exact hA i (by omega)
  exact P1 (y 0 + 1) _ 0 M (by omega) Fr.rf fun i hi => absurd hi (Nat.not_lt_zero _)
theorem c9 (hy : YR y k0 M) (hb : YB y k0) (hK0 : 0 < K) (hK : K ≤ 64) (hO : OFR y K r lo M) (hr : ∀ l k, l ≤ y 0 → k < K → bd 7344 (r l k)) (hlo7 : ∀ l k, lo l k ≤ 7) (hlo : ∀ l k, l ≤ y 0 → lo l k ≤ y 0) : SC (d + 6) 9 [.ref 64] M (fun vs N => vs = [] ∧ Fr aCx M N ∧ EVC y (y 4) (y 5) r lo (fiC y (y 4) (y 5) r lo K) N ∧ CHN y (anC y (y 4) (y 5) r lo K) N) := by
  have h0 := hb.1.2.1
  have hpq := hb.2.2.1.2.1
  have hq := hb.2.2.1.2.2
  have hit := itC_lt (y := y) (p := y 4) (q := y 5) (r := r) (lo := lo) (K := K) hK0
  have htn := tN_lt hb hpq hq hK0 (lo := lo) hr
  refine sC (by decide) rfl (go_in (e9_0 (useC (upC (c233 (d := d) (x := 5127) (v := nI 0) rfl rfl (by decide)) (by omega)) fun vs N h => ?_)))
  obtain ⟨rfl, rfl⟩ := h
  refine e9_8 ?_
  have loop : ∀ j n N, n + j = tN y (y 4) (y 5) r lo K → Fr aCx M N → CHN y (itC y (y 4) (y 5) r lo K n) N → WM (d + 5) 9 (fun vs N => vs = [] ∧ Fr aCx M N ∧ EVC y (y 4) (y 5) r lo (fiC y (y 4) (y 5) r lo K) N ∧ CHN y (anC y (y 4) (y 5) r lo K) N) 12 [some (.ref 64), some (.int (nI 1)), some (.int (nI n))] [] N := by
    intro j
    induction j with
    | zero =>
      intro n N hn hF hC
      have hn : n = tN y (y 4) (y 5) r lo K := by omega
      refine go_in (e9_12 ⟨fun q => absurd q (by decide), fun _ => br_f (nI_ge (by omega) (by decide)) ?_⟩)
      refine useC (c10 (d := d) (hy.of hF (fun j _ => rfl) (fun j => rfl)) hb hK (hO.of hF rfl (fun j => rfl) (fun j => rfl)) hr hlo7 (hit n) hC) fun vs N2 h => ?_
      obtain ⟨rfl, hF2, hE⟩ := h
      have hF2' := hF.tr (hF2.up aEv_x)
      have hC2 : CHN y (itC y (y 4) (y 5) r lo K n) N2 := fun l hl => by rw [(hF2 5127 l rfl).1]; exact hC l hl
      refine e9_26 (useC (upC (c11 (d := d) (b := false) (hy.of hF2' (fun j _ => rfl) (fun j => rfl)) hb hpq hq hK0 hK (hO.of hF2' rfl (fun j => rfl) (fun j => rfl)) hr hlo (hit n) hE hC2) (by omega)) fun vs N3 h => ?_)
      obtain ⟨rfl, hF3, hC3⟩ := h
      have hF3' := hF2'.tr (hF3.up aCho_x)
      have him : imC y (y 4) (y 5) r lo K (itC y (y 4) (y 5) r lo K n) = false := by rw [hn]; exact tN_im hb hpq hq hK0 (lo := lo) hr
      rw [him]
      have hE3 := hE.of hF3 rfl rfl (fun j => rfl) (fun j => rfl)
      have hmr : ∀ l, l ≤ y 0 → mrC y (y 4) (y 5) r lo K (itC y (y 4) (y 5) r lo K n) l = false := fun l hl => by
        cases h : mrC y (y 4) (y 5) r lo K (itC y (y 4) (y 5) r lo K n) l with
        | false => rfl
        | true =>
          have : imC y (y 4) (y 5) r lo K (itC y (y 4) (y 5) r lo K n) = true := anB_t (m := l) h (by omega)
          rw [him] at this
          cases this
      have hC4 : CHN y (itC y (y 4) (y 5) r lo K n) N3 := fun l hl => by
        have h4 : N3.1 5127 l = nI (if (mrC y (y 4) (y 5) r lo K (itC y (y 4) (y 5) r lo K n) l || false) = true then bst (vC y (y 4) (y 5) r lo (itC y (y 4) (y 5) r lo K n) l) K else itC y (y 4) (y 5) r lo K n l) := hC3 l hl
        rw [hmr l hl] at h4
        exact h4
      refine e9_31 (go_in (e9_12 ⟨fun _ => go_in (e9_38 ?_), fun q => absurd rfl q⟩))
      refine useC (upC (c11 (d := d) (b := true) (hy.of hF3' (fun j _ => rfl) (fun j => rfl)) hb hpq hq hK0 hK (hO.of hF3' rfl (fun j => rfl) (fun j => rfl)) hr hlo (hit n) hE3 hC4) (by omega)) fun vs N5 h => ?_
      obtain ⟨rfl, hF5, hC5⟩ := h
      refine e9_43 ⟨rfl, rfl, hF3'.tr (hF5.up aCho_x), ?_, fun l hl => ?_⟩
      · unfold fiC
        rw [← hn]
        exact hE3.of hF5 rfl rfl (fun j => rfl) (fun j => rfl)
      · have h6 : N5.1 5127 l = nI (if (mrC y (y 4) (y 5) r lo K (itC y (y 4) (y 5) r lo K n) l || true) = true then bst (vC y (y 4) (y 5) r lo (itC y (y 4) (y 5) r lo K n) l) K else itC y (y 4) (y 5) r lo K n l) := hC5 l hl
        rw [Bool.or_true, if_pos rfl] at h6
        rw [h6]
        unfold anC fiC
        rw [← hn]
    | succ j ih =>
      intro n N hn hF hC
      refine go_in (e9_12 ⟨fun q => absurd q (by decide), fun _ => br_f (nI_ge (by omega) (by decide)) ?_⟩)
      refine useC (c10 (d := d) (hy.of hF (fun j _ => rfl) (fun j => rfl)) hb hK (hO.of hF rfl (fun j => rfl) (fun j => rfl)) hr hlo7 (hit n) hC) fun vs N2 h => ?_
      obtain ⟨rfl, hF2, hE⟩ := h
      have hF2' := hF.tr (hF2.up aEv_x)
      have hC2 : CHN y (itC y (y 4) (y 5) r lo K n) N2 := fun l hl => by rw [(hF2 5127 l rfl).1]; exact hC l hl
      refine e9_26 (useC (upC (c11 (d := d) (b := false) (hy.of hF2' (fun j _ => rfl) (fun j => rfl)) hb hpq hq hK0 hK (hO.of hF2' rfl (fun j => rfl) (fun j => rfl)) hr hlo (hit n) hE hC2) (by omega)) fun vs N3 h => ?_)
      obtain ⟨rfl, hF3, hC3⟩ := h
      have hF3' := hF2'.tr (hF3.up aCho_x)
      have him : imC y (y 4) (y 5) r lo K (itC y (y 4) (y 5) r lo K n) = true := tN_no (show n < _ by omega)
      rw [him]
      refine e9_31 ?_
      rw [nI_s]
      refine ih (n + 1) N3 (by omega) hF3' fun l hl => ?_
      have h4 : N3.1 5127 l = nI (if (mrC y (y 4) (y 5) r lo K (itC y (y 4) (y 5) r lo K n) l || false) = true then bst (vC y (y 4) (y 5) r lo (itC y (y 4) (y 5) r lo K n) l) K else itC y (y 4) (y 5) r lo K n l) := hC3 l hl
      rw [Bool.or_false] at h4
      exact h4
  refine loop (tN y (y 4) (y 5) r lo K) 0 _ (Nat.zero_add _) (Fr.rf.fI fun j => rfl) fun l hl => ?_
  rw [fI_v, if_pos ⟨rfl, by show l < 8; omega⟩]
  rfl
end EV
