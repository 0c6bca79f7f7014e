/-! Those who see near: the class's. -/
def nrG (y : Nat → Nat) (p q : Nat) (r : Nat → Nat → Int) (lo : Nat → Nat → Nat) (R : Nat → Int) (n l k : Nat) : Int := r l k * ((q : Int) * (y 6 : Int)) ^ n + (p : Int) * aws y R (lo l k) 4
def nrV (y : Nat → Nat) (p q : Nat) (r : Nat → Nat → Int) (lo : Nat → Nat → Nat) (K : Nat) : Nat → Nat → Int
  | 0 => fun _ => 0
  | n + 1 => fun l => nrG y p q r lo (nrV y p q r lo K n) n l (bst (nrG y p q r lo (nrV y p q r lo K n) n l) K)
theorem pow_65 {e : Int} (h0 : 0 ≤ e) (h : e ≤ 65) : ∀ n : Nat, e ^ n ≤ 65 ^ n ∧ 0 ≤ e ^ n
  | 0 => by
    rw [Int.pow_zero, Int.pow_zero]
    exact ⟨by decide, by decide⟩
  | n + 1 => by
    obtain ⟨a, b⟩ := pow_65 h0 h n
    rw [Int.pow_succ, Int.pow_succ]
    exact ⟨Int.mul_le_mul a h h0 (Int.le_of_lt (Int.pow_pos (show (0 : Int) < 65 by decide))), Int.mul_nonneg b h0⟩
theorem bd_yr {y : Nat → Nat} {k0 : Int} (hb : YB y k0) {p q : Nat} (hpq : p < q) (hq : q ≤ 5) {X r : Int} (hX : 0 ≤ X) (hr : bd X r) {R : Nat → Int} {n : Nat} (hR : ∀ j, j ≤ y 0 → bd (X * 65 ^ n) (R j)) (low : Nat) : bd (X * 65 ^ (n + 1)) (r * ((q : Int) * (y 6 : Int)) ^ n + (p : Int) * aws y R low 4) := by
  obtain ⟨e1, e2⟩ := RY_20 hb hpq hq
  have hpn := pow_65 (e := (q : Int) * (y 6 : Int)) (by omega) (by omega) n
  have h1 : bd (X * 65 ^ n) (r * ((q : Int) * (y 6 : Int)) ^ n) := bd_mul hr ⟨by omega, hpn.1⟩
  have h2 := aws_bd (y := y) (fun r hr => y_part hb r hr) hR low 4 (by decide)
  have h3 : bd ((4 : Nat) * (((4 : Nat) : Int) * (4 * (X * 65 ^ n)))) ((p : Int) * aws y R low 4) := bd_mul (bd_n (by omega)) h2
  refine bd_le (bd_add h1 h3) ?_
  rw [Int.pow_succ]
  have e : X * ((65 : Int) ^ n * 65) = 65 * (X * 65 ^ n) := by grind
  rw [e]
  have h0 : 0 ≤ X * (65 : Int) ^ n := Int.mul_nonneg hX (Int.le_of_lt (Int.pow_pos (by decide)))
  omega
theorem pw65 : ∀ n, n < 9 → (7344 : Int) * 65 ^ n < 9223372036854775808 := by decide +kernel
section NR
variable {y : Nat → Nat} {k0 : Int} {p q : Nat} {r : Nat → Nat → Int} {lo : Nat → Nat → Nat} {K : Nat}
theorem nrV_bd (hb : YB y k0) (hpq : p < q) (hq : q ≤ 5) (hK : 0 < K) (hr : ∀ l k, l ≤ y 0 → k < K → bd 7344 (r l k)) : ∀ n l, l ≤ y 0 → bd (7344 * 65 ^ n) (nrV y p q r lo K n l)
  | 0, _, _ => ⟨by show -((7344 : Int) * 65 ^ 0) ≤ 0; decide, by show (0 : Int) ≤ 7344 * 65 ^ 0; decide⟩
  | n + 1, l, hl => bd_yr hb hpq hq (by decide) (hr l _ hl (bst_lt _ _ hK)) (fun j hj => nrV_bd hb hpq hq hK hr n j hj) _
theorem nrG_64 (hb : YB y k0) (hpq : p < q) (hq : q ≤ 5) (hK : 0 < K) (hr : ∀ l k, l ≤ y 0 → k < K → bd 7344 (r l k)) {n : Nat} (hn : n < 8) {l k : Nat} (hl : l ≤ y 0) (hk : k < K) : i64 (nrG y p q r lo (nrV y p q r lo K n) n l k) :=
  i64_of (bd_yr hb hpq hq (by decide) (hr l k hl hk) (fun j hj => nrV_bd hb hpq hq hK hr n j hj) _) (pw65 (n + 1) (by omega))
end NR
/-- the number chosen, so many years being left -/
def nrA (w : Nat → Nat) (ta : Nat → Nat → Nat → Nat) (f l n : Nat) : Nat := bst (nrG (YG w (f : Int)) (w 6) (w 7) (rG w ta (f : Int)) (lG w ta (f : Int)) (nrV (YG w (f : Int)) (w 6) (w 7) (rG w ta (f : Int)) (lG w ta (f : Int)) (ncd w (f : Int)) (n - 1)) (n - 1) l) (ncd w (f : Int))
section NC
variable {d : Nat} {M : Mm} {w : Nat → Nat} {ta : Nat → Nat → Nat → Nat}
theorem c14 (hb : WB w) {f l n : Nat} (hf : f < w 8) (hl : l ≤ w 0) (hn0 : 1 ≤ n) (hn : n ≤ 8) (hy : YR (YG w (f : Int)) (kW w) M) (hfo : FO (YG w (f : Int)) 41992 (foW w (w 10) (cstW w)) M) (hwa : WA (YG w (f : Int)) (waW w ta) M) : SC (d + 5) 14 [.ref 64, .int (nI f), .int (nI l), .int (nI n)] M (fun vs N => vs = [.int (nI (nrA w ta f l n))] ∧ Fr aCl M N) := by
  obtain ⟨w0, w8, w9⟩ := wb_w hb
  have wq := hb.2.2.1
  have hpt := hb.2.1.2
  have hyB := yB_of hb (rBy_lt hb (fm := (f : Int)))
  obtain ⟨hK0, hK1, -⟩ := ncd_bd hb (fm := (f : Int))
  have hrb := rG_bd (ta := ta) hb (fm := (f : Int)) (by omega)
  refine sC (by decide) rfl (go_in (e14_0 (useC (upC (c7 (d := d) hb hf hy hfo hwa) (by omega)) fun vs N h => ?_)))
  obtain ⟨rfl, hF, hO⟩ := h
  refine e14_5 (useC (upC (c232 (d := d) (x := 5125) (v := lN 0) rfl rfl (by decide)) (by omega)) fun vs N2 h => ?_)
  obtain ⟨rfl, rfl⟩ := h
  have hF2 : Fr aCl M (fJ N 5125 (len 5125) (lN 0)) := (hF.up aOf_cl).fJ fun j => rfl
  have hy0 := hy.of hF aOf_640 (fun j => rfl)
  refine e14_13 ?_
  have e5 : (fJ N 5125 (len 5125) (lN 0)).1 640 5 = nI (w 7) := hy0.2.1.2.1
  have e6 : (fJ N 5125 (len 5125) (lN 0)).1 640 6 = nI (w 2 + w 3 + w 4 + w 5) := hy0.2.1.2.2
  rw [e5, e6, lz_w (show w 7 < 2147483648 by omega), lz_w (show w 2 + w 3 + w 4 + w 5 < 2147483648 by omega), lz_mul]
  have loop : ∀ k j N' (o1 o5 o7 o9 : Option Value), j + 1 + k = n → Fr aCl M N' → YR (YG w (f : Int)) (kW w) N' → OFR (YG w (f : Int)) (ncd w (f : Int)) (rG w ta (f : Int)) (lG w ta (f : Int)) N' → LAT (YG w (f : Int)) (fun i => (w 6 : Int) * aws (YG w (f : Int)) (nrV (YG w (f : Int)) (w 6) (w 7) (rG w ta (f : Int)) (lG w ta (f : Int)) (ncd w (f : Int)) j) i 4) N' → WM (d + 4) 14 (fun vs N => vs = [.int (nI (nrA w ta f l n))] ∧ Fr aCl M N) 38 [some (.ref 64), o1, some (.int (nI l)), some (.int (nI n)), some (.long (lz ((w 7 : Int) * ((w 2 + w 3 + w 4 + w 5 : Nat) : Int)))), o5, some (.long (lz (((w 7 : Int) * ((w 2 + w 3 + w 4 + w 5 : Nat) : Int)) ^ j))), o7, some (.int (nI (j + 1))), o9] [] N' := by
    intro k
    induction k with
    | zero =>
      intro j N' o1 o5 o7 o9 hj hF hy hO hL
      have hj : n = j + 1 := by omega
      refine go_in (e14_38 (br_t (by rw [hj]; exact nI_le (Nat.le_refl _) (by omega)) (go_in (e14_152 ?_))))
      refine useC (upC (c12 (d := d) hyB hK0 hK1 hO hL hrb (lG_y hb) hl fun k hk => nrG_64 hyB wq.2.1 wq.2.2 hK0 hrb (by omega) hl hk) (by omega)) fun vs N2 h => ?_
      obtain ⟨rfl, rfl⟩ := h
      refine e14_159 ⟨rfl, ?_, hF⟩
      rw [show n = j + 1 from hj]
      rfl
    | succ k ih =>
      intro j N' o1 o5 o7 o9 hj hF hy hO hL
      refine go_in (e14_38 (br_f (nI_ge (by omega) (by omega)) ?_))
      -- the second half
      have P2 : ∀ m i N2 (o1 o5 o7 : Option Value), i + m = w 0 + 1 → Fr aCl M N2 → YR (YG w (f : Int)) (kW w) N2 → OFR (YG w (f : Int)) (ncd w (f : Int)) (rG w ta (f : Int)) (lG w ta (f : Int)) N2 → (∀ i, i ≤ w 0 → N2.2.1 5126 i = lz (nrV (YG w (f : Int)) (w 6) (w 7) (rG w ta (f : Int)) (lG w ta (f : Int)) (ncd w (f : Int)) (j + 1) i)) → (∀ i', i' < i → N2.2.1 5125 i' = lz ((w 6 : Int) * aws (YG w (f : Int)) (nrV (YG w (f : Int)) (w 6) (w 7) (rG w ta (f : Int)) (lG w ta (f : Int)) (ncd w (f : Int)) (j + 1)) i' 4)) → WM (d + 4) 14 (fun vs N => vs = [.int (nI (nrA w ta f l n))] ∧ Fr aCl M N) 91 [some (.ref 64), o1, some (.int (nI l)), some (.int (nI n)), some (.long (lz ((w 7 : Int) * ((w 2 + w 3 + w 4 + w 5 : Nat) : Int)))), o5, some (.long (lz (((w 7 : Int) * ((w 2 + w 3 + w 4 + w 5 : Nat) : Int)) ^ j))), o7, some (.int (nI (j + 1))), some (.int (nI i))] [] N2 := by
        intro m
        induction m with
        | zero =>
          intro i N2 o1 o5 o7 hi hF hy hO hH hL
          have hi : i = w 0 + 1 := by omega
          subst hi
          refine go_in (e14_91 ?_)
          rw [hy.1.1]
          refine br_t (nI_lt (show w 0 < w 0 + 1 by omega) (by omega)) (go_in (e14_139 ?_))
          rw [lz_mul, ← Int.pow_succ, nI_s]
          exact ih (j + 1) N2 _ _ _ _ (by omega) hF hy hO fun i hi => hL i (by have : i ≤ w 0 := hi; omega)
        | succ m ih2 =>
          intro i N2 o1 o5 o7 hi hF hy hO hH hL
          refine go_in (e14_91 ?_)
          rw [hy.1.1]
          refine br_f (nI_nlt (show i ≤ w 0 by omega) (show w 0 < 2147483648 by omega)) ?_
          refine useC (upC (c74 (d := d) (x := 5126) (off := 0) (low := i) (R := nrV (YG w (f : Int)) (w 6) (w 7) (rG w ta (f : Int)) (lG w ta (f : Int)) (ncd w (f : Int)) (j + 1)) hy hyB rfl rfl (show 0 + w 0 < 8 by omega) (by decide) (fun i hi => by rw [Nat.zero_add]; exact hH i hi) (by omega)) (by omega)) fun vs N3 h => ?_
          obtain ⟨rfl, rfl⟩ := h
          refine e14_131 ⟨nI_in2 (by omega) (by decide), ?_⟩
          have e4 : N3.1 640 4 = nI (w 6) := hy.2.1.1
          rw [nI_c (by omega), e4, lz_w (show w 6 < 2147483648 by omega), lz_mul, nI_s]
          refine ih2 (i + 1) (sJ N3 5125 i _) _ _ _ (by omega) (hF.sJ rfl) hy hO (fun i' hi' => by rw [sJ_v, if_neg (by omega)]; exact hH i' hi') fun i' hi' => ?_
          rw [sJ_v]
          by_cases e : i' = i
          · rw [if_pos ⟨rfl, e⟩, e]
          · rw [if_neg (fun q => e q.2)]; exact hL i' (by omega)
      have P1 : ∀ m i N2 (o1 o5 o7 : Option Value), i + m = w 0 + 1 → Fr aCl M N2 → YR (YG w (f : Int)) (kW w) N2 → OFR (YG w (f : Int)) (ncd w (f : Int)) (rG w ta (f : Int)) (lG w ta (f : Int)) N2 → LAT (YG w (f : Int)) (fun i => (w 6 : Int) * aws (YG w (f : Int)) (nrV (YG w (f : Int)) (w 6) (w 7) (rG w ta (f : Int)) (lG w ta (f : Int)) (ncd w (f : Int)) j) i 4) N2 → (∀ i', i' < i → N2.2.1 5126 i' = lz (nrV (YG w (f : Int)) (w 6) (w 7) (rG w ta (f : Int)) (lG w ta (f : Int)) (ncd w (f : Int)) (j + 1) i')) → WM (d + 4) 14 (fun vs N => vs = [.int (nI (nrA w ta f l n))] ∧ Fr aCl M N) 47 [some (.ref 64), o1, some (.int (nI l)), some (.int (nI n)), some (.long (lz ((w 7 : Int) * ((w 2 + w 3 + w 4 + w 5 : Nat) : Int)))), o5, some (.long (lz (((w 7 : Int) * ((w 2 + w 3 + w 4 + w 5 : Nat) : Int)) ^ j))), o7, some (.int (nI (j + 1))), some (.int (nI i))] [] N2 := by
        intro m
        induction m with
        | zero =>
          intro i N2 o1 o5 o7 hi hF hy hO hL hH
          have hi : i = w 0 + 1 := by omega
          subst hi
          refine go_in (e14_47 ?_)
          rw [hy.1.1]
          exact br_t (nI_lt (show w 0 < w 0 + 1 by omega) (by omega)) (go_in (e14_88 (P2 (w 0 + 1) 0 N2 _ _ _ (by omega) hF hy hO (fun i hi => hH i (by omega)) fun i' hi' => absurd hi' (Nat.not_lt_zero _))))
        | succ m ih2 =>
          intro i N2 o1 o5 o7 hi hF hy hO hL hH
          refine go_in (e14_47 ?_)
          rw [hy.1.1]
          have hiy : i ≤ w 0 := by omega
          refine br_f (nI_nlt (show i ≤ w 0 by omega) (show w 0 < 2147483648 by omega)) ?_
          refine useC (upC (c12 (d := d) hyB hK0 hK1 hO hL hrb (lG_y hb) hiy fun k hk => nrG_64 hyB wq.2.1 wq.2.2 hK0 hrb (by omega) hiy hk) (by omega)) fun vs N3 h => ?_
          obtain ⟨rfl, rfl⟩ := h
          refine e14_76 (useC (upC (c13 (d := d) hyB hK1 hO hL hrb (lG_y hb) hiy (bst_lt _ _ hK0)) (by omega)) fun vs N4 h => ?_)
          obtain ⟨rfl, rfl⟩ := h
          refine e14_81 ⟨nI_in2 (by omega) (by decide), ?_⟩
          rw [nI_c (by omega), nI_s]
          refine ih2 (i + 1) (sJ N4 5126 i _) _ _ _ (by omega) (hF.sJ rfl) hy hO (fun i' hi' => by rw [sJ_v, if_neg (by omega)]; exact hL i' hi') fun i' hi' => ?_
          rw [sJ_v]
          by_cases e : i' = i
          · rw [if_pos ⟨rfl, e⟩, e]
            rfl
          · rw [if_neg (fun q => e q.2)]; exact hH i' (by omega)
      exact P1 (w 0 + 1) 0 N' _ _ _ (by omega) hF hy hO hL fun i' hi' => absurd hi' (Nat.not_lt_zero _)
  have hL0 : LAT (YG w (f : Int)) (fun i => (w 6 : Int) * aws (YG w (f : Int)) (nrV (YG w (f : Int)) (w 6) (w 7) (rG w ta (f : Int)) (lG w ta (f : Int)) (ncd w (f : Int)) 0) i 4) (fJ N 5125 (len 5125) (lN 0)) := fun i hi => by
    have h0 : aws (YG w (f : Int)) (nrV (YG w (f : Int)) (w 6) (w 7) (rG w ta (f : Int)) (lG w ta (f : Int)) (ncd w (f : Int)) 0) i 4 = 0 := by
      have := aws_con hyB 0 i
      rw [Int.zero_mul] at this
      exact this
    rw [fJ_v, if_pos ⟨rfl, show i < 8 by have : i ≤ w 0 := hi; omega⟩]
    show lN 0 = lz ((w 6 : Int) * aws (YG w (f : Int)) (nrV (YG w (f : Int)) (w 6) (w 7) (rG w ta (f : Int)) (lG w ta (f : Int)) (ncd w (f : Int)) 0) i 4)
    rw [h0, Int.mul_zero]
    rfl
  exact loop (n - 1) 0 _ _ _ _ _ (by omega) hF2 hy0 (hO.of ((Fr.rf (P := fun k _ => Nat.beq k 5125)).fJ fun j => rfl) rfl (fun j => rfl) (fun j => rfl)) hL0
theorem c108 (hT : TR 512 w ta M) (hb : WB w) {f l n : Nat} (hf : f < w 8) (hl : l ≤ w 0) (hn0 : 1 ≤ n) (hn : n ≤ 8) : SC (d + 6) 108 [.ref 704, .int (nI f), .int (nI l), .int (nI n)] M (fun vs N => vs = [.int (nI (nrA w ta f l n))] ∧ Fr aCl M N) := by
  obtain ⟨w0, w8, w9⟩ := wb_w hb
  refine sC (by decide) rfl (go_in (e108_0 (Or.inl ?_)))
  rw [iz_n f]
  refine useC (upC (c117 (d := d) hT hb ⟨by omega, by omega⟩ ⟨by omega, by omega⟩) (by omega)) fun vs N h => ?_
  obtain ⟨rfl, rfl⟩ := h
  refine e108_5 (Or.inl ?_)
  rw [iz_n l]
  refine useC (upC (c118 (d := d) hT hb ⟨by omega, by omega⟩ ⟨by omega, by omega⟩) (by omega)) fun vs N h => ?_
  obtain ⟨rfl, rfl⟩ := h
  refine e108_10 (Or.inl ?_)
  rw [iz_n n, iz_n 1, iz_n 8]
  refine useC (upC (c120 (d := d) (x := (n : Int)) (i32_n (by omega)) (i32_n (by omega)) (i32_n (by omega)) (by omega) (by omega)) (by omega)) fun vs N h => ?_
  obtain ⟨rfl, rfl⟩ := h
  rw [iz_nn, iz_nn, iz_nn]
  refine e108_17 (useC (upC (c61 (d := d) hT hb) (by omega)) fun vs N1 h => ?_)
  obtain ⟨rfl, hF1, hY1⟩ := h
  have hr := rBy_at (w := w) (f := f)
  refine e108_28 (useC (c14 (d := d) (ta := ta) hb hf hl hn0 hn (by rw [YG_at]; exact hY1.1) (by rw [YG_at]; exact hY1.2.1) (by rw [YG_at]; exact hY1.2.2.2)) fun vs N2 h => ?_)
  obtain ⟨rfl, hF2⟩ := h
  exact e108_38 ⟨rfl, rfl, (hF1.up aYr_cl).tr hF2⟩
end NC
