/-! Rows of rain, counted backwards: the class's. -/
def NN (w : Nat → Nat) : Int := ((w 2 + w 3 + w 4 + w 5 : Nat) : Int)
def dyD (y lo : Nat → Nat) (N : Int) : Nat → Nat → Int
  | 0 => fun _ => 0
  | j + 1 => fun l => aws y (fun k => if k = 0 then N ^ j else dyD y lo N j k) (lo l) 4
def ptP (y lo : Nat → Nat) (g : Nat → Nat) (N : Int) : Nat → Nat → Int
  | 0 => fun _ => 0
  | j + 1 => fun l => (g l : Int) * N ^ (j + 1) + aws y (ptP y lo g N j) (lo l) 4
/-- low levels by the draws, and what a farm then gets -/
abbrev loD (w : Nat → Nat) (ta : Nat → Nat → Nat → Nat) : Nat → Nat := loV w (w 10) (waW w ta 0)
def gtD (w : Nat → Nat) (ta : Nat → Nat → Nat → Nat) (f l : Nat) : Nat := gt (waW w ta 0 l) (l - w (32 + 5 * w 10 + 1)) f
def drA (w : Nat → Nat) (ta : Nat → Nat → Nat → Nat) (l n : Nat) : Int := dyD (yW w (w 10)) (loD w ta) (NN w) n l
def paA (w : Nat → Nat) (ta : Nat → Nat → Nat → Nat) (f l n : Nat) : Int := ptP (yW w (w 10)) (loD w ta) (gtD w ta f) (NN w) n l
def moA (w : Nat → Nat) (ta : Nat → Nat → Nat → Nat) (l n : Nat) : Int := if w 8 = 0 then -1 else ((bst (fun f => paA w ta f l n) (w 8) : Nat) : Int)
def laA (w : Nat → Nat) (ta : Nat → Nat → Nat → Nat) : Nat → Nat → Nat → Int
  | 0, _, _ => -1
  | k + 1, yr, l => if l = 0 then (yr : Int) else laA w ta k (yr + 1) (loD w ta l)
theorem loD_at {w : Nat → Nat} {ta : Nat → Nat → Nat → Nat} {l : Nat} (h : l ≤ 7) : loD w ta l = lowS (yW w (w 10)) (kW w) (waW w ta 0 l) l := if_pos h
theorem loD_y {w : Nat → Nat} {ta : Nat → Nat → Nat → Nat} {l : Nat} (h : l ≤ w 0) : loD w ta l ≤ w 0 := by
  unfold loD loV
  split
  · exact Nat.le_trans lowS_le h
  · exact Nat.zero_le _
theorem NN_bd {w : Nat → Nat} (hb : WB w) : 1 ≤ NN w ∧ NN w ≤ 4 := by
  have := hb.2.1.2
  unfold NN
  omega
theorem pow_4 {e : Int} (h0 : 0 ≤ e) (h : e ≤ 4) : ∀ n : Nat, e ^ n ≤ 65 ^ n ∧ 0 ≤ e ^ n := pow_65 h0 (by omega)
theorem paA_bd {w : Nat → Nat} {ta : Nat → Nat → Nat → Nat} (hb : WB w) {f : Nat} : ∀ n l, l ≤ w 0 → bd (3 * 20 ^ n) (paA w ta f l n)
  | 0, l, _ => ⟨by show -((3 : Int) * 20 ^ 0) ≤ 0; decide, by show (0 : Int) ≤ 3 * 20 ^ 0; decide⟩
  | n + 1, l, hl => by
    have hN := NN_bd hb
    have w10 : w 10 < w 9 := hb.2.2.2.1.2.2.1
    have hp : ∀ m : Nat, NN w ^ m ≤ 4 ^ m ∧ 0 ≤ NN w ^ m := fun m => by
      induction m with
      | zero => rw [Int.pow_zero, Int.pow_zero]; exact ⟨by decide, by decide⟩
      | succ m ih =>
        rw [Int.pow_succ, Int.pow_succ]
        exact ⟨Int.mul_le_mul ih.1 hN.2 (by omega) (Int.le_of_lt (Int.pow_pos (show (0 : Int) < 4 by decide))), Int.mul_nonneg ih.2 (by omega)⟩
    have h4 : ∀ m : Nat, (4 : Int) ^ m ≤ 20 ^ m := fun m => by
      induction m with
      | zero => exact Int.le_refl _
      | succ m ih =>
        rw [Int.pow_succ, Int.pow_succ]
        exact Int.mul_le_mul ih (by decide) (by decide) (Int.le_of_lt (Int.pow_pos (show (0 : Int) < 20 by decide)))
    have hg : gtD w ta f l ≤ 3 := Nat.le_trans gt_le wbd_le
    have hq := hp (n + 1)
    have h1 : bd (((3 : Nat) : Int) * (4 * 20 ^ n)) ((gtD w ta f l : Int) * NN w ^ (n + 1)) := bd_mul (bd_n hg) ⟨by
      have : 0 ≤ (4 : Int) * 20 ^ n := Int.mul_nonneg (by decide) (Int.le_of_lt (Int.pow_pos (show (0 : Int) < 20 by decide)))
      omega, by
      have e : (4 : Int) ^ (n + 1) = 4 * 4 ^ n := by rw [Int.pow_succ, Int.mul_comm]
      have := h4 n
      omega⟩
    have h2 := aws_bd (y := yW w (w 10)) (fun r hr => y_part (yB_of hb w10) r hr) (X := 3 * 20 ^ n) (R := fun l => paA w ta f l n) (fun j hj => paA_bd hb n j hj) (loD w ta l) 4 (by decide)
    have h3 := bd_add h1 h2
    have e : (((3 : Nat) : Int) * (4 * 20 ^ n)) + ((4 : Nat) : Int) * (4 * (3 * 20 ^ n)) = 3 * 20 ^ (n + 1) := by
      rw [Int.pow_succ]
      have : (0 : Int) ≤ 20 ^ n := Int.le_of_lt (Int.pow_pos (show (0 : Int) < 20 by decide))
      omega
    rw [e] at h3
    exact h3
theorem paA_64 {w : Nat → Nat} {ta : Nat → Nat → Nat → Nat} (hb : WB w) {f l n : Nat} (hl : l ≤ w 0) (hn : n ≤ 12) : i64 (paA w ta f l n) := by
  have h := paA_bd (ta := ta) hb (f := f) n l hl
  have h2 : ∀ m, m < 13 → (3 : Int) * 20 ^ m < 9223372036854775808 := by decide
  exact i64_of h (h2 n (by omega))
def aRo (k j : Nat) : Bool := aPumpBy k j || (Nat.beq k 21505 || Nat.beq k 21506)
theorem aPB_ro : ∀ k j, aPumpBy k j = true → aRo k j = true := fun k j h => by unfold aRo; rw [h]; rfl
theorem aRo_640 : ∀ j, j < 7 → aRo 640 j = false := by decide
theorem aRo_cl : ∀ k j, aRo k j = true → aCl k j = true := fun k j h => by
  unfold aRo at h
  simp only [Bool.or_eq_true, Nat.beq_eq] at h
  rcases h with h | h
  · exact aPB_cl k j h
  · exact aCl_t.mpr (by omega)
section RO
variable {d : Nat} {M : Mm} {w : Nat → Nat} {ta : Nat → Nat → Nat → Nat}
theorem c41 (hb : WB w) (hy : YR (yW w (w 10)) (kW w) M) (hwa : WA (yW w (w 10)) (waW w ta) M) {l n : Nat} (hl : l ≤ w 0) (hn : n ≤ 20) : SC (d + 4) 41 [.ref 320, .int (nI l), .int (nI n)] M (fun vs N => vs = [.long (lz (drA w ta l n))] ∧ Fr aRo M N) := by
  obtain ⟨w0, w8, w9⟩ := wb_w hb
  have hpt := hb.2.1.2
  have w10 : w 10 < w 9 := hb.2.2.2.1.2.2.1
  have hyB := yB_of hb w10
  refine sC (by decide) rfl (go_in (e41_0 (useC (upC (c232 (d := d) (x := 21505) (v := lN 0) rfl rfl (by decide)) (by omega)) fun vs N h => ?_)))
  obtain ⟨rfl, rfl⟩ := h
  refine e41_8 ?_
  have loop : ∀ k j N (o4 o6 : Option Value), j + k = n → Fr aRo M N → (∀ i, i ≤ w 0 → N.2.1 21505 i = lz (dyD (yW w (w 10)) (loD w ta) (NN w) j i)) → WM (d + 3) 41 (fun vs N => vs = [.long (lz (drA w ta l n))] ∧ Fr aRo M N) 13 [some (.ref 320), some (.int (nI l)), some (.int (nI n)), some (.long (lz (NN w ^ j))), o4, some (.int (nI (j + 1))), o6] [] N := by
    intro k
    induction k with
    | zero =>
      intro j N o4 o6 hj hF hH
      have hj : j = n := by omega
      subst hj
      refine go_in (e41_13 (br_t (nI_lt (by omega) (by omega)) (go_in (e41_115 ⟨nI_in2 (by omega) (by decide), rfl, ?_, hF⟩))))
      rw [nI_c (by omega), hH l hl]
      rfl
    | succ k ih =>
      intro j N o4 o6 hj hF hH
      refine go_in (e41_13 (br_f (nI_nlt (by omega) (by omega)) ⟨nI_in2 (by decide) (by decide), ?_⟩))
      rw [nI_c (by decide)]
      have P : ∀ m i N, i + m = w 0 + 1 → Fr aRo M N → (∀ i, i ≤ w 0 → N.2.1 21505 i = lz (if i = 0 then NN w ^ j else dyD (yW w (w 10)) (loD w ta) (NN w) j i)) → (∀ i', i' < i → N.2.1 21506 i' = lz (dyD (yW w (w 10)) (loD w ta) (NN w) (j + 1) i')) → WM (d + 3) 41 (fun vs N => vs = [.long (lz (drA w ta l n))] ∧ Fr aRo M N) 29 [some (.ref 320), some (.int (nI l)), some (.int (nI n)), some (.long (lz (NN w ^ j))), none, some (.int (nI (j + 1))), some (.int (nI i))] [] N := by
        intro m
        induction m with
        | zero =>
          intro i N hi hF hH hf
          have hi : i = w 0 + 1 := by omega
          subst hi
          have e6 : N.1 640 6 = nI (w 2 + w 3 + w 4 + w 5) := by rw [(hF 640 6 rfl).1]; exact hy.2.1.2.2
          refine go_in (e41_29 ?_)
          rw [(hF 640 0 rfl).1, hy.1.1]
          refine br_t (nI_lt (show w 0 < w 0 + 1 by omega) (by omega)) (go_in (e41_83 ⟨⟨by decide, by decide, by decide, by decide, by decide⟩, ?_⟩))
          rw [nI_c (by decide), nI_c (by decide)]
          have e6' : (cpJ N 21506 21505 0 0 8).1 640 6 = nI (w 2 + w 3 + w 4 + w 5) := e6
          rw [e6', lz_w (show w 2 + w 3 + w 4 + w 5 < 2147483648 by omega), lz_mul, nI_s]
          have ep : NN w ^ j * ((w 2 + w 3 + w 4 + w 5 : Nat) : Int) = NN w ^ (j + 1) := (Int.pow_succ _ _).symm
          rw [ep]
          refine ih (j + 1) _ _ _ (by omega) (hF.cpJ fun b _ _ => rfl) fun i hi => ?_
          rw [cpJ_v, if_pos ⟨rfl, Nat.zero_le _, by omega⟩, Nat.zero_add, Nat.sub_zero]
          exact hf i (by omega)
        | succ m ih2 =>
          intro i N hi hF hH hf
          refine go_in (e41_29 ?_)
          rw [(hF 640 0 rfl).1, hy.1.1]
          refine br_f (nI_nlt (show i ≤ w 0 by omega) (show w 0 < 2147483648 by omega)) ?_
          refine useC (c68 (d := d) (hy.of hF aRo_640 (fun j => rfl)) hyB (hwa.of hF (fun j => rfl)) (fun b l f => wbd_le) (l := i) (b := 0) (show i ≤ w 0 by omega) (by decide)) fun vs N2 h => ?_
          obtain ⟨rfl, hF2, -, hP⟩ := h
          have hF2' := hF.tr (hF2.up aPB_ro)
          refine e41_51 ?_
          rw [hP.2.1]
          refine useC (c74 (d := d) (x := 21505) (off := 0) (low := lowS (yW w (w 10)) (kW w) (waW w ta 0 i) i) (R := fun i => if i = 0 then NN w ^ j else dyD (yW w (w 10)) (loD w ta) (NN w) j i) (hy.of hF2' aRo_640 (fun j => rfl)) hyB rfl rfl (show 0 + w 0 < 8 by omega) (by decide) (fun i hi => by rw [Nat.zero_add, (hF2 21505 i rfl).2.1]; exact hH i hi) (Nat.le_trans lowS_le (by omega))) fun vs N3 h => ?_
          obtain ⟨rfl, rfl⟩ := h
          refine e41_76 ⟨nI_in2 (by omega) (by decide), ?_⟩
          rw [nI_c (by omega), nI_s]
          refine ih2 (i + 1) _ (by omega) (hF2'.sJ rfl) (fun i hi => by rw [sJ_v, if_neg (by omega), (hF2 21505 i rfl).2.1]; exact hH i hi) fun i' hi' => ?_
          rw [sJ_v]
          by_cases e : i' = i
          · rw [if_pos ⟨rfl, e⟩, e, ← loD_at (show i ≤ 7 by omega)]
            rfl
          · rw [if_neg (fun q => e q.2), (hF2 21506 i' rfl).2.1]; exact hf i' (by omega)
      refine P (w 0 + 1) 0 _ (by omega) (hF.sJ rfl) (fun i hi => ?_) fun i' h => absurd h (Nat.not_lt_zero _)
      rw [sJ_v]
      by_cases e : i = 0
      · rw [if_pos ⟨rfl, e⟩, if_pos e]
      · rw [if_neg (fun q => e q.2), if_neg e]; exact hH i hi
  refine loop n 0 _ _ _ (by omega) (Fr.rf.fJ fun j => rfl) fun i hi => ?_
  rw [fJ_v, if_pos ⟨rfl, show i < 8 by omega⟩]
  rfl
theorem c42 (hb : WB w) (hy : YR (yW w (w 10)) (kW w) M) (hwa : WA (yW w (w 10)) (waW w ta) M) {f l n : Nat} (hf : f < w 8) (hl : l ≤ w 0) (hn : n ≤ 12) : SC (d + 4) 42 [.ref 320, .int (nI f), .int (nI l), .int (nI n)] M (fun vs N => vs = [.long (lz (paA w ta f l n))] ∧ Fr aRo M N) := by
  obtain ⟨w0, w8, w9⟩ := wb_w hb
  have hpt := hb.2.1.2
  have w10 : w 10 < w 9 := hb.2.2.2.1.2.2.1
  have hyB := yB_of hb w10
  refine sC (by decide) rfl (go_in (e42_0 (useC (upC (c232 (d := d) (x := 21505) (v := lN 0) rfl rfl (by decide)) (by omega)) fun vs N h => ?_)))
  obtain ⟨rfl, rfl⟩ := h
  refine e42_8 ?_
  have loop : ∀ k j N (o1 o5 o7 : Option Value), j + k = n → o1 = some (.int (nI f)) → Fr aRo M N → (∀ i, i ≤ w 0 → N.2.1 21505 i = lz (ptP (yW w (w 10)) (loD w ta) (gtD w ta f) (NN w) j i)) → WM (d + 3) 42 (fun vs N => vs = [.long (lz (paA w ta f l n))] ∧ Fr aRo M N) 14 [some (.ref 320), o1, some (.int (nI l)), some (.int (nI n)), some (.long (lz (NN w ^ j))), o5, some (.int (nI (j + 1))), o7] [] N := by
    intro k
    induction k with
    | zero =>
      intro j N o1 o5 o7 hj ho hF hH
      subst ho
      have hj : j = n := by omega
      subst hj
      refine go_in (e42_14 (br_t (nI_lt (by omega) (by omega)) (go_in (e42_125 ⟨nI_in2 (by omega) (by decide), rfl, ?_, hF⟩))))
      rw [nI_c (by omega), hH l hl]
      rfl
    | succ k ih =>
      intro j N o1 o5 o7 hj ho hF hH
      subst ho
      refine go_in (e42_14 (br_f (nI_nlt (by omega) (by omega)) ?_))
      have e6 : N.1 640 6 = nI (w 2 + w 3 + w 4 + w 5) := by rw [(hF 640 6 rfl).1]; exact hy.2.1.2.2
      have ep : NN w ^ j * ((w 2 + w 3 + w 4 + w 5 : Nat) : Int) = NN w ^ (j + 1) := (Int.pow_succ _ _).symm
      rw [e6, lz_w (show w 2 + w 3 + w 4 + w 5 < 2147483648 by omega), lz_mul, ep]
      have P : ∀ m i N, i + m = w 0 + 1 → Fr aRo M N → (∀ i, i ≤ w 0 → N.2.1 21505 i = lz (ptP (yW w (w 10)) (loD w ta) (gtD w ta f) (NN w) j i)) → (∀ i', i' < i → N.2.1 21506 i' = lz (ptP (yW w (w 10)) (loD w ta) (gtD w ta f) (NN w) (j + 1) i')) → WM (d + 3) 42 (fun vs N => vs = [.long (lz (paA w ta f l n))] ∧ Fr aRo M N) 36 [some (.ref 320), some (.int (nI f)), some (.int (nI l)), some (.int (nI n)), some (.long (lz (NN w ^ (j + 1)))), none, some (.int (nI (j + 1))), some (.int (nI i))] [] N := by
        intro m
        induction m with
        | zero =>
          intro i N hi hF hH hf
          have hi : i = w 0 + 1 := by omega
          subst hi
          refine go_in (e42_36 ?_)
          rw [(hF 640 0 rfl).1, hy.1.1]
          refine br_t (nI_lt (show w 0 < w 0 + 1 by omega) (by omega)) (go_in (e42_104 ⟨⟨by decide, by decide, by decide, by decide, by decide⟩, ?_⟩))
          rw [nI_c (by decide), nI_c (by decide), nI_s]
          refine ih (j + 1) _ _ _ _ (by omega) rfl (hF.cpJ fun b _ _ => rfl) fun i hi => ?_
          rw [cpJ_v, if_pos ⟨rfl, Nat.zero_le _, by omega⟩, Nat.zero_add, Nat.sub_zero]
          exact hf i (by omega)
        | succ m ih2 =>
          intro i N hi hF hH hfr
          have hiw : i ≤ w 0 := by omega
          refine go_in (e42_36 ?_)
          rw [(hF 640 0 rfl).1, hy.1.1]
          refine br_f (nI_nlt (show i ≤ w 0 by omega) (show w 0 < 2147483648 by omega)) ?_
          refine useC (c68 (d := d) (hy.of hF aRo_640 (fun j => rfl)) hyB (hwa.of hF (fun j => rfl)) (fun b l f => wbd_le) (l := i) (b := 0) (show i ≤ w 0 by omega) (by decide)) fun vs N2 h => ?_
          obtain ⟨rfl, hF2, -, hP⟩ := h
          have hF2' := hF.tr (hF2.up aPB_ro)
          have hgt : N2.1 41996 f = nI (gtD w ta f i) := hP.1 f hf
          have hg3 : gtD w ta f i ≤ 3 := Nat.le_trans gt_le wbd_le
          refine e42_58 ⟨nI_in2 (by omega) (by decide), ?_⟩
          rw [hP.2.1, nI_c (by omega), hgt, lz_w (show gtD w ta f i < 2147483648 by omega), lz_mul]
          refine useC (c74 (d := d) (x := 21505) (off := 0) (low := lowS (yW w (w 10)) (kW w) (waW w ta 0 i) i) (R := ptP (yW w (w 10)) (loD w ta) (gtD w ta f) (NN w) j) (hy.of hF2' aRo_640 (fun j => rfl)) hyB rfl rfl (show 0 + w 0 < 8 by omega) (by decide) (fun i hi => by rw [Nat.zero_add, (hF2 21505 i rfl).2.1]; exact hH i hi) (Nat.le_trans lowS_le (by omega))) fun vs N3 h => ?_
          obtain ⟨rfl, rfl⟩ := h
          refine e42_96 ⟨nI_in2 (by omega) (by decide), ?_⟩
          rw [nI_c (by omega), lz_add, nI_s]
          refine ih2 (i + 1) _ (by omega) (hF2'.sJ rfl) (fun i hi => by rw [sJ_v, if_neg (by omega), (hF2 21505 i rfl).2.1]; exact hH i hi) fun i' hi' => ?_
          rw [sJ_v]
          by_cases e : i' = i
          · rw [if_pos ⟨rfl, e⟩, e, ← loD_at (show i ≤ 7 by omega)]
            rfl
          · rw [if_neg (fun q => e q.2), (hF2 21506 i' rfl).2.1]; exact hfr i' (by omega)
      exact P (w 0 + 1) 0 N (by omega) hF hH fun i' h => absurd h (Nat.not_lt_zero _)
  refine loop n 0 _ _ _ _ (by omega) rfl (Fr.rf.fJ fun j => rfl) fun i hi => ?_
  rw [fJ_v, if_pos ⟨rfl, show i < 8 by omega⟩]
  rfl
end RO
