/-! The class's rests: a level, and the years. -/
def aWl (q k j : Nat) : Bool := aWish k j || (aPump k j || (Nat.beq k 17411 || ((Nat.beq k 256 && Nat.beq j 5) || (Nat.beq k 17409 && Nat.beq (j % 8) q))))
theorem aWl_640 {q : Nat} : ∀ j, j < 7 → aWl q 640 j = false := fun j hj => by
  have h : aPump 640 j = false := aP_640 j hj
  unfold aWl
  rw [h]
  rfl
theorem aWl_w {q : Nat} : ∀ k j, aWish k j = true → aWl q k j = true := fun k j h => by unfold aWl; rw [h]; rfl
theorem aWl_p {q : Nat} : ∀ k j, aPump k j = true → aWl q k j = true := fun k j h => by unfold aWl; rw [h]; cases aWish k j <;> rfl
theorem aWl_v {q c : Nat} : ∀ k j, aVl c k j = true → aWl q k j = true := fun k j h => by
  unfold aVl at h
  have h1 := (Bool.and_eq_true_iff.mp h).1
  unfold aWl
  rw [h1]
  cases aWish k j <;> cases aPump k j <;> rfl
theorem aWl_o {q j : Nat} (h : j % 8 ≠ q) : aWl q 17409 j = false := by
  have e : aWl q 17409 j = Nat.beq (j % 8) q := rfl
  rw [e, beq_ne h]
theorem aWl_i {q j : Nat} (h : j % 8 = q) : aWl q 17409 j = true := by
  have e : aWl q 17409 j = Nat.beq (j % 8) q := rfl
  rw [e, h, Nat.beq_refl]
def aRs (k j : Nat) : Bool := aWish k j || (aPump k j || (Nat.beq k 17411 || ((Nat.beq k 256 && (Nat.beq j 4 || Nat.beq j 5)) || (Nat.beq k 17409 || Nat.beq k 17410))))
theorem aWl_rs {q : Nat} : ∀ k j, aWl q k j = true → aRs k j = true := fun k j h => by
  unfold aWl at h
  unfold aRs
  simp only [Bool.or_eq_true, Bool.and_eq_true] at h ⊢
  rcases h with h | h | h | h | h
  · exact Or.inl h
  · exact Or.inr (Or.inl h)
  · exact Or.inr (Or.inr (Or.inl h))
  · exact Or.inr (Or.inr (Or.inr (Or.inl ⟨h.1, Or.inr h.2⟩)))
  · exact Or.inr (Or.inr (Or.inr (Or.inr (Or.inl h.1))))
theorem aRs_cl : ∀ k j, aRs k j = true → aCl k j = true := fun k j h => by
  unfold aRs aWish aPump at h
  simp only [Bool.or_eq_true, Bool.and_eq_true, Nat.beq_eq] at h
  exact aCl_t.mpr (by omega)
section C8
variable {d : Nat} {M : Mm} {w : Nat → Nat} {rr : Nat}
theorem c38 (hb : WB w) (hr : rr < w 9) (hy : YR (yW w rr) (kW w) M) (hfo : FO (yW w rr) 41992 (foW w rr (cstW w)) M) (hpl : FO (yW w rr) 41993 (plW w (cstW w)) M) {l n : Nat} (hl : l ≤ w 0) (hn : n < 8) (hs : M.2.1 256 4 = lz (DW w ^ n)) (hR : RLA w rr (rsV w rr n) M) : SC (d + 4) 38 [.ref 256, .int (nI l)] M (fun vs N => vs = [] ∧ Fr (aWl l) M N ∧ (∀ row, rwI w row → N.2.1 17409 (row * 8 + l) = lz (rsV w rr (n + 1) row l)) ∧ N.1 256 5 = nI (rsK w rr (rsV w rr n) n l)) := by
  obtain ⟨w0, w8, w9⟩ := wb_w hb
  have hyB := yB_of hb hr
  have hK := (ncd_bd hb (fm := -1)).2.1
  rw [ncd_all] at hK
  refine sC (by decide) rfl (go_in (e38_0 (useC (upC (c78 (d := d) hy hyB) (by omega)) fun vs N h => ?_)))
  obtain ⟨rfl, h⟩ := h
  have h := h.symm
  subst h
  refine e38_7 ?_
  have hy4 : 4 ^ yW w rr 2 = 4 ^ w 8 := rfl
  rw [hy4]
  have P3 : ∀ m row N (o2 : Option Value), row + m = 4 → Fr (aWl l) M N → N.1 256 5 = nI (rsK w rr (rsV w rr n) n l) → (∀ k, k < 4 ^ w 8 → RVA w rr (rsV w rr n) n l k N) → (∀ row', row' < row → rwI w row' → N.2.1 17409 (row' * 8 + l) = lz (rsV w rr (n + 1) row' l)) → WM (d + 3) 38 (fun vs N => vs = [] ∧ Fr (aWl l) M N ∧ (∀ row, rwI w row → N.2.1 17409 (row * 8 + l) = lz (rsV w rr (n + 1) row l)) ∧ N.1 256 5 = nI (rsK w rr (rsV w rr n) n l)) 79 [some (.ref 256), some (.int (nI l)), o2, some (.int (nI row))] [] N := by
    intro m
    induction m with
    | zero =>
      intro row N o2 hrow hF h5 hA hH
      have hrow : row = 4 := by omega
      subst hrow
      exact go_in (e38_79 (br_t (nI_lt (by decide) (by decide)) (go_in (e38_115 ⟨rfl, rfl, hF, fun row hw => hH row (by have := rwI_4 hb hw; omega) hw, h5⟩))))
    | succ m ih =>
      intro row N o2 hrow hF h5 hA hH
      have hk := rsK_lt (w := w) (rr := rr) (R := rsV w rr n) (n := n) (l := l)
      refine go_in (e38_79 (br_f (nI_nlt (by omega) (by decide)) ?_))
      rw [h5, nI_mul, nI_mul, nI_add, nI_add, nI_c (by omega), nI_c (by omega), nI_s]
      refine ⟨nI_in2 (by omega) (by decide), nI_in2 (by omega) (by decide), ?_⟩
      refine ih (row + 1) _ _ (by omega) (hF.sJ (aWl_i (by omega))) h5 (fun k hk row' hw => by rw [sJ_v, if_neg (by omega)]; exact hA k hk row' hw) fun row' hr' hw => ?_
      rw [sJ_v]
      by_cases e : row' = row
      · rw [if_pos ⟨rfl, by omega⟩, e]
        exact hA _ hk row (e ▸ hw)
      · rw [if_neg (fun q => e (by omega))]
        exact hH row' (by omega) hw
  have P2 : ∀ m k N, k + m = 4 ^ w 8 → Fr (aWl l) M N → N.1 256 5 = nI 0 → (∀ k, k < 4 ^ w 8 → RVA w rr (rsV w rr n) n l k N) → (∀ k', k' < k → rsP w rr (rsV w rr n) n l k' = false) → WM (d + 3) 38 (fun vs N => vs = [] ∧ Fr (aWl l) M N ∧ (∀ row, rwI w row → N.2.1 17409 (row * 8 + l) = lz (rsV w rr (n + 1) row l)) ∧ N.1 256 5 = nI (rsK w rr (rsV w rr n) n l)) 50 [some (.ref 256), some (.int (nI l)), some (.int (nI (4 ^ w 8))), some (.int (nI k))] [] N := by
    intro m
    induction m with
    | zero =>
      intro k N hk hF h5 hA hP
      have hk : k = 4 ^ w 8 := by omega
      subst hk
      have e : rsK w rr (rsV w rr n) n l = 0 := by
        unfold rsK
        rw [frs_none hP]
        rfl
      exact go_in (e38_50 (br_t (nI_le (Nat.le_refl _) (by omega)) (go_in (e38_77 (P3 4 0 N _ (by omega) hF (by rw [e]; exact h5) hA fun row' h => absurd h (Nat.not_lt_zero _))))))
    | succ m ih =>
      intro k N hk hF h5 hA hP
      refine go_in (e38_50 (br_f (nI_ge (by omega) (by omega)) (useC (upC (c40 (d := d) hb hr (hy.of hF aWl_640 (fun j => rfl)) hl (show k < 4 ^ w 8 by omega) hn hA) (by omega)) fun vs N2 h => ?_)))
      obtain ⟨rfl, h⟩ := h
      have h := h.symm
      subst h
      refine e38_60 ⟨fun e => go_in (e38_71 ?_), fun e => go_in (e38_77 ?_)⟩
      · have hp : rsP w rr (rsV w rr n) n l k = false := by
          cases h : rsP w rr (rsV w rr n) n l k with
          | false => rfl
          | true => rw [h] at e; exact absurd e (by decide)
        rw [nI_s]
        exact ih (k + 1) N (by omega) hF h5 hA fun k' hk' => by
          by_cases e : k' = k
          · rw [e]; exact hp
          · exact hP k' (by omega)
      · have hp : rsP w rr (rsV w rr n) n l k = true := by
          cases h : rsP w rr (rsV w rr n) n l k with
          | true => rfl
          | false => rw [h] at e; exact absurd rfl e
        have ek : rsK w rr (rsV w rr n) n l = k := by
          unfold rsK
          rw [frs_some hP hp (show k < 4 ^ w 8 by omega)]
          rfl
        exact P3 4 0 _ _ (by omega) (hF.sI rfl) (by rw [sI_v, if_pos ⟨rfl, rfl⟩, ek]) (fun k hk row hw => hA k hk row hw) fun row' h => absurd h (Nat.not_lt_zero _)
  have P1 : ∀ m k N, k + m = 4 ^ w 8 → Fr (aWl l) M N → (∀ k', k' < k → RVA w rr (rsV w rr n) n l k' N) → WM (d + 3) 38 (fun vs N => vs = [] ∧ Fr (aWl l) M N ∧ (∀ row, rwI w row → N.2.1 17409 (row * 8 + l) = lz (rsV w rr (n + 1) row l)) ∧ N.1 256 5 = nI (rsK w rr (rsV w rr n) n l)) 10 [some (.ref 256), some (.int (nI l)), some (.int (nI (4 ^ w 8))), some (.int (nI k))] [] N := by
    intro m
    induction m with
    | zero =>
      intro k N hk hF hA
      have hk : k = 4 ^ w 8 := by omega
      subst hk
      refine go_in (e38_10 (br_t (nI_le (Nat.le_refl _) (by omega)) (go_in (e38_43 ?_))))
      exact P2 (4 ^ w 8) 0 _ (by omega) (hF.sI rfl) (by rw [sI_v, if_pos ⟨rfl, rfl⟩]) (fun k hk row hw => hA k hk row hw) fun k' h => absurd h (Nat.not_lt_zero _)
    | succ m ih =>
      intro k N hk hF hA
      refine go_in (e38_10 (br_f (nI_ge (by omega) (by omega)) (useC (upC (c75 (d := d) (hy.of hF aWl_640 (fun j => rfl)) hyB (w := k) (by omega)) (by omega)) fun vs N2 h => ?_)))
      obtain ⟨rfl, hF2, hv2⟩ := h
      have hF2' := hF.tr (hF2.up aWl_w)
      refine e38_23 (useC (upC (c69 (d := d) (v := wnr (w 8) k) (hy.of hF2' aWl_640 (fun j => rfl)) hyB hv2 (fun f => wnr_3) (l := l) (by omega)) (by omega)) fun vs N3 h => ?_)
      obtain ⟨rfl, hF3, hP3⟩ := h
      have hF3' := hF2'.tr (hF3.up aWl_p)
      refine e38_31 (useC (upC (c39 (d := d) hb hr (hy.of hF3' aWl_640 (fun j => rfl)) (hfo.of hF3' (fun j => rfl)) (hpl.of hF3' (fun j => rfl)) hl (show k < 64 by omega) hP3 (n := n) (by rw [(hF3' 256 4 rfl).2.1]; exact hs) (R := rsV w rr n) (fun row i hw hi => by rw [(hF3' 17410 _ rfl).2.1]; exact hR row i hw hi)) (by omega)) fun vs N4 h => ?_)
      obtain ⟨rfl, hF4, hA4⟩ := h
      refine e38_37 ?_
      rw [nI_s]
      refine ih (k + 1) N4 (by omega) (hF3'.tr (hF4.up aWl_v)) fun k' hk' row hw => ?_
      by_cases e : k' = k
      · rw [e]; exact hA4 row hw
      · have h4 := rwI_4 hb hw
        rw [(hF4 17411 _ (aVl_f (by omega))).2.1, (hF3 17411 _ rfl).2.1, (hF2 17411 _ rfl).2.1]
        exact hA k' (by omega) row hw
  exact P1 (4 ^ w 8) 0 M (by omega) Fr.rf fun k' h => absurd h (Nat.not_lt_zero _)
theorem c37 (hb : WB w) (hr : rr < w 9) (hy : YR (yW w rr) (kW w) M) (hfo : FO (yW w rr) 41992 (foW w rr (cstW w)) M) (hpl : FO (yW w rr) 41993 (plW w (cstW w)) M) {l n : Nat} (hl : l ≤ w 0) (hn0 : 1 ≤ n) (hn : n ≤ 8) : SC (d + 5) 37 [.ref 256, .int (nI l), .int (nI n)] M (fun vs N => vs = [] ∧ Fr aRs M N ∧ (∀ row, rwI w row → N.2.1 17409 (row * 8 + l) = lz (rsV w rr n row l)) ∧ N.1 256 5 = nI (rsK w rr (rsV w rr (n - 1)) (n - 1) l) ∧ N.2.1 256 4 = lz (DW w ^ (n - 1))) := by
  obtain ⟨w0, w8, w9⟩ := wb_w hb
  have wq := hb.2.2.1
  have hpt := hb.2.1.2
  have hyB := yB_of hb hr
  have aRs_640 : ∀ j, j < 7 → aRs 640 j = false := by decide
  refine sC (by decide) rfl (go_in (e37_0 (useC (upC (c232 (d := d) (x := 17410) (v := lN 0) rfl rfl (by decide)) (by omega)) fun vs N h => ?_)))
  obtain ⟨rfl, rfl⟩ := h
  refine e37_8 ?_
  have loop : ∀ k j N (o4 o5 : Option Value), j + 1 + k = n → Fr aRs M N → N.2.1 256 4 = lz (DW w ^ j) → RLA w rr (rsV w rr j) N → WM (d + 4) 37 (fun vs N => vs = [] ∧ Fr aRs M N ∧ (∀ row, rwI w row → N.2.1 17409 (row * 8 + l) = lz (rsV w rr n row l)) ∧ N.1 256 5 = nI (rsK w rr (rsV w rr (n - 1)) (n - 1) l) ∧ N.2.1 256 4 = lz (DW w ^ (n - 1))) 15 [some (.ref 256), some (.int (nI l)), some (.int (nI n)), some (.int (nI (j + 1))), o4, o5] [] N := by
    intro k
    induction k with
    | zero =>
      intro j N o4 o5 hj hF hs hR
      have hj : n = j + 1 := by omega
      subst hj
      refine go_in (e37_15 (br_t (nI_le (Nat.le_refl _) (by omega)) (go_in (e37_150 ?_))))
      refine useC (c38 (d := d) hb hr (hy.of hF aRs_640 (fun j => rfl)) (hfo.of hF (fun j => rfl)) (hpl.of hF (fun j => rfl)) hl (show j < 8 by omega) hs hR) fun vs N2 h => ?_
      obtain ⟨rfl, hF2, hH, h5⟩ := h
      exact e37_155 ⟨rfl, rfl, hF.tr (hF2.up aWl_rs), hH, h5, by rw [(hF2 256 4 rfl).2.1]; exact hs⟩
    | succ k ih =>
      intro j N o4 o5 hj hF hs hR
      refine go_in (e37_15 (br_f (nI_ge (by omega) (by omega)) ?_))
      -- what is awaited
      have P2 : ∀ m ρ N (o5 : Option Value), ρ + m = 4 → Fr aRs M N → N.2.1 256 4 = lz (DW w ^ j) → (∀ row i, rwI w row → i ≤ w 0 → N.2.1 17409 (row * 8 + i) = lz (rsV w rr (j + 1) row i)) → (∀ row i, row < ρ → rwI w row → i ≤ w 0 → N.2.1 17410 (row * 8 + i) = lz ((w 6 : Int) * aws (yW w rr) (rsV w rr (j + 1) row) i 4)) → WM (d + 4) 37 (fun vs N => vs = [] ∧ Fr aRs M N ∧ (∀ row, rwI w row → N.2.1 17409 (row * 8 + l) = lz (rsV w rr n row l)) ∧ N.1 256 5 = nI (rsK w rr (rsV w rr (n - 1)) (n - 1) l) ∧ N.2.1 256 4 = lz (DW w ^ (n - 1))) 50 [some (.ref 256), some (.int (nI l)), some (.int (nI n)), some (.int (nI (j + 1))), some (.int (nI (ρ * 8))), o5] [] N := by
        intro m
        induction m with
        | zero =>
          intro ρ N o5 hρ hF hs hH hL
          have hρ : ρ = 4 := by omega
          subst hρ
          have hyN := hy.of hF aRs_640 (fun j => rfl)
          refine go_in (e37_50 (br_t (nI_lt (by decide) (by decide)) (go_in (e37_118 ?_))))
          have e5 : N.1 640 5 = nI (w 7) := hyN.2.1.2.1
          have e6 : N.1 640 6 = nI (w 2 + w 3 + w 4 + w 5) := hyN.2.1.2.2
          rw [e5, e6, hs, lz_w (show w 7 < 2147483648 by omega), lz_w (show w 2 + w 3 + w 4 + w 5 < 2147483648 by omega), lz_mul, lz_mul, nI_s]
          have ep : DW w ^ j * ((w 7 : Int) * ((w 2 + w 3 + w 4 + w 5 : Nat) : Int)) = DW w ^ (j + 1) := (Int.pow_succ _ _).symm
          rw [ep]
          refine ih (j + 1) _ _ _ (by omega) (hF.sJ rfl) (by rw [sJ_v, if_pos ⟨rfl, rfl⟩]) fun row i hw hi => ?_
          rw [sJ_v, if_neg (by omega)]
          exact hL row i (by have := rwI_4 hb hw; omega) hw hi
        | succ m ih2 =>
          intro ρ N o5 hρ hF hs hH hL
          refine go_in (e37_50 (br_f (nI_nlt (by omega) (by decide)) ?_))
          have P3 : ∀ m' i N, i + m' = w 0 + 1 → Fr aRs M N → N.2.1 256 4 = lz (DW w ^ j) → (∀ row i, rwI w row → i ≤ w 0 → N.2.1 17409 (row * 8 + i) = lz (rsV w rr (j + 1) row i)) → (∀ row i', (row < ρ ∧ i' ≤ w 0) ∨ (row = ρ ∧ i' < i) → rwI w row → N.2.1 17410 (row * 8 + i') = lz ((w 6 : Int) * aws (yW w rr) (rsV w rr (j + 1) row) i' 4)) → WM (d + 4) 37 (fun vs N => vs = [] ∧ Fr aRs M N ∧ (∀ row, rwI w row → N.2.1 17409 (row * 8 + l) = lz (rsV w rr n row l)) ∧ N.1 256 5 = nI (rsK w rr (rsV w rr (n - 1)) (n - 1) l) ∧ N.2.1 256 4 = lz (DW w ^ (n - 1))) 60 [some (.ref 256), some (.int (nI l)), some (.int (nI n)), some (.int (nI (j + 1))), some (.int (nI (ρ * 8))), some (.int (nI i))] [] N := by
            intro m'
            induction m' with
            | zero =>
              intro i N hi hF hs hH hL
              have hi : i = w 0 + 1 := by omega
              subst hi
              refine go_in (e37_60 ?_)
              rw [(hF 640 0 rfl).1, hy.1.1]
              refine br_t (nI_lt (show w 0 < w 0 + 1 by omega) (by omega)) (go_in (e37_112 ?_))
              have e8 : nI (ρ * 8) + Int32.ofInt 8 = nI ((ρ + 1) * 8) := by
                rw [show (ρ + 1) * 8 = ρ * 8 + 8 by omega]
                exact nI_add (ρ * 8) 8
              rw [e8]
              exact ih2 (ρ + 1) N _ (by omega) hF hs hH fun row i hr' hw hi => hL row i (by omega) hw
            | succ m' ih3 =>
              intro i N hi hF hs hH hL
              have hyN := hy.of hF aRs_640 (fun j => rfl)
              refine go_in (e37_60 ?_)
              rw [(hF 640 0 rfl).1, hy.1.1]
              refine br_f (nI_nlt (show i ≤ w 0 by omega) (show w 0 < 2147483648 by omega)) ?_
              refine useC (upC (c74 (d := d) (x := 17409) (off := ρ * 8) (low := i) (R := fun i => (N.2.1 17409 (ρ * 8 + i)).toInt) hyN hyB rfl rfl (show ρ * 8 + w 0 < 32 by omega) (by decide) (fun i hi => (lz_of _).symm) (by omega)) (by omega)) fun vs N2 h => ?_
              obtain ⟨rfl, h⟩ := h
              have h := h.symm
              subst h
              have e4 : N.1 640 4 = nI (w 6) := hyN.2.1.1
              refine e37_104 ?_
              rw [nI_add, nI_c (by omega), e4, lz_w (show w 6 < 2147483648 by omega), lz_mul, nI_s]
              refine ⟨nI_in2 (by omega) (by decide), ?_⟩
              refine ih3 (i + 1) (sJ N 17410 (ρ * 8 + i) _) (by omega) (hF.sJ rfl) (by rw [sJ_v, if_neg (by omega)]; exact hs) (fun row i hw hi => by rw [sJ_v, if_neg (by omega)]; exact hH row i hw hi) fun row i' hri hw => ?_
              have h4 := rwI_4 hb hw
              rw [sJ_v]
              by_cases e : row = ρ ∧ i' = i
              · obtain ⟨rfl, rfl⟩ := e
                rw [if_pos ⟨rfl, rfl⟩]
                have hc : aws (yW w rr) (fun i => (N.2.1 17409 (row * 8 + i)).toInt) i' 4 = aws (yW w rr) (rsV w rr (j + 1) row) i' 4 := by
                  refine aws_congr (fun j' hj' => ?_) 4
                  have hj' : j' ≤ w 0 := hj'
                  have h64 := i64_of (rsV_bd hb hr (j + 1) row j' hj' hw) (pw65 (j + 1) (by omega))
                  show (N.2.1 17409 (row * 8 + j')).toInt = _
                  rw [hH row j' hw hj', lz_toInt h64.1 h64.2]
                rw [hc]
              · rw [if_neg (fun q => e (by omega))]
                exact hL row i' (by omega) hw
          exact P3 (w 0 + 1) 0 N (by omega) hF hs hH fun row i' hri hw => hL row i' (by omega) hw (by omega)
      have P1 : ∀ m i N (o5 : Option Value), i + m = w 0 + 1 → Fr aRs M N → N.2.1 256 4 = lz (DW w ^ j) → RLA w rr (rsV w rr j) N → (∀ row i', rwI w row → i' < i → N.2.1 17409 (row * 8 + i') = lz (rsV w rr (j + 1) row i')) → WM (d + 4) 37 (fun vs N => vs = [] ∧ Fr aRs M N ∧ (∀ row, rwI w row → N.2.1 17409 (row * 8 + l) = lz (rsV w rr n row l)) ∧ N.1 256 5 = nI (rsK w rr (rsV w rr (n - 1)) (n - 1) l) ∧ N.2.1 256 4 = lz (DW w ^ (n - 1))) 23 [some (.ref 256), some (.int (nI l)), some (.int (nI n)), some (.int (nI (j + 1))), some (.int (nI i)), o5] [] N := by
        intro m
        induction m with
        | zero =>
          intro i N o5 hi hF hs hR hH
          have hi : i = w 0 + 1 := by omega
          subst hi
          refine go_in (e37_23 ?_)
          rw [(hF 640 0 rfl).1, hy.1.1]
          exact br_t (nI_lt (show w 0 < w 0 + 1 by omega) (by omega)) (go_in (e37_47 (P2 4 0 N _ (by omega) hF hs (fun row i hw hi => hH row i hw (by omega)) fun row i h => absurd h (Nat.not_lt_zero _))))
        | succ m ih2 =>
          intro i N o5 hi hF hs hR hH
          refine go_in (e37_23 ?_)
          rw [(hF 640 0 rfl).1, hy.1.1]
          refine br_f (nI_nlt (show i ≤ w 0 by omega) (show w 0 < 2147483648 by omega)) ?_
          refine useC (c38 (d := d) hb hr (hy.of hF aRs_640 (fun j => rfl)) (hfo.of hF (fun j => rfl)) (hpl.of hF (fun j => rfl)) (l := i) (by omega) (show j < 8 by omega) hs hR) fun vs N2 h => ?_
          obtain ⟨rfl, hF2, hH2, -⟩ := h
          refine e37_41 ?_
          rw [nI_s]
          refine ih2 (i + 1) N2 _ (by omega) (hF.tr (hF2.up aWl_rs)) (by rw [(hF2 256 4 rfl).2.1]; exact hs) (fun row i' hw hi' => by rw [(hF2 17410 _ rfl).2.1]; exact hR row i' hw hi') fun row i' hw hi' => ?_
          by_cases e : i' = i
          · rw [e]; exact hH2 row hw
          · rw [(hF2 17409 _ (aWl_o (by omega))).2.1]
            exact hH row i' hw (by omega)
      exact P1 (w 0 + 1) 0 N _ (by omega) hF hs hR fun row i' hw h => absurd h (Nat.not_lt_zero _)
  refine loop (n - 1) 0 _ _ _ (by omega) ((Fr.rf.fJ fun j => rfl).sJ rfl) (by rw [sJ_v, if_pos ⟨rfl, rfl⟩]; rfl) fun row i hw hi => ?_
  have h4 := rwI_4 hb hw
  rw [sJ_v, if_neg (by omega), fJ_v, if_pos ⟨rfl, show row * 8 + i < 32 by omega⟩]
  have h0 : aws (yW w rr) (rsV w rr 0 row) i 4 = 0 := by
    have := aws_con hyB 0 i
    rw [Int.zero_mul] at this
    exact this
  rw [h0, Int.mul_zero]
  rfl
end C8
