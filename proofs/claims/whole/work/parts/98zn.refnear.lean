/-! Those who see near: the reference's. -/
abbrev NV (w : Nat → Nat) (ta : Nat → Nat → Nat → Nat) (f j : Nat) : Nat → Int := nrV (YG w (f : Int)) (w 6) (w 7) (rG w ta (f : Int)) (lG w ta (f : Int)) (ncd w (f : Int)) j
abbrev NGr (w : Nat → Nat) (ta : Nat → Nat → Nat → Nat) (f j i k : Nat) : Int := nrG (YG w (f : Int)) (w 6) (w 7) (rG w ta (f : Int)) (lG w ta (f : Int)) (NV w ta f j) j i k
theorem NV_s (w : Nat → Nat) (ta : Nat → Nat → Nat → Nat) (f j i : Nat) : NV w ta f (j + 1) i = NGr w ta f j i (bst (NGr w ta f j i) 4) := by
  have h : NV w ta f (j + 1) i = NGr w ta f j i (bst (NGr w ta f j i) (ncd w (f : Int))) := rfl
  have e : ncd w (f : Int) = 4 := ncd_at
  rw [h]
  exact congrArg (fun K => NGr w ta f j i (bst (NGr w ta f j i) K)) e
theorem nrA_s (w : Nat → Nat) (ta : Nat → Nat → Nat → Nat) (f l j : Nat) : nrA w ta f l (j + 1) = bst (NGr w ta f j l) 4 := by
  have h : nrA w ta f l (j + 1) = bst (NGr w ta f j l) (ncd w (f : Int)) := rfl
  have e : ncd w (f : Int) = 4 := ncd_at
  rw [h]
  exact congrArg (bst (NGr w ta f j l)) e
theorem NGr_64 {w : Nat → Nat} {ta : Nat → Nat → Nat → Nat} (hb : WB w) {f j i k : Nat} (hf : f < w 8) (hj : j < 8) (hi : i ≤ w 0) (hk : k < 4) : i64 (NGr w ta f j i k) := by
  have wq := hb.2.2.1
  exact nrG_64 (yB_of hb (rBy_lt hb (fm := (f : Int)))) wq.2.1 wq.2.2 (ncd_bd hb).1 (rG_bd hb (by omega)) hj hi (by rw [ncd_at]; exact hk)
theorem bst_s (g : Nat → Int) (n : Nat) : bst g (n + 1) = if g (bst g n) < g n then n else bst g n := rfl
def aNe (k j : Nat) : Bool := aYB k j || (Nat.beq k 50209 || Nat.beq k 50210)
theorem aYB_ne : ∀ k j, aYB k j = true → aNe k j = true := fun k j h => by unfold aNe; rw [h]; rfl
theorem aWant_ne : ∀ k j, aWant k j = true → aNe k j = true := fun k j h => aYB_ne k j (by unfold aYB; rw [h]; rfl)
theorem aYearR_ne : ∀ k j, aYearR k j = true → aNe k j = true := fun k j h => aYB_ne k j (by unfold aYB; rw [h]; exact Bool.or_true _)
theorem aNe_re : ∀ k j, aNe k j = true → aRe k j = true := fun k j h => by
  unfold aNe at h
  simp only [Bool.or_eq_true, Nat.beq_eq] at h
  rcases h with h | h
  · exact aBD_re k j (aYB_bd k j h)
  · exact aRe_t.mpr (by omega)
section NF
variable {d : Nat} {M : Mm} {w : Nat → Nat} {ta : Nat → Nat → Nat → Nat}
theorem c203 {a : Int} (ha : i32 a) : SC (d + 2) 203 [.int (iz a)] M (fun vs N => vs = [.int (nI (if 1 ≤ a ∧ a ≤ 8 then 0 else 1))] ∧ N = M) := by
  refine sC (by decide) rfl (go_in (e203_0 ?_))
  rw [iz_n 1, iz_n 8]
  refine useC (c131 (d := d) ha (i32_n (by omega)) (i32_n (by omega))) fun vs N h => ?_
  obtain ⟨rfl, rfl⟩ := h
  refine e203_7 ⟨fun e => go_in (e203_14 (go_in (e203_15 ⟨Or.inl rfl, rfl, ?_, rfl⟩))), fun e => go_in (e203_15 ⟨Or.inr rfl, rfl, ?_, rfl⟩)⟩
  · have h : 1 ≤ a ∧ a ≤ 8 := by
      by_cases h : 1 ≤ a ∧ a ≤ 8
      · exact h
      · exact absurd (b01.mpr h) e
    rw [if_pos h]
  · have h : ¬ (1 ≤ a ∧ a ≤ 8) := b01.mp e
    rw [if_neg h]
/-- a year with one farm's number told: what it brings, where it leads -/
theorem yr204 (hw : MR w M) (hb : WB w) (hD : DRel w ta M) (hp : NP M) {f i n : Nat} (hf : f < w 8) (hi : i ≤ w 0) (hn : n < 4) {N : Mm} (hF : Fr aNe M N) (hv : ∀ g, g < w 8 → N.1 50192 g = nI (waW w ta 0 i g)) : SC (d + 3) 173 [.ref 768, .int (nI i), .int (nI (w 10))] (sI N 50192 f (nI n)) (fun vs N' => vs = [] ∧ Fr aYearR (sI N 50192 f (nI n)) N' ∧ N'.1 50194 f = iz (rG w ta (f : Int) i n) ∧ N'.1 768 19 = nI (lG w ta (f : Int) i n)) := by
  obtain ⟨w0, w8, w9⟩ := wb_w hb
  have w10 : w 10 < w 9 := hb.2.2.2.1.2.2.1
  have hF1 : Fr aNe M (sI N 50192 f (nI n)) := hF.sI rfl
  have hWR : WR w (vBy w ta (f : Int) i n) (sI N 50192 f (nI n)) := fun g hg => by
    rw [sI_v, vBy_at]
    by_cases e : g = f
    · rw [if_pos ⟨rfl, e⟩, if_pos e]
    · rw [if_neg (fun q => e q.2), if_neg e]; exact hv g hg
  refine useC (c173 (d := d) (hw.of hF1 (fun j _ => rfl)) hb hWR (fun g => vBy_3 (by rw [ncd_at]; exact hn) hb g) (by omega) w10) fun vs N' h => ?_
  obtain ⟨h1, h2, y1, y2, y3, y4, y5⟩ := h
  refine ⟨h1, h2, ?_, ?_⟩
  · rw [y2 f hf, rG_at]
    rfl
  · rw [y4, lG_at (by omega), rBy_at]
theorem c204 (hw : MR w M) (hb : WB w) (hD : DRel w ta M) (hp : NP M) {f l n : Nat} (hf : f < w 8) (hl : l ≤ w 0) (hn0 : 1 ≤ n) (hn : n ≤ 8) : SC (d + 10) 204 [.ref 768, .int (nI f), .int (nI l), .int (nI n)] M (fun vs N => vs = [.int (nI (nrA w ta f l n))] ∧ Fr aRe M N ∧ N.1 768 0 = nI 0) := by
  obtain ⟨w0, w8, w9⟩ := wb_w hb
  have wq := hb.2.2.1
  have hpt := hb.2.1.2
  have w10 : w 10 < w 9 := hb.2.2.2.1.2.2.1
  refine sC (by decide) rfl (go_in (e204_0 ?_))
  obtain ⟨M1, hM1⟩ : ∃ M1, M1 = sI M 768 0 (nI 0) := ⟨_, rfl⟩
  have hF1 : Fr aRe M M1 := by rw [hM1]; exact Fr.rf.sI rfl
  have e10 : M1.1 768 0 = nI 0 := by rw [hM1, sI_v, if_pos ⟨rfl, rfl⟩]
  rw [← hM1, iz_n f]
  have hw1 := hw.of hF1 (fun j _ => rfl)
  have hD1 := hD.of hF1 (fun j => rfl)
  have hp1 := hp.of hF1 rfl rfl
  refine useC (upC (c138 (d := d) hw1 hb (a := (f : Int)) (i32_n (by omega))) (by omega)) fun vs N h => ?_
  obtain ⟨rfl, h⟩ := h
  have h := h.symm
  subst h
  rw [if_pos (by omega), ← iz_n f]
  refine e204_11 ⟨fun e => absurd rfl e, fun _ => ?_⟩
  rw [iz_n l]
  refine useC (upC (c137 (d := d) hw1 hb (a := (l : Int)) (i32_n (by omega))) (by omega)) fun vs N h => ?_
  obtain ⟨rfl, h⟩ := h
  have h := h.symm
  subst h
  rw [if_pos (by omega), ← iz_n l]
  refine e204_19 ⟨fun _ => go_in (e204_26 (go_in (e204_27 (useC (upC (c130f (d := d)) (by omega)) fun vs N h => ?_)))), fun e => absurd rfl e⟩
  obtain ⟨rfl, h⟩ := h
  have h := h.symm
  subst h
  refine e204_31 ⟨fun e => absurd rfl e, fun _ => ?_⟩
  rw [iz_n n]
  refine useC (upC (c203 (d := d) (a := (n : Int)) (i32_n (by omega))) (by omega)) fun vs N h => ?_
  obtain ⟨rfl, h⟩ := h
  have h := h.symm
  subst h
  rw [if_pos (by omega), ← iz_n n]
  refine e204_39 (useC (upC (c130f (d := d)) (by omega)) fun vs N h => ?_)
  obtain ⟨rfl, h⟩ := h
  have h := h.symm
  subst h
  refine e204_43 ⟨fun _ => go_in (e204_48 ?_), fun e => absurd rfl e⟩
  -- the years
  have main : ∀ k j fo N (o5 o8 o9 o10 o11 : Option Value), j + k = n → Fr aNe M1 N → (∀ i, i ≤ w 0 → N.2.1 50209 i = lz (NV w ta f j i)) → (0 < j → fo = nrA w ta f l j) → WM (d + 9) 204 (fun vs N => vs = [.int (nI (nrA w ta f l n))] ∧ Fr aRe M N ∧ N.1 768 0 = nI 0) 81 [some (.ref 768), some (.int (nI f)), some (.int (nI l)), some (.int (nI n)), some (.long (lz (DW w ^ j))), o5, some (.int (nI fo)), some (.int (nI j)), o8, o9, o10, o11] [] N := by
    intro k
    induction k with
    | zero =>
      intro j fo N o5 o8 o9 o10 o11 hj hF hV hfo
      have hj : j = n := by omega
      subst hj
      refine go_in (e204_81 (br_t (nI_le (Nat.le_refl _) (by omega)) (go_in (e204_268 ⟨rfl, ?_, hF1.tr (hF.up aNe_re), ?_⟩))))
      · rw [hfo (by omega)]
      · rw [(hF 768 0 rfl).1]; exact e10
    | succ k ih =>
      intro j fo N o5 o8 o9 o10 o11 hj hF hV hfo
      -- copying
      have P3 : ∀ m i N (o5 o9 o10 o11 : Option Value), i + m = w 0 + 1 → Fr aNe M1 N → (∀ i', i' ≤ w 0 → N.2.1 50210 i' = lz (NV w ta f (j + 1) i')) → (∀ i', i' < i → N.2.1 50209 i' = lz (NV w ta f (j + 1) i')) → WM (d + 9) 204 (fun vs N => vs = [.int (nI (nrA w ta f l n))] ∧ Fr aRe M N ∧ N.1 768 0 = nI 0) 214 [some (.ref 768), some (.int (nI f)), some (.int (nI l)), some (.int (nI n)), some (.long (lz (DW w ^ j))), o5, some (.int (nI (nrA w ta f l (j + 1)))), some (.int (nI j)), some (.int (nI i)), o9, o10, o11] [] N := by
        intro m
        induction m with
        | zero =>
          intro i N o5 o9 o10 o11 hi hF hH hL
          have hi : i = w 0 + 1 := by omega
          subst hi
          have hw' := hw1.of hF (fun j _ => rfl)
          refine go_in (e204_214 (useC (upC (c134 (d := d) hw') (by omega)) fun vs N2 h => ?_))
          obtain ⟨rfl, rfl⟩ := h
          refine e204_220 (br_t (nI_lt (by omega) (by omega)) (go_in (e204_243 ⟨nI_in2 (by decide) (by decide), useC (upC (c136 (d := d) hw') (by omega)) fun vs N3 h => ?_⟩)))
          obtain ⟨rfl, rfl⟩ := h
          have e7 : N3.1 50177 7 = nI (w 7) := hw'.n (by decide) rfl
          refine e204_257 ?_
          rw [nI_c (by decide), e7, lz_w (show w 7 < 2147483648 by omega), lz_w (show w 2 + w 3 + w 4 + w 5 < 2147483648 by omega), lz_mul, lz_mul, nI_s]
          have ep : DW w ^ j * ((w 7 : Int) * ((w 2 + w 3 + w 4 + w 5 : Nat) : Int)) = DW w ^ (j + 1) := (Int.pow_succ _ _).symm
          rw [ep]
          exact ih (j + 1) _ N3 _ _ _ _ _ (by omega) hF (fun i hi => hL i (by omega)) fun _ => rfl
        | succ m ih2 =>
          intro i N o5 o9 o10 o11 hi hF hH hL
          have hw' := hw1.of hF (fun j _ => rfl)
          refine go_in (e204_214 (useC (upC (c134 (d := d) hw') (by omega)) fun vs N2 h => ?_))
          obtain ⟨rfl, rfl⟩ := h
          refine e204_220 (br_f (nI_nlt (by omega) (by omega)) ⟨nI_in2 (by omega) (by decide), nI_in2 (by omega) (by decide), ?_⟩)
          rw [nI_c (by omega), hH i (by omega), nI_s]
          refine ih2 (i + 1) (sJ N2 50209 i _) _ _ _ _ (by omega) (hF.sJ rfl) (fun i' hi' => by rw [sJ_v, if_neg (by omega)]; exact hH i' hi') fun i' hi' => ?_
          rw [sJ_v]
          by_cases e : i' = i
          · rw [if_pos ⟨rfl, e⟩, e]
          · rw [if_neg (fun q => e q.2)]; exact hL i' (by omega)
      -- the levels
      have P1 : ∀ m i fo N (o5 o9 o10 o11 : Option Value), i + m = w 0 + 1 → Fr aNe M1 N → (∀ i', i' ≤ w 0 → N.2.1 50209 i' = lz (NV w ta f j i')) → (∀ i', i' < i → N.2.1 50210 i' = lz (NV w ta f (j + 1) i')) → (l < i → fo = nrA w ta f l (j + 1)) → WM (d + 9) 204 (fun vs N => vs = [.int (nI (nrA w ta f l n))] ∧ Fr aRe M N ∧ N.1 768 0 = nI 0) 90 [some (.ref 768), some (.int (nI f)), some (.int (nI l)), some (.int (nI n)), some (.long (lz (DW w ^ j))), o5, some (.int (nI fo)), some (.int (nI j)), some (.int (nI i)), o9, o10, o11] [] N := by
        intro m
        induction m with
        | zero =>
          intro i fo N o5 o9 o10 o11 hi hF hV hL hfo
          have hi : i = w 0 + 1 := by omega
          subst hi
          have hw' := hw1.of hF (fun j _ => rfl)
          refine go_in (e204_90 (useC (upC (c134 (d := d) hw') (by omega)) fun vs N2 h => ?_))
          obtain ⟨rfl, rfl⟩ := h
          refine e204_96 (br_t (nI_lt (by omega) (by omega)) (go_in (e204_211 ?_)))
          rw [hfo (by omega)]
          exact P3 (w 0 + 1) 0 N2 _ _ _ _ (by omega) hF (fun i' hi' => hL i' (by omega)) fun i' hi' => absurd hi' (Nat.not_lt_zero _)
        | succ m ih2 =>
          intro i fo N o5 o9 o10 o11 hi hF hV hL hfo
          have hw' := hw1.of hF (fun j _ => rfl)
          have hiy : i ≤ w 0 := by omega
          refine go_in (e204_90 (useC (upC (c134 (d := d) hw') (by omega)) fun vs N2 h => ?_))
          obtain ⟨rfl, rfl⟩ := h
          refine e204_96 (br_f (nI_nlt (by omega) (by omega)) ?_)
          have P2 : ∀ m' c fo N (o5 o10 o11 : Option Value), c + m' = 4 → Fr aNe M1 N → (∀ i', i' ≤ w 0 → N.2.1 50209 i' = lz (NV w ta f j i')) → (∀ i', i' < i → N.2.1 50210 i' = lz (NV w ta f (j + 1) i')) → (0 < c → N.2.1 50210 i = lz (NGr w ta f j i (bst (NGr w ta f j i) c))) → (l < i → fo = nrA w ta f l (j + 1)) → (l = i → 0 < c → fo = bst (NGr w ta f j i) c) → WM (d + 9) 204 (fun vs N => vs = [.int (nI (nrA w ta f l n))] ∧ Fr aRe M N ∧ N.1 768 0 = nI 0) 102 [some (.ref 768), some (.int (nI f)), some (.int (nI l)), some (.int (nI n)), some (.long (lz (DW w ^ j))), o5, some (.int (nI fo)), some (.int (nI j)), some (.int (nI i)), some (.int (nI c)), o10, o11] [] N := by
            intro m'
            induction m' with
            | zero =>
              intro c fo N o5 o10 o11 hc hF hV hL hM hf1 hf2
              have hc : c = 4 := by omega
              subst hc
              refine go_in (e204_102 (br_t (nI_le (Nat.le_refl _) (by decide)) (go_in (e204_205 ?_))))
              rw [nI_s]
              refine ih2 (i + 1) fo N _ _ _ _ (by omega) hF hV (fun i' hi' => ?_) fun h => ?_
              · by_cases e : i' = i
                · rw [e, NV_s]; exact hM (by decide)
                · exact hL i' (by omega)
              · by_cases e : l = i
                · rw [hf2 e (by decide), nrA_s, e]
                · exact hf1 (by omega)
            | succ m' ih3 =>
              intro c fo N o5 o10 o11 hc hF hV hL hM hf1 hf2
              refine go_in (e204_102 (br_f (nI_ge (by omega) (by decide)) ?_))
              obtain ⟨pd, hpn⟩ := NP.pn (w := w) (hp1.of hF rfl rfl)
              have hw' := hw1.of hF (fun j _ => rfl)
              refine useC (upC (c175 (d := d) hw' hb (hD1.of hF (fun j => rfl)) hpn (l := i) (b := 0) (by omega) (by decide)) (by omega)) fun vs N2 h => ?_
              obtain ⟨rfl, hF2, hv2⟩ := h
              rw [wRf_no] at hv2
              have hF2' := hF.tr (hF2.up aWant_ne)
              refine e204_115 ⟨nI_in2 (by omega) (by decide), ?_⟩
              rw [nI_c (by omega)]
              have hF3 : Fr aNe M1 (sI N2 50192 f (nI c)) := hF2'.sI rfl
              refine useC (upC (c174 (d := d) (hw1.of hF3 (fun j _ => rfl))) (by omega)) fun vs N3 h => ?_
              obtain ⟨rfl, h⟩ := h
              have h := h.symm
              subst h
              refine e204_130 (useC (upC (yr204 (d := d) hw1 hb hD1 hp1 hf hiy (show c < 4 by omega) hF2' hv2) (by omega)) fun vs N4 h => ?_)
              obtain ⟨rfl, hF4, hg, hlow⟩ := h
              have hF4' := hF3.tr (hF4.up aYearR_ne)
              have hw4 := hw1.of hF4' (fun j _ => rfl)
              have hV4 : ∀ i', i' ≤ w 0 → N4.2.1 50209 i' = lz (NV w ta f j i') := fun i' hi' => by rw [(hF4 50209 i' rfl).2.1]; show N2.2.1 50209 i' = _; rw [(hF2 50209 i' rfl).2.1]; exact hV i' hi'
              have hL4 : ∀ i', N4.2.1 50210 i' = N.2.1 50210 i' := fun i' => by rw [(hF4 50210 i' rfl).2.1]; show N2.2.1 50210 i' = _; exact (hF2 50210 i' rfl).2.1
              refine e204_133 ⟨nI_in2 (by omega) (by decide), ?_⟩
              rw [nI_c (by omega), hg, hlow]
              have hrb := rG_bd (ta := ta) hb (fm := (f : Int)) (by omega) i c hiy (by rw [ncd_at]; omega)
              refine useC (upC (c187 (d := d) (q := w 10) hw4 hb (x := 50209) (off := 0) (low := lG w ta (f : Int) i c) (R := NV w ta f j) rfl rfl (show 0 + w 0 < 24 by omega) (by decide) (fun i' hi' => by rw [Nat.zero_add]; exact hV4 i' hi') (lG_7 _ _)) (by omega)) fun vs N5 h => ?_
              obtain ⟨rfl, rfl⟩ := h
              have hgi : (iz (rG w ta (f : Int) i c)).toInt64 = lz (rG w ta (f : Int) i c) := iz_l (bd_i32 (bd_le hrb (by decide)))
              have hval : rG w ta (f : Int) i c * DW w ^ j + aws (yW w (w 10)) (NV w ta f j) (lG w ta (f : Int) i c) 4 * (w 6 : Int) = NGr w ta f j i c := by
                unfold NGr nrG
                rw [YG_at, Int.mul_comm (aws (yW w (w 10)) (NV w ta f j) (lG w ta (f : Int) i c) 4)]
                rfl
              refine e204_156 ?_
              rw [hgi, lz_mul, lz_add, hval]
              have h64 := NGr_64 (ta := ta) hb hf (show j < 8 by omega) hiy (show c < 4 by omega)
              -- behind a store
              have put : ∀ (o10 o11 : Option Value), o10 = some (.long (lz (NGr w ta f j i c))) → bst (NGr w ta f j i) (c + 1) = c → WM (d + 9) 204 (fun vs N => vs = [.int (nI (nrA w ta f l n))] ∧ Fr aRe M N ∧ N.1 768 0 = nI 0) 180 [some (.ref 768), some (.int (nI f)), some (.int (nI l)), some (.int (nI n)), some (.long (lz (DW w ^ j))), none, some (.int (nI fo)), some (.int (nI j)), some (.int (nI i)), some (.int (nI c)), o10, o11] [] N5 := by
                intro o10 o11 ho hst
                subst ho
                have hF5 : Fr aNe M1 (sJ N5 50210 i (lz (NGr w ta f j i c))) := hF4'.sJ rfl
                have il : nI i = nI l ↔ i = l := by
                  rw [iz_n, iz_n, iz_eq (i32_n (by omega)) (i32_n (by omega))]
                  omega
                refine go_in (e204_180 ⟨nI_in2 (by omega) (by decide), ?_⟩)
                rw [nI_c (by omega), il]
                refine ⟨fun e => go_in (e204_199 ?_), fun e => go_in (e204_199 ?_)⟩
                · rw [nI_s]
                  refine ih3 (c + 1) fo _ _ _ _ (by omega) hF5 (fun i' hi' => by rw [sJ_v, if_neg (by omega)]; exact hV4 i' hi') (fun i' hi' => by rw [sJ_v, if_neg (by omega), hL4]; exact hL i' hi') (fun _ => by rw [sJ_v, if_pos ⟨rfl, rfl⟩, hst]) hf1 fun e2 => absurd e2.symm e
                · rw [nI_s]
                  refine ih3 (c + 1) c _ _ _ _ (by omega) hF5 (fun i' hi' => by rw [sJ_v, if_neg (by omega)]; exact hV4 i' hi') (fun i' hi' => by rw [sJ_v, if_neg (by omega), hL4]; exact hL i' hi') (fun _ => by rw [sJ_v, if_pos ⟨rfl, rfl⟩, hst]) (fun e2 => by omega) fun _ _ => hst.symm
              refine ⟨fun q => ?_, fun q => ⟨nI_in2 (by omega) (by decide), ?_⟩⟩
              · have hc0 : c = 0 := by
                  rw [zero_nI, nI_leI (by omega) (by decide)] at q
                  omega
                refine put _ _ rfl ?_
                rw [hc0]
                exact bst_1 _
              · have hc0 : 0 < c := by
                  rw [zero_nI, nI_leI (by omega) (by decide)] at q
                  omega
                have hbl := bst_lt (NGr w ta f j i) c hc0
                have h64b := NGr_64 (ta := ta) hb hf (show j < 8 by omega) hiy (show bst (NGr w ta f j i) c < 4 by omega)
                rw [nI_c (by omega), hL4, hM hc0, cmp_gt, lz_lt h64b h64]
                refine ⟨fun e => put _ _ rfl (by rw [bst_s, if_pos e]), fun e => go_in (e204_199 ?_)⟩
                have hst : bst (NGr w ta f j i) (c + 1) = bst (NGr w ta f j i) c := by rw [bst_s, if_neg e]
                rw [nI_s]
                refine ih3 (c + 1) fo N5 _ _ _ (by omega) hF4' hV4 (fun i' hi' => by rw [hL4]; exact hL i' hi') (fun _ => by rw [hL4, hst]; exact hM hc0) hf1 fun e2 _ => by rw [hst]; exact hf2 e2 hc0
          exact P2 4 0 fo N2 _ _ _ (by omega) hF hV hL (fun h => absurd h (Nat.lt_irrefl _)) hfo fun _ h => absurd h (Nat.lt_irrefl _)
      refine go_in (e204_81 (br_f (nI_ge (by omega) (by omega)) ?_))
      exact P1 (w 0 + 1) 0 fo N _ _ _ _ (by omega) hF hV (fun i' hi' => absurd hi' (Nat.not_lt_zero _)) fun h => absurd h (Nat.not_lt_zero _)
  have zero : ∀ k i N (o5 o6 o7 o8 o9 o10 o11 : Option Value), i + k = 8 → Fr aNe M1 N → (∀ i', i' < i → N.2.1 50209 i' = lz 0) → WM (d + 9) 204 (fun vs N => vs = [.int (nI (nrA w ta f l n))] ∧ Fr aRe M N ∧ N.1 768 0 = nI 0) 51 [some (.ref 768), some (.int (nI f)), some (.int (nI l)), some (.int (nI n)), some (.int (nI i)), o5, o6, o7, o8, o9, o10, o11] [] N := by
    intro k
    induction k with
    | zero =>
      intro i N o5 o6 o7 o8 o9 o10 o11 hi hF hA
      have hi : i = 8 := by omega
      subst hi
      refine go_in (e204_51 (br_t (nI_le (Nat.le_refl _) (by decide)) (go_in (e204_72 ?_))))
      exact main n 0 0 N _ _ _ _ _ (by omega) hF (fun i hi => hA i (by omega)) fun h => absurd h (Nat.lt_irrefl _)
    | succ k ih =>
      intro i N o5 o6 o7 o8 o9 o10 o11 hi hF hA
      refine go_in (e204_51 (br_f (nI_ge (by omega) (by decide)) ⟨nI_in2 (by omega) (by decide), ?_⟩))
      rw [nI_c (by omega), nI_s]
      refine ih (i + 1) _ _ _ _ _ _ _ _ (by omega) (hF.sJ rfl) fun i' hi' => ?_
      rw [sJ_v]
      by_cases e : i' = i
      · rw [if_pos ⟨rfl, e⟩]; rfl
      · rw [if_neg (fun q => e q.2)]; exact hA i' (by omega)
  exact zero 8 0 M1 _ _ _ _ _ _ _ (by omega) Fr.rf fun i' hi' => absurd hi' (Nat.not_lt_zero _)
end NF
