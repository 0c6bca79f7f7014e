/-! The reference's rests: the years. -/
def aRq (k j : Nat) : Bool := aYB k j || ((Nat.beq k 768 && Nat.beq j 38) || (Nat.ble 50209 k && Nat.ble k 50213))
theorem aYB_rq : ∀ k j, aYB k j = true → aRq k j = true := fun k j h => by unfold aRq; rw [h]; rfl
theorem aRq_re : ∀ k j, aRq k j = true → aRe k j = true := fun k j h => by
  unfold aRq at h
  simp only [Bool.or_eq_true, Bool.and_eq_true, Nat.beq_eq, Nat.ble_eq] at h
  rcases h with h | h
  · exact aBD_re k j (aYB_bd k j h)
  · exact aRe_t.mpr (by omega)
def RPL (w : Nat → Nat) (rr n : Nat) (M : Mm) : Prop := ∀ i, i ≤ w 0 → M.2.1 50211 i = lz (rqV w rr n i)
def RCO (w : Nat → Nat) (rr n : Nat) (M : Mm) : Prop := ∀ i, i ≤ w 0 → M.1 50213 i = nI (rsK w rr (rsV w rr n) n i)
theorem pqS_bd {w : Nat → Nat} (hb : WB w) {v : Nat → Nat} {a l : Nat} (hl : l ≤ 7) (hv : ∀ f, v f ≤ 3) : bd 3456 (pqS w v a l (w 8)) := by
  have h := plS_bd hb (a := a) hl hv (w 8) (Nat.le_refl _)
  have w8 := (wb_w hb).2.1
  rw [plS_pq] at h
  exact ⟨by have := h.1; omega, by have := h.2; omega⟩
section R7
variable {d : Nat} {M : Mm} {w : Nat → Nat} {ta : Nat → Nat → Nat → Nat} {rr : Nat}
theorem lv207 {Q : List Value → Mm → Prop} (hw : MR w M) (hb : WB w) (hD : DRel w ta M) (hp : NP M) (hr : rr < w 9) {n j : Nat} (hj : j < 8) (hK : ∀ N (o4 o5 o6 : Option Value), Fr aRq M N → N.2.1 768 38 = lz (DW w ^ j) → (∀ f i, f < w 8 → i ≤ w 0 → N.2.1 50210 (8 * f + i) = lz (rsV w rr (j + 1) f i)) → (∀ i, i ≤ w 0 → N.2.1 50212 i = lz (rqV w rr (j + 1) i)) → RCO w rr j N → WM (d + 9) 207 Q 277 [some (.ref 768), some (.int (nI n)), some (.int (nI rr)), some (.int (nI j)), o4, o5, o6] [] N) : ∀ m i N (o5 o6 : Option Value), i + m = w 0 + 1 → Fr aRq M N → N.2.1 768 38 = lz (DW w ^ j) → RFE w rr j N → RPL w rr j N → (∀ f i', f < w 8 → i' < i → N.2.1 50210 (8 * f + i') = lz (rsV w rr (j + 1) f i')) → (∀ i', i' < i → N.2.1 50212 i' = lz (rqV w rr (j + 1) i')) → (∀ i', i' < i → N.1 50213 i' = nI (rsK w rr (rsV w rr j) j i')) → WM (d + 9) 207 Q 84 [some (.ref 768), some (.int (nI n)), some (.int (nI rr)), some (.int (nI j)), some (.int (nI i)), o5, o6] [] N := by
  obtain ⟨w0, w8, w9⟩ := wb_w hb
  have hK0 := (ncd_bd hb (fm := -1)).2.1
  rw [ncd_all] at hK0
  intro m
  induction m with
  | zero =>
    intro i N o5 o6 hi hF hs hR hP hM hQ hC
    have hi : i = w 0 + 1 := by omega
    subst hi
    refine go_in (e207_84 (useC (upC (c134 (d := d) (hw.of hF (fun j _ => rfl))) (by omega)) fun vs N2 h => ?_))
    obtain ⟨rfl, rfl⟩ := h
    exact e207_90 (br_t (nI_lt (by omega) (by omega)) (hK N2 _ _ _ hF hs (fun f i hf hi => hM f i hf (by omega)) (fun i hi => hQ i (by omega)) fun i hi => hC i (by omega)))
  | succ m ih =>
    intro i N o5 o6 hi hF hs hR hP hM hQ hC
    have hiw : i ≤ w 0 := by omega
    -- the year by the code at rest
    have year : ∀ N (o5 o6 : Option Value), Fr aRq M N → N.2.1 768 38 = lz (DW w ^ j) → RFE w rr j N → RPL w rr j N → (∀ f i', f < w 8 → i' < i → N.2.1 50210 (8 * f + i') = lz (rsV w rr (j + 1) f i')) → (∀ i', i' < i → N.2.1 50212 i' = lz (rqV w rr (j + 1) i')) → (∀ i', i' < i + 1 → N.1 50213 i' = nI (rsK w rr (rsV w rr j) j i')) → WM (d + 9) 207 Q 155 [some (.ref 768), some (.int (nI n)), some (.int (nI rr)), some (.int (nI j)), some (.int (nI i)), o5, o6] [] N := by
      intro N o5 o6 hF hs hR hP hM hQ hC
      have hk := rsK_lt (w := w) (rr := rr) (R := rsV w rr j) (n := j) (l := i)
      refine go_in (e207_155 ⟨nI_in2 (by omega) (by decide), ?_⟩)
      rw [nI_c (by omega), hC i (by omega), nI_neg1]
      refine useC (upC (c194 (d := d) (hw.of hF (fun j _ => rfl)) hb (hD.of hF (fun j => rfl)) (hp.of hF rfl rfl) (fm := -1) (by omega) (by omega) (l := i) (c := rsK w rr (rsV w rr j) j i) (by omega) (by omega)) (by omega)) fun vs N3 h => ?_
      obtain ⟨rfl, hF3, hWR⟩ := h
      have hF3' := hF.tr (hF3.up fun k j q => aYB_rq k j (aWant_yb k j q))
      rw [vBy_all] at hWR
      refine e207_169 (useC (upC (c173 (d := d) (hw.of hF3' (fun j _ => rfl)) hb hWR (fun f => wnr_3) (l := i) (by omega) hr) (by omega)) fun vs N4 h => ?_)
      obtain ⟨rfl, hF4, hY⟩ := h
      have hF4' := hF3'.tr (hF4.up fun k j q => aYB_rq k j (aYearR_yb k j q))
      have hs4 : N4.2.1 768 38 = lz (DW w ^ j) := by rw [(hF4 768 38 rfl).2.1, (hF3 768 38 rfl).2.1]; exact hs
      have hR4 : RFE w rr j N4 := (hR.of hF3 (fun j => rfl)).of hF4 (fun j => rfl)
      have hP4 : RPL w rr j N4 := fun i hi => by rw [(hF4 50211 i rfl).2.1, (hF3 50211 i rfl).2.1]; exact hP i hi
      have hM4 : ∀ f i', f < w 8 → i' < i → N4.2.1 50210 (8 * f + i') = lz (rsV w rr (j + 1) f i') := fun f i' hf hi' => by rw [(hF4 50210 _ rfl).2.1, (hF3 50210 _ rfl).2.1]; exact hM f i' hf hi'
      have hQ4 : ∀ i', i' < i → N4.2.1 50212 i' = lz (rqV w rr (j + 1) i') := fun i' hi' => by rw [(hF4 50212 _ rfl).2.1, (hF3 50212 _ rfl).2.1]; exact hQ i' hi'
      have hC4 : ∀ i', i' < i + 1 → N4.1 50213 i' = nI (rsK w rr (rsV w rr j) j i') := fun i' hi' => by rw [(hF4 50213 _ rfl).1, (hF3 50213 _ rfl).1]; exact hC i' hi'
      refine e207_176 ?_
      have hlow : lowS (yW w rr) (kW w) (wnr (w 8) (rsK w rr (rsV w rr j) j i)) i ≤ 7 := Nat.le_trans lowS_le (by omega)
      have farm : ∀ m' f N (o5 : Option Value), f + m' = w 8 → Fr aRq M N → N.2.1 768 38 = lz (DW w ^ j) → RFE w rr j N → RPL w rr j N → YV w rr (wnr (w 8) (rsK w rr (rsV w rr j) j i)) i N → (∀ f' i', f' < w 8 → (i' < i ∨ (i' = i ∧ f' < f)) → N.2.1 50210 (8 * f' + i') = lz (rsV w rr (j + 1) f' i')) → (∀ i', i' < i → N.2.1 50212 i' = lz (rqV w rr (j + 1) i')) → (∀ i', i' < i + 1 → N.1 50213 i' = nI (rsK w rr (rsV w rr j) j i')) → WM (d + 9) 207 Q 179 [some (.ref 768), some (.int (nI n)), some (.int (nI rr)), some (.int (nI j)), some (.int (nI i)), o5, some (.int (nI f))] [] N := by
        intro m'
        induction m' with
        | zero =>
          intro f N o5 hf hF hs hR hP hY hM hQ hC
          have hf : f = w 8 := by omega
          subst hf
          have hw' := hw.of hF (fun j _ => rfl)
          refine go_in (e207_179 (useC (upC (c135 (d := d) hw') (by omega)) fun vs N2 h => ?_))
          obtain ⟨rfl, rfl⟩ := h
          refine e207_185 (br_t (nI_le (Nat.le_refl _) (by omega)) (go_in (e207_238 ?_)))
          refine useC (upC (c206 (d := d) hw' hb (l := i) (a := i - w (32 + 5 * rr + 1)) (v := wnr (w 8) (rsK w rr (rsV w rr j) j i)) hiw (fun f => wnr_3) hY.1) (by omega)) fun vs N3 h => ?_
          obtain ⟨rfl, rfl⟩ := h
          refine e207_250 ?_
          rw [hY.2.2.2.1, hs, iz_l (bd_i32 (bd_le (pqS_bd hb (show i ≤ 7 by omega) (fun f => wnr_3)) (by decide))), lz_mul]
          refine useC (upC (c187 (d := d) (q := rr) hw' hb (x := 50211) (off := 0) (low := lowS (yW w rr) (kW w) (wnr (w 8) (rsK w rr (rsV w rr j) j i)) i) (R := rqV w rr j) rfl rfl (show 0 + w 0 < 8 by omega) (by decide) (fun i hi => by rw [Nat.zero_add]; exact hP i hi) hlow) (by omega)) fun vs N5 h => ?_
          obtain ⟨rfl, rfl⟩ := h
          have hv : pqS w (wnr (w 8) (rsK w rr (rsV w rr j) j i)) (i - w (32 + 5 * rr + 1)) i (w 8) * DW w ^ j + aws (yW w rr) (rqV w rr j) (lowS (yW w rr) (kW w) (wnr (w 8) (rsK w rr (rsV w rr j) j i)) i) 4 * (w 6 : Int) = rqV w rr (j + 1) i := by
            rw [Int.mul_comm _ (w 6 : Int)]
            rfl
          refine e207_269 ⟨nI_in2 (by omega) (by decide), ?_⟩
          rw [nI_c (by omega), lz_add, hv, nI_s]
          refine ih (i + 1) _ _ _ (by omega) (hF.sJ rfl) (by rw [sJ_v, if_neg (by omega)]; exact hs) (fun f i hf hi => by rw [sJ_v, if_neg (by omega)]; exact hR f i hf hi) (fun i hi => by rw [sJ_v, if_neg (by omega)]; exact hP i hi) (fun f i' hf hi' => by rw [sJ_v, if_neg (by omega)]; exact hM f i' hf (by omega)) (fun i' hi' => ?_) hC
          rw [sJ_v]
          by_cases e : i' = i
          · rw [if_pos ⟨rfl, e⟩, e]
          · rw [if_neg (fun q => e q.2)]; exact hQ i' (by omega)
        | succ m' ih2 =>
          intro f N o5 hf hF hs hR hP hY hM hQ hC
          have hf8 : f < w 8 := by omega
          have hw' := hw.of hF (fun j _ => rfl)
          refine go_in (e207_179 (useC (upC (c135 (d := d) hw') (by omega)) fun vs N2 h => ?_))
          obtain ⟨rfl, rfl⟩ := h
          refine e207_185 (br_f (nI_ge (by omega) (by omega)) ⟨nI_in2 (by omega) (by decide), ?_⟩)
          have hgb := gnW_bd (v := wnr (w 8) (rsK w rr (rsV w rr j) j i)) hb hr hf8 (show i ≤ 7 by omega) (fun f => wnr_3)
          rw [nI_c (by omega), hY.2.1 f hf8, hY.2.2.2.1, hs, nI_mul, nI_add, iz_l (bd_i32 (bd_le hgb (by decide))), lz_mul]
          refine useC (upC (c187 (d := d) (q := rr) hw' hb (x := 50209) (off := 8 * f) (low := lowS (yW w rr) (kW w) (wnr (w 8) (rsK w rr (rsV w rr j) j i)) i) (R := rsV w rr j f) rfl rfl (show 8 * f + w 0 < 24 by omega) (by decide) (fun i hi => hR f i hf8 hi) hlow) (by omega)) fun vs N5 h => ?_
          obtain ⟨rfl, rfl⟩ := h
          refine e207_230 ⟨nI_in2 (by omega) (by decide), ?_⟩
          rw [nI_c (by omega), lz_add, rs_val hb hr hiw hf8, nI_s]
          refine ih2 (f + 1) _ _ (by omega) (hF.sJ rfl) (by rw [sJ_v, if_neg (by omega)]; exact hs) (fun f i hf hi => by rw [sJ_v, if_neg (by omega)]; exact hR f i hf hi) (fun i hi => by rw [sJ_v, if_neg (by omega)]; exact hP i hi) (hY.of ((Fr.rf (P := fun k _ => Nat.beq k 50210)).sJ rfl) (fun j => rfl) (fun j => rfl) rfl rfl rfl) (fun f' i' hf' hi' => ?_) (fun i' hi' => by rw [sJ_v, if_neg (by omega)]; exact hQ i' hi') hC
          rw [sJ_v]
          by_cases e : f' = f ∧ i' = i
          · obtain ⟨rfl, rfl⟩ := e
            rw [if_pos ⟨rfl, rfl⟩]
            rfl
          · rw [if_neg (fun q => e (by omega))]
            exact hM f' i' hf' (by omega)
      exact farm (w 8) 0 N4 _ (by omega) hF4' hs4 hR4 hP4 hY (fun f' i' hf' hi' => hM4 f' i' hf' (by omega)) hQ4 hC4
    -- searching
    have seek : ∀ m' k N (o6 : Option Value), k + m' = 4 ^ w 8 → Fr aRq M N → N.2.1 768 38 = lz (DW w ^ j) → RFE w rr j N → RPL w rr j N → (∀ f i', f < w 8 → i' < i → N.2.1 50210 (8 * f + i') = lz (rsV w rr (j + 1) f i')) → (∀ i', i' < i → N.2.1 50212 i' = lz (rqV w rr (j + 1) i')) → (∀ i', i' < i → N.1 50213 i' = nI (rsK w rr (rsV w rr j) j i')) → N.1 50213 i = nI 0 → (∀ k', k' < k → rsP w rr (rsV w rr j) j i k' = false) → WM (d + 9) 207 Q 104 [some (.ref 768), some (.int (nI n)), some (.int (nI rr)), some (.int (nI j)), some (.int (nI i)), some (.int (nI k)), o6] [] N := by
      intro m'
      induction m' with
      | zero =>
        intro k N o6 hk hF hs hR hP hM hQ hC h0 hN
        have hk : k = 4 ^ w 8 := by omega
        have hw' := hw.of hF (fun j _ => rfl)
        refine go_in (e207_104 ?_)
        rw [nI_neg1]
        refine useC (upC (c195 (d := d) hw' hb (fm := -1) (by omega) (by omega)) (by omega)) fun vs N2 h => ?_
        obtain ⟨rfl, h⟩ := h
        have h := h.symm
        subst h
        rw [ncd_all]
        refine e207_111 (br_t (nI_le (by omega) (by omega)) (go_in (e207_136 ?_)))
        rw [nI_neg1]
        refine useC (upC (c195 (d := d) hw' hb (fm := -1) (by omega) (by omega)) (by omega)) fun vs N3 h => ?_
        obtain ⟨rfl, h⟩ := h
        have h := h.symm
        subst h
        rw [ncd_all]
        have e : rsK w rr (rsV w rr j) j i = 0 := by
          unfold rsK
          rw [frs_none (n := 4 ^ w 8) fun k' hk' => hN k' (by omega)]
          rfl
        refine e207_143 (br_t (nI_le (by omega) (by omega)) (year N _ _ hF hs hR hP hM hQ fun i' hi' => ?_))
        by_cases e2 : i' = i
        · rw [e2, e]; exact h0
        · exact hC i' (by omega)
      | succ m' ih2 =>
        intro k N o6 hk hF hs hR hP hM hQ hC h0 hN
        have hw' := hw.of hF (fun j _ => rfl)
        refine go_in (e207_104 ?_)
        rw [nI_neg1]
        refine useC (upC (c195 (d := d) hw' hb (fm := -1) (by omega) (by omega)) (by omega)) fun vs N2 h => ?_
        obtain ⟨rfl, h⟩ := h
        have h := h.symm
        subst h
        rw [ncd_all]
        refine e207_111 (br_f (nI_ge (by omega) (by omega)) ?_)
        rw [hs]
        refine useC (upC (c205 (d := d) hw' hb (hD.of hF (fun j => rfl)) (hp.of hF rfl rfl) hr hiw (show k < 4 ^ w 8 by omega) hj hR) (by omega)) fun vs N3 h => ?_
        obtain ⟨rfl, hF3⟩ := h
        have hF3' := hF.tr (hF3.up aYB_rq)
        have hs3 : N3.2.1 768 38 = lz (DW w ^ j) := by rw [(hF3 768 38 rfl).2.1]; exact hs
        have hR3 : RFE w rr j N3 := hR.of hF3 (fun j => rfl)
        have hP3 : RPL w rr j N3 := fun i hi => by rw [(hF3 50211 i rfl).2.1]; exact hP i hi
        have hM3 : ∀ f i', f < w 8 → i' < i → N3.2.1 50210 (8 * f + i') = lz (rsV w rr (j + 1) f i') := fun f i' hf hi' => by rw [(hF3 50210 _ rfl).2.1]; exact hM f i' hf hi'
        have hQ3 : ∀ i', i' < i → N3.2.1 50212 i' = lz (rqV w rr (j + 1) i') := fun i' hi' => by rw [(hF3 50212 _ rfl).2.1]; exact hQ i' hi'
        have hC3 : ∀ i', i' < i → N3.1 50213 i' = nI (rsK w rr (rsV w rr j) j i') := fun i' hi' => by rw [(hF3 50213 _ rfl).1]; exact hC i' hi'
        have h03 : N3.1 50213 i = nI 0 := by rw [(hF3 50213 _ rfl).1]; exact h0
        refine e207_127 ⟨fun e => go_in (e207_136 ?_), fun e => ?_⟩
        · have hpk : rsP w rr (rsV w rr j) j i k = true := by
            cases h : rsP w rr (rsV w rr j) j i k with
            | true => rfl
            | false => rw [h] at e; exact absurd rfl e
          have ek : rsK w rr (rsV w rr j) j i = k := by
            unfold rsK
            rw [frs_some hN hpk (show k < 4 ^ w 8 by omega)]
            rfl
          rw [nI_neg1]
          refine useC (upC (c195 (d := d) (hw.of hF3' (fun j _ => rfl)) hb (fm := -1) (by omega) (by omega)) (by omega)) fun vs N4 h => ?_
          obtain ⟨rfl, h⟩ := h
          have h := h.symm
          subst h
          rw [ncd_all]
          refine e207_143 (br_f (nI_ge (by omega) (by omega)) ⟨nI_in2 (by omega) (by decide), ?_⟩)
          rw [nI_c (by omega)]
          refine year _ _ _ (hF3'.sI rfl) hs3 hR3 hP3 hM3 hQ3 fun i' hi' => ?_
          rw [sI_v]
          by_cases e2 : i' = i
          · rw [if_pos ⟨rfl, e2⟩, e2, ek]
          · rw [if_neg (fun q => e2 q.2)]; exact hC3 i' (by omega)
        · have hpk : rsP w rr (rsV w rr j) j i k = false := by
            cases h : rsP w rr (rsV w rr j) j i k with
            | false => rfl
            | true => rw [h] at e; exact absurd e (by decide)
          rw [nI_s]
          exact ih2 (k + 1) N3 _ (by omega) hF3' hs3 hR3 hP3 hM3 hQ3 hC3 h03 fun k' hk' => by
            by_cases e2 : k' = k
            · rw [e2]; exact hpk
            · exact hN k' (by omega)
    refine go_in (e207_84 (useC (upC (c134 (d := d) (hw.of hF (fun j _ => rfl))) (by omega)) fun vs N2 h => ?_))
    obtain ⟨rfl, rfl⟩ := h
    refine e207_90 (br_f (nI_nlt (by omega) (by omega)) ⟨nI_in2 (by omega) (by decide), ?_⟩)
    rw [nI_c (by omega)]
    refine seek (4 ^ w 8) 0 _ _ (by omega) (hF.sI rfl) hs hR hP hM hQ (fun i' hi' => by rw [sI_v, if_neg (by omega)]; exact hC i' hi') (by rw [sI_v, if_pos ⟨rfl, rfl⟩]) fun k' h => absurd h (Nat.not_lt_zero _)
theorem c207 (hw : MR w M) (hb : WB w) (hD : DRel w ta M) (hp : NP M) (hr : rr < w 9) {n : Nat} (hn0 : 1 ≤ n) (hn : n ≤ 8) : SC (d + 10) 207 [.ref 768, .int (nI n), .int (nI rr)] M (fun vs N => vs = [] ∧ Fr aRq M N ∧ RFE w rr n N ∧ RPL w rr n N ∧ N.2.1 768 38 = lz (DW w ^ (n - 1)) ∧ RCO w rr (n - 1) N) := by
  obtain ⟨w0, w8, w9⟩ := wb_w hb
  have wq := hb.2.2.1
  have hpt := hb.2.1.2
  refine sC (by decide) rfl (go_in (e207_0 ?_))
  have main : ∀ k j N (o4 o5 o6 : Option Value), j + k = n → Fr aRq M N → RFE w rr j N → RPL w rr j N → N.2.1 768 38 = lz (DW w ^ (j - 1)) → (0 < j → RCO w rr (j - 1) N) → WM (d + 9) 207 (fun vs N => vs = [] ∧ Fr aRq M N ∧ RFE w rr n N ∧ RPL w rr n N ∧ N.2.1 768 38 = lz (DW w ^ (n - 1)) ∧ RCO w rr (n - 1) N) 49 [some (.ref 768), some (.int (nI n)), some (.int (nI rr)), some (.int (nI j)), o4, o5, o6] [] N := by
    intro k
    induction k with
    | zero =>
      intro j N o4 o5 o6 hj hF hR hP hs hC
      have hj : j = n := by omega
      subst hj
      exact go_in (e207_49 (br_t (nI_le (Nat.le_refl _) (by omega)) (go_in (e207_343 ⟨rfl, rfl, hF, hR, hP, hs, hC (by omega)⟩))))
    | succ k ih =>
      intro j N o4 o5 o6 hj hF hR hP hs hC
      -- behind the levels
      have copy2 : ∀ m c N (o5 o6 : Option Value), c + m = 8 → Fr aRq M N → N.2.1 768 38 = lz (DW w ^ j) → RFE w rr (j + 1) N → (∀ i, i ≤ w 0 → N.2.1 50212 i = lz (rqV w rr (j + 1) i)) → (∀ i, i ≤ w 0 → i < c → N.2.1 50211 i = lz (rqV w rr (j + 1) i)) → RCO w rr j N → WM (d + 9) 207 (fun vs N => vs = [] ∧ Fr aRq M N ∧ RFE w rr n N ∧ RPL w rr n N ∧ N.2.1 768 38 = lz (DW w ^ (n - 1)) ∧ RCO w rr (n - 1) N) 310 [some (.ref 768), some (.int (nI n)), some (.int (nI rr)), some (.int (nI j)), some (.int (nI c)), o5, o6] [] N := by
        intro m
        induction m with
        | zero =>
          intro c N o5 o6 hc hF hs hR hQ hP hC
          have hc : c = 8 := by omega
          subst hc
          refine go_in (e207_310 (br_t (nI_le (Nat.le_refl _) (by decide)) (go_in (e207_337 ?_))))
          rw [nI_s]
          exact ih (j + 1) N _ _ _ (by omega) hF hR (fun i hi => hP i hi (by omega)) hs fun _ => hC
        | succ m ih2 =>
          intro c N o5 o6 hc hF hs hR hQ hP hC
          refine go_in (e207_310 (br_f (nI_ge (by omega) (by decide)) ⟨nI_in2 (by omega) (by decide), nI_in2 (by omega) (by decide), ?_⟩))
          rw [nI_c (by omega), nI_s]
          refine ih2 (c + 1) _ _ _ (by omega) (hF.sJ rfl) (by rw [sJ_v, if_neg (by omega)]; exact hs) (fun f i hf hi => by rw [sJ_v, if_neg (by omega)]; exact hR f i hf hi) (fun i hi => by rw [sJ_v, if_neg (by omega)]; exact hQ i hi) (fun i hi hic => ?_) hC
          rw [sJ_v]
          by_cases e : i = c
          · rw [if_pos ⟨rfl, e⟩, ← e]; exact hQ i hi
          · rw [if_neg (fun q => e q.2)]; exact hP i hi (by omega)
      have copy1 : ∀ m c N (o5 o6 : Option Value), c + m = 24 → Fr aRq M N → N.2.1 768 38 = lz (DW w ^ j) → (∀ f i, f < w 8 → i ≤ w 0 → N.2.1 50210 (8 * f + i) = lz (rsV w rr (j + 1) f i)) → (∀ f i, f < w 8 → i ≤ w 0 → 8 * f + i < c → N.2.1 50209 (8 * f + i) = lz (rsV w rr (j + 1) f i)) → (∀ i, i ≤ w 0 → N.2.1 50212 i = lz (rqV w rr (j + 1) i)) → RCO w rr j N → WM (d + 9) 207 (fun vs N => vs = [] ∧ Fr aRq M N ∧ RFE w rr n N ∧ RPL w rr n N ∧ N.2.1 768 38 = lz (DW w ^ (n - 1)) ∧ RCO w rr (n - 1) N) 280 [some (.ref 768), some (.int (nI n)), some (.int (nI rr)), some (.int (nI j)), some (.int (nI c)), o5, o6] [] N := by
        intro m
        induction m with
        | zero =>
          intro c N o5 o6 hc hF hs hM hR hQ hC
          have hc : c = 24 := by omega
          subst hc
          exact go_in (e207_280 (br_t (nI_le (Nat.le_refl _) (by decide)) (go_in (e207_307 (copy2 8 0 N _ _ (by omega) hF hs (fun f i hf hi => hR f i hf hi (by omega)) hQ (fun i hi h => absurd h (Nat.not_lt_zero _)) hC)))))
        | succ m ih2 =>
          intro c N o5 o6 hc hF hs hM hR hQ hC
          refine go_in (e207_280 (br_f (nI_ge (by omega) (by decide)) ⟨nI_in2 (by omega) (by decide), nI_in2 (by omega) (by decide), ?_⟩))
          rw [nI_c (by omega), nI_s]
          refine ih2 (c + 1) _ _ _ (by omega) (hF.sJ rfl) (by rw [sJ_v, if_neg (by omega)]; exact hs) (fun f i hf hi => by rw [sJ_v, if_neg (by omega)]; exact hM f i hf hi) (fun f i hf hi hfi => ?_) (fun i hi => by rw [sJ_v, if_neg (by omega)]; exact hQ i hi) hC
          rw [sJ_v]
          by_cases e : 8 * f + i = c
          · rw [if_pos ⟨rfl, e⟩, ← e]; exact hM f i hf hi
          · rw [if_neg (fun q => e q.2)]; exact hR f i hf hi (by omega)
      have work : ∀ N (o4 o5 o6 : Option Value), Fr aRq M N → RFE w rr j N → RPL w rr j N → N.2.1 768 38 = lz (DW w ^ j) → WM (d + 9) 207 (fun vs N => vs = [] ∧ Fr aRq M N ∧ RFE w rr n N ∧ RPL w rr n N ∧ N.2.1 768 38 = lz (DW w ^ (n - 1)) ∧ RCO w rr (n - 1) N) 81 [some (.ref 768), some (.int (nI n)), some (.int (nI rr)), some (.int (nI j)), o4, o5, o6] [] N := by
        intro N o4 o5 o6 hF hR hP hs
        refine go_in (e207_81 ?_)
        refine lv207 (d := d) hw hb hD hp hr (n := n) (j := j) (by omega) (fun N' o4 o5 o6 hF' hs' hM' hQ' hC' => ?_) (w 0 + 1) 0 N _ _ (by omega) hF hs hR hP (fun f i' hf h => absurd h (Nat.not_lt_zero _)) (fun i' h => absurd h (Nat.not_lt_zero _)) fun i' h => absurd h (Nat.not_lt_zero _)
        exact go_in (e207_277 (copy1 24 0 N' _ _ (by omega) hF' hs' hM' (fun f i hf hi h => absurd h (Nat.not_lt_zero _)) hQ' hC'))
      refine go_in (e207_49 (br_f (nI_ge (by omega) (by omega)) ⟨fun q => ?_, fun q => ⟨nI_in2 (by decide) (by decide), ?_⟩⟩))
      · have hj0 : j = 0 := by
          rw [zero_nI, nI_leI (by omega) (by decide)] at q
          omega
        subst hj0
        exact work N _ _ _ hF hR hP hs
      · have hj0 : 0 < j := by
          rw [zero_nI, nI_leI (by omega) (by decide)] at q
          omega
        have hw' := hw.of hF (fun j _ => rfl)
        refine useC (upC (c136 (d := d) hw') (by omega)) fun vs N3 h => ?_
        obtain ⟨rfl, rfl⟩ := h
        have e7 : N3.1 50177 7 = nI (w 7) := hw'.n (by decide) rfl
        refine e207_75 ?_
        rw [nI_c (by decide), e7, hs, lz_w (show w 7 < 2147483648 by omega), lz_w (show w 2 + w 3 + w 4 + w 5 < 2147483648 by omega), lz_mul, lz_mul]
        have ep : DW w ^ (j - 1) * ((w 7 : Int) * ((w 2 + w 3 + w 4 + w 5 : Nat) : Int)) = DW w ^ j := by
          have e1 : DW w ^ (j - 1) * DW w = DW w ^ (j - 1 + 1) := (Int.pow_succ _ _).symm
          rw [show j - 1 + 1 = j by omega] at e1
          exact e1
        rw [ep]
        exact work _ _ _ _ (hF.sJ rfl) (fun f i hf hi => by rw [sJ_v, if_neg (by omega)]; exact hR f i hf hi) (fun i hi => by rw [sJ_v, if_neg (by omega)]; exact hP i hi) (by rw [sJ_v, if_pos ⟨rfl, rfl⟩])
  have Z2 : ∀ m c N (o4 o5 o6 : Option Value), c + m = 8 → Fr aRq M N → RFE w rr 0 N → (∀ i, i < c → N.2.1 50211 i = lz 0) → WM (d + 9) 207 (fun vs N => vs = [] ∧ Fr aRq M N ∧ RFE w rr n N ∧ RPL w rr n N ∧ N.2.1 768 38 = lz (DW w ^ (n - 1)) ∧ RCO w rr (n - 1) N) 23 [some (.ref 768), some (.int (nI n)), some (.int (nI rr)), some (.int (nI c)), o4, o5, o6] [] N := by
    intro m
    induction m with
    | zero =>
      intro c N o4 o5 o6 hc hF hR hP
      have hc : c = 8 := by omega
      subst hc
      refine go_in (e207_23 (br_t (nI_le (Nat.le_refl _) (by decide)) (go_in (e207_42 ?_))))
      exact main n 0 _ _ _ _ (by omega) (hF.sJ rfl) (fun f i hf hi => by rw [sJ_v, if_neg (by omega)]; exact hR f i hf hi) (fun i hi => by rw [sJ_v, if_neg (by omega)]; exact hP i (by omega)) (by rw [sJ_v, if_pos ⟨rfl, rfl⟩]; rfl) fun h => absurd h (Nat.lt_irrefl _)
    | succ m ih =>
      intro c N o4 o5 o6 hc hF hR hP
      refine go_in (e207_23 (br_f (nI_ge (by omega) (by decide)) ⟨nI_in2 (by omega) (by decide), ?_⟩))
      rw [nI_c (by omega), nI_s]
      refine ih (c + 1) _ _ _ _ (by omega) (hF.sJ rfl) (fun f i hf hi => by rw [sJ_v, if_neg (by omega)]; exact hR f i hf hi) fun i hi => ?_
      rw [sJ_v]
      by_cases e : i = c
      · rw [if_pos ⟨rfl, e⟩]; rfl
      · rw [if_neg (fun q => e q.2)]; exact hP i (by omega)
  have Z1 : ∀ m c N (o4 o5 o6 : Option Value), c + m = 24 → Fr aRq M N → (∀ i, i < c → N.2.1 50209 i = lz 0) → WM (d + 9) 207 (fun vs N => vs = [] ∧ Fr aRq M N ∧ RFE w rr n N ∧ RPL w rr n N ∧ N.2.1 768 38 = lz (DW w ^ (n - 1)) ∧ RCO w rr (n - 1) N) 2 [some (.ref 768), some (.int (nI n)), some (.int (nI rr)), some (.int (nI c)), o4, o5, o6] [] N := by
    intro m
    induction m with
    | zero =>
      intro c N o4 o5 o6 hc hF hP
      have hc : c = 24 := by omega
      subst hc
      exact go_in (e207_2 (br_t (nI_le (Nat.le_refl _) (by decide)) (go_in (e207_21 (Z2 8 0 N _ _ _ (by omega) hF (fun f i hf hi => hP _ (by omega)) fun i h => absurd h (Nat.not_lt_zero _))))))
    | succ m ih =>
      intro c N o4 o5 o6 hc hF hP
      refine go_in (e207_2 (br_f (nI_ge (by omega) (by decide)) ⟨nI_in2 (by omega) (by decide), ?_⟩))
      rw [nI_c (by omega), nI_s]
      refine ih (c + 1) _ _ _ _ (by omega) (hF.sJ rfl) fun i hi => ?_
      rw [sJ_v]
      by_cases e : i = c
      · rw [if_pos ⟨rfl, e⟩]; rfl
      · rw [if_neg (fun q => e q.2)]; exact hP i (by omega)
  exact Z1 24 0 M _ _ _ (by omega) Fr.rf fun i h => absurd h (Nat.not_lt_zero _)
end R7
