/-! The reference's edge; its answer, owner, owned. -/
def sW1 (M : Mm) (i : Nat) (a : Int32) : Mm := sI M 50177 i a
theorem sW1_v (M : Mm) (i : Nat) (a : Int32) (k j : Nat) : (sW1 M i a).1 k j = if k = 50177 ∧ j = i then a else M.1 k j := rfl
theorem sW1_own (M : Mm) (i k j : Nat) : (sW1 M i (M.1 50177 i)).1 k j = M.1 k j := by
  rw [sW1_v]
  split
  · rename_i e; rw [e.1, e.2]
  · rfl
theorem sW1_tr {P : Nat → Nat → Bool} {M N : Mm} {i : Nat} {a : Int32} (h : Fr P (sW1 M i a) N) (a' : Int32) : Fr P (sW1 M i a') (sW1 N i a') := fun k j q => by
  refine ⟨?_, (h k j q).2⟩
  have e := (h k j q).1
  rw [sW1_v] at e
  rw [sW1_v, sW1_v]
  split
  · rfl
  · rename_i h7
    rw [if_neg h7] at e
    exact e
theorem sW1_out {P : Nat → Nat → Bool} {M N : Mm} {i : Nat} (h : Fr P (sW1 M i (M.1 50177 i)) N) : Fr P M N := fun k j q => ⟨by rw [(h k j q).1, sW1_own], (h k j q).2⟩
theorem sW1_in {P : Nat → Nat → Bool} {M N : Mm} {i : Nat} (h : Fr P M N) : Fr P (sW1 M i (M.1 50177 i)) N := fun k j q => ⟨by rw [(h k j q).1, sW1_own], (h k j q).2⟩
theorem MR.co {w : Nat → Nat} {M : Mm} (h : MR w M) {f : Nat} (hf : f < 3) (c : Nat) : MR (wC w f c) (sW1 M (20 + 5 * f) (nI c)) := fun i hi => by
  rw [sW1_v]
  by_cases e : i = 20 + 5 * f
  · subst e
    have hs : shf (20 + 5 * f) = false := shf_no (by omega)
    rw [if_pos ⟨rfl, rfl⟩]
    unfold wv
    rw [hs, iz_n]
    show iz _ = iz ((wC w f c (20 + 5 * f) : Nat) : Int)
    unfold wC
    rw [if_pos rfl]
  · rw [if_neg (fun q => e q.2), h i hi]
    unfold wv
    rw [wC_v e]
theorem DRel.co {w : Nat → Nat} {ta : Nat → Nat → Nat → Nat} {M : Mm} (h : DRel w ta M) {f : Nat} (hf : f < 3) (c : Nat) (a : Int32) : DRel (wC w f c) ta (sW1 M (20 + 5 * f) a) := by
  have hF : Fr (fun k j => Nat.beq k 50177 && Nat.blt j 475) M (sW1 M (20 + 5 * f) a) := Fr.rf.sI (by rw [show Nat.blt (20 + 5 * f) 475 = true from Nat.blt_eq.mpr (by omega)]; rfl)
  have h2 := h.ge hF fun j hj => by
    cases hq : Nat.blt j 475 with
    | true => have := Nat.le_of_ble_eq_true hq; omega
    | false => exact Bool.and_false _
  intro q hq
  rw [wC_v (by omega)] at hq
  exact h2 q hq
theorem aBt_re : ∀ k j, aBt k j = true → aRe k j = true := fun k j h => by
  unfold aBt aSv at h
  simp only [Bool.or_eq_true, Bool.and_eq_true, Nat.beq_eq] at h
  rcases h with h | h
  · exact aBD_re k j (aYB_bd k j h)
  · exact aRe_t.mpr (by omega)
section RE
variable {d : Nat} {M : Mm} {w : Nat → Nat} {ta : Nat → Nat → Nat → Nat}
theorem c199 (hw : MR w M) (hb : WB w) (hD : DRel w ta M) (hp : NP M) {f l : Nat} (hf : f < w 8) (hl : l ≤ w 0) : SC (d + 10) 199 [.ref 768, .int (nI f), .int (nI l)] M (fun vs N => vs = [.int (nI (AG w ta (f : Int) l))] ∧ Fr aRe M N ∧ N.1 768 0 = nI 0) := by
  obtain ⟨w0, w8, w9⟩ := wb_w hb
  refine sC (by decide) rfl (go_in (e199_0 ?_))
  obtain ⟨M1, hM1⟩ : ∃ M1, M1 = sI M 768 0 (nI 0) := ⟨_, rfl⟩
  have hF1 : Fr aRe M M1 := by rw [hM1]; exact Fr.rf.sI rfl
  have e10 : M1.1 768 0 = nI 0 := by rw [hM1, sI_v, if_pos ⟨rfl, rfl⟩]
  rw [← hM1, iz_n f]
  have hw1 := hw.of hF1 (fun j _ => rfl)
  refine useC (upC (c138 (d := d) hw1 hb (a := (f : Int)) (i32_n (by omega))) (by omega)) fun vs N h => ?_
  obtain ⟨rfl, rfl⟩ := h
  rw [if_pos (by omega)]
  refine e199_11 ⟨fun e => absurd rfl e, fun _ => ?_⟩
  rw [iz_n l]
  refine useC (upC (c137 (d := d) hw1 hb (a := (l : Int)) (i32_n (by omega))) (by omega)) fun vs N h => ?_
  obtain ⟨rfl, rfl⟩ := h
  rw [if_pos (by omega), ← iz_n l]
  refine e199_19 ⟨fun _ => go_in (e199_26 (go_in (e199_27 (useC (upC (c130f (d := d)) (by omega)) fun vs N h => ?_)))), fun e => absurd rfl e⟩
  obtain ⟨rfl, rfl⟩ := h
  refine e199_31 ⟨fun _ => go_in (e199_36 ?_), fun e => absurd rfl e⟩
  refine useC (c198 (d := d) hw1 hb (hD.of hF1 (fun j => rfl)) (hp.of hF1 rfl rfl) (fm := (f : Int)) (by omega) (by omega)) fun vs N2 h => ?_
  obtain ⟨rfl, hF2, -, hC⟩ := h
  refine e199_41 ⟨nI_in2 (by omega) (by decide), ?_⟩
  rw [nI_c (by omega), hC l hl]
  exact ⟨rfl, rfl, hF1.tr (hF2.up aBt_re), by rw [(hF2 768 0 rfl).1]; exact e10⟩
theorem c200 (hw : MR w M) (hb : WB w) (hD : DRel w ta M) (hp : NP M) {f l : Nat} (hf : f < w 8) (hl : l ≤ w 0) : SC (d + 10) 200 [.ref 768, .int (nI f), .int (nI l)] M (fun vs N => vs = [.int (nI (wnr (w 8) (AG w ta (-1) l) f))] ∧ Fr aRe M N ∧ N.1 768 0 = nI 0) := by
  obtain ⟨w0, w8, w9⟩ := wb_w hb
  refine sC (by decide) rfl (go_in (e200_0 ?_))
  obtain ⟨M1, hM1⟩ : ∃ M1, M1 = sI M 768 0 (nI 0) := ⟨_, rfl⟩
  have hF1 : Fr aRe M M1 := by rw [hM1]; exact Fr.rf.sI rfl
  have e10 : M1.1 768 0 = nI 0 := by rw [hM1, sI_v, if_pos ⟨rfl, rfl⟩]
  rw [← hM1, iz_n f]
  have hw1 := hw.of hF1 (fun j _ => rfl)
  refine useC (upC (c138 (d := d) hw1 hb (a := (f : Int)) (i32_n (by omega))) (by omega)) fun vs N h => ?_
  obtain ⟨rfl, rfl⟩ := h
  rw [if_pos (by omega), ← iz_n f]
  refine e200_11 ⟨fun e => absurd rfl e, fun _ => ?_⟩
  rw [iz_n l]
  refine useC (upC (c137 (d := d) hw1 hb (a := (l : Int)) (i32_n (by omega))) (by omega)) fun vs N h => ?_
  obtain ⟨rfl, rfl⟩ := h
  rw [if_pos (by omega), ← iz_n l]
  refine e200_19 ⟨fun _ => go_in (e200_26 (go_in (e200_27 (useC (upC (c130f (d := d)) (by omega)) fun vs N h => ?_)))), fun e => absurd rfl e⟩
  obtain ⟨rfl, rfl⟩ := h
  refine e200_31 ⟨fun _ => go_in (e200_36 ?_), fun e => absurd rfl e⟩
  rw [nI_neg1]
  refine useC (c198 (d := d) hw1 hb (hD.of hF1 (fun j => rfl)) (hp.of hF1 rfl rfl) (fm := -1) (by omega) (by omega)) fun vs N2 h => ?_
  obtain ⟨rfl, hF2, -, hC⟩ := h
  have hF12 := hF1.tr (hF2.up aBt_re)
  have hlt := AG_lt (w := w) (ta := ta) (fm := -1) hb l
  have hK := (ncd_bd hb (fm := -1)).2.1
  refine e200_41 ⟨nI_in2 (by omega) (by decide), ?_⟩
  rw [nI_c (by omega), hC l hl, nI_neg1]
  refine useC (upC (c194 (d := d) (hw.of hF12 (fun j _ => rfl)) hb (hD.of hF12 (fun j => rfl)) (hp.of hF12 rfl rfl) (fm := -1) (by omega) (by omega) (l := l) (c := AG w ta (-1) l) (by omega) (by omega)) (by omega)) fun vs N3 h => ?_
  obtain ⟨rfl, hF3, hWR⟩ := h
  refine e200_53 ⟨nI_in2 (by omega) (by decide), ?_⟩
  rw [nI_c (by omega), hWR f hf, vBy_all]
  have hF3' : Fr aRe N2 N3 := hF3.up fun k j q => aBD_re k j (aYB_bd k j (by unfold aYB; rw [q]; rfl))
  exact ⟨rfl, rfl, hF12.tr hF3', by rw [(hF3 768 0 rfl).1, (hF2 768 0 rfl).1]; exact e10⟩
theorem c201 (hw : MR w M) (hb : WB w) (hD : DRel w ta M) (hp : NP M) {l : Nat} {g : Bool} (hl : l ≤ w 0) : SC (d + 10) 201 [.ref 768, .int (nI l), .int (nI (cond g 1 0))] M (fun vs N => vs = [.long (lz (owF w ta l g))] ∧ Fr aRe M N ∧ N.1 768 0 = nI 0) := by
  obtain ⟨w0, w8, w9⟩ := wb_w hb
  refine sC (by decide) rfl (go_in (e201_0 ?_))
  obtain ⟨M1, hM1⟩ : ∃ M1, M1 = sI M 768 0 (nI 0) := ⟨_, rfl⟩
  have hF1 : Fr aRe M M1 := by rw [hM1]; exact Fr.rf.sI rfl
  have e10 : M1.1 768 0 = nI 0 := by rw [hM1, sI_v, if_pos ⟨rfl, rfl⟩]
  rw [← hM1, iz_n l]
  have hw1 := hw.of hF1 (fun j _ => rfl)
  refine useC (upC (c137 (d := d) hw1 hb (a := (l : Int)) (i32_n (by omega))) (by omega)) fun vs N h => ?_
  obtain ⟨rfl, rfl⟩ := h
  rw [if_pos (by omega), ← iz_n l]
  refine e201_11 (useC (upC (c130f (d := d)) (by omega)) fun vs N h => ?_)
  obtain ⟨rfl, rfl⟩ := h
  refine e201_15 ⟨fun _ => go_in (e201_20 ?_), fun e => absurd rfl e⟩
  rw [nI_neg1]
  refine useC (c198 (d := d) hw1 hb (hD.of hF1 (fun j => rfl)) (hp.of hF1 rfl rfl) (fm := -1) (by omega) (by omega)) fun vs N2 h => ?_
  obtain ⟨rfl, hF2, hB, -⟩ := h
  have hF12 := hF1.tr (hF2.up aBt_re)
  have hu := UG_bd (ta := ta) (fm := -1) hb (by omega) (FG_lt (ta := ta) hb) hl
  have hd := DG_bd (ta := ta) (fm := -1) hb (FG w ta (-1))
  refine e201_25 ⟨nI_in2 (by omega) (by decide), ?_⟩
  rw [nI_c (by omega), hB.2 l hl, hB.1, lz_n 4, lz_mul]
  refine useC (upC (c183 (d := d) (bd_le hu (by decide)) (b := 4 * DG w ta (-1) (FG w ta (-1))) ⟨by omega, by omega⟩ (by omega)) (by omega)) fun vs N3 h => ?_
  obtain ⟨rfl, rfl⟩ := h
  have hF3 : Fr aRe M (sJ (sJ N2 768 22 (lz (owF w ta l false))) 768 23 (lz (owF w ta l true))) := (hF12.sJ rfl).sJ rfl
  have e0 : N2.1 768 0 = nI 0 := by rw [(hF2 768 0 rfl).1]; exact e10
  refine e201_43 ⟨fun e => go_in (e201_54 (go_in (e201_58 ?_))), fun e => go_in (e201_58 ?_)⟩
  · have hg : g = false := by cases g <;> first | rfl | exact absurd e (by decide)
    rw [hg]
    exact ⟨rfl, rfl, hF3, e0⟩
  · have hg : g = true := by cases g <;> first | rfl | exact absurd rfl e
    rw [hg]
    exact ⟨rfl, rfl, hF3, e0⟩
theorem c217 (hw : MR w M) (hb : WB w) (hD : DRel w ta M) (hp : NP M) {f l : Nat} (hf : f < w 8) (hl : l ≤ w 0) : SC (d + 10) 217 [.ref 768, .int (nI f), .int (nI l)] M (fun vs N => vs = [.int (iz (eC (edP w ta f l) (cstW w f) 18 2))] ∧ Fr aRe M N ∧ N.1 768 0 = nI 0) := by
  obtain ⟨w0, w8, w9⟩ := wb_w hb
  have hcf : cstW w f ≤ 9 := (hb.2.2.2.2.2.1 f hf).2.1
  have hf3 : f < 3 := by omega
  have hK := (ncd_bd hb (fm := (f : Int))).2.1
  have ha1 := AG_lt (w := w) (ta := ta) (fm := (f : Int)) hb l
  rw [← ed_eq (edP w ta f l) (show cstW w f < 10 by omega)]
  refine sC (by decide) rfl (go_in (e217_0 ?_))
  obtain ⟨M1, hM1⟩ : ∃ M1, M1 = sI M 768 0 (nI 0) := ⟨_, rfl⟩
  have hF1 : Fr aRe M M1 := by rw [hM1]; exact Fr.rf.sI rfl
  have e10 : M1.1 768 0 = nI 0 := by rw [hM1, sI_v, if_pos ⟨rfl, rfl⟩]
  rw [← hM1, iz_n f]
  have hw1 := hw.of hF1 (fun j _ => rfl)
  refine useC (upC (c138 (d := d) hw1 hb (a := (f : Int)) (i32_n (by omega))) (by omega)) fun vs N h => ?_
  obtain ⟨rfl, rfl⟩ := h
  rw [if_pos (by omega), ← iz_n f]
  refine e217_11 ⟨fun e => absurd rfl e, fun _ => ?_⟩
  rw [iz_n l]
  refine useC (upC (c137 (d := d) hw1 hb (a := (l : Int)) (i32_n (by omega))) (by omega)) fun vs N h => ?_
  obtain ⟨rfl, rfl⟩ := h
  rw [if_pos (by omega), ← iz_n l]
  refine e217_19 ⟨fun _ => go_in (e217_26 (go_in (e217_27 (useC (upC (c130f (d := d)) (by omega)) fun vs N h => ?_)))), fun e => absurd rfl e⟩
  obtain ⟨rfl, rfl⟩ := h
  have hco : N.1 50177 (20 + 5 * f) = nI (cstW w f) := hw1.n (by omega) (shf_no (by omega))
  have hcoM : M.1 50177 (20 + 5 * f) = nI (cstW w f) := hw.n (by omega) (shf_no (by omega))
  refine e217_31 ⟨fun _ => go_in (e217_36 ?_), fun e => absurd rfl e⟩
  rw [nI_mul, nI_add, nI_add, show 17 + 5 * f + 3 = 20 + 5 * f by omega, nI_c (by omega), hco]
  refine ⟨nI_in2 (by omega) (by decide), ?_⟩
  rw [iz_n f]
  refine useC (c198 (d := d) hw1 hb (hD.of hF1 (fun j => rfl)) (hp.of hF1 rfl rfl) (fm := (f : Int)) (by omega) (by omega)) fun vs N2 h => ?_
  obtain ⟨rfl, hF2, -, hC⟩ := h
  refine e217_58 ⟨nI_in2 (by omega) (by decide), ?_⟩
  rw [nI_c (show l < 2147483648 by omega), hC l hl]
  have fb : ∀ {z : Int} {n : Nat}, -10 ≤ z → z ≤ 10 → n ≤ 10 → i32 z ∧ i32 ((n : Int) - z) ∧ i32 (z - (n : Int)) := fun h1 h2 h3 => ⟨⟨by omega, by omega⟩, ⟨by omega, by omega⟩, ⟨by omega, by omega⟩⟩
  have loop : ∀ k c (fo : Int) N (a : Int32), c + k = 10 → -1 ≤ fo → fo ≤ 9 → Fr aRe (sW1 M (20 + 5 * f) a) N → N.1 768 0 = nI 0 → WM (d + 9) 217 (fun vs N => vs = [.int (iz (eR (edP w ta f l) (cstW w f) k c fo))] ∧ Fr aRe M N ∧ N.1 768 0 = nI 0) 72 [some (.ref 768), some (.int (iz (f : Int))), some (.int (nI l)), some (.int (nI (20 + 5 * f))), some (.int (nI (cstW w f))), some (.int (nI (AG w ta (f : Int) l))), some (.int (iz fo)), some (.int (nI c))] [] N := by
    intro k
    induction k with
    | zero =>
      intro c fo N a hc h1 h2 hF h0
      have hc : c = 10 := by omega
      subst hc
      refine go_in (e217_72 (br_t (nI_le (Nat.le_refl _) (by decide)) (go_in (e217_147 ⟨nI_in2 (by omega) (by decide), rfl, rfl, ?_, ?_⟩))))
      · rw [nI_c (by omega)]
        refine sW1_out (i := 20 + 5 * f) ?_
        rw [hcoM]
        exact sW1_tr hF _
      · rw [sI_v, if_neg (by omega)]
        exact h0
    | succ k ih =>
      intro c fo N a hc h1 h2 hF h0
      have hst : eR (edP w ta f l) (cstW w f) (k + 1) c fo = if c = cstW w f ∨ (0 ≤ fo ∧ max (fo - cstW w f) (-(fo - cstW w f)) ≤ max ((c : Int) - cstW w f) (-((c : Int) - cstW w f))) then eR (edP w ta f l) (cstW w f) k (c + 1) fo else if edP w ta f l c = true then eR (edP w ta f l) (cstW w f) k (c + 1) c else eR (edP w ta f l) (cstW w f) k (c + 1) fo := rfl
      have skip : ∀ (fo' : Int) N (a : Int32), -1 ≤ fo' → fo' ≤ 9 → Fr aRe (sW1 M (20 + 5 * f) a) N → N.1 768 0 = nI 0 → eR (edP w ta f l) (cstW w f) (k + 1) c fo = eR (edP w ta f l) (cstW w f) k (c + 1) fo' → WM (d + 9) 217 (fun vs N => vs = [.int (iz (eR (edP w ta f l) (cstW w f) (k + 1) c fo))] ∧ Fr aRe M N ∧ N.1 768 0 = nI 0) 141 [some (.ref 768), some (.int (iz (f : Int))), some (.int (nI l)), some (.int (nI (20 + 5 * f))), some (.int (nI (cstW w f))), some (.int (nI (AG w ta (f : Int) l))), some (.int (iz fo')), some (.int (nI c))] [] N := by
        intro fo' N a h1 h2 hF h0 he
        refine go_in (e217_141 ?_)
        rw [nI_s, he]
        exact ih (c + 1) fo' N a (by omega) h1 h2 hF h0
      have work : ¬ (c = cstW w f ∨ (0 ≤ fo ∧ max (fo - cstW w f) (-(fo - cstW w f)) ≤ max ((c : Int) - cstW w f) (-((c : Int) - cstW w f)))) → WM (d + 9) 217 (fun vs N => vs = [.int (iz (eR (edP w ta f l) (cstW w f) (k + 1) c fo))] ∧ Fr aRe M N ∧ N.1 768 0 = nI 0) 113 [some (.ref 768), some (.int (iz (f : Int))), some (.int (nI l)), some (.int (nI (20 + 5 * f))), some (.int (nI (cstW w f))), some (.int (nI (AG w ta (f : Int) l))), some (.int (iz fo)), some (.int (nI c))] [] N := by
        intro hno
        rw [if_neg hno] at hst
        have hc9 : c ≤ 9 := by omega
        refine go_in (e217_113 ⟨nI_in2 (by omega) (by decide), ?_⟩)
        rw [nI_c (show 20 + 5 * f < 2147483648 by omega)]
        have hFs : Fr aRe (sW1 M (20 + 5 * f) (nI c)) (sW1 N (20 + 5 * f) (nI c)) := sW1_tr hF _
        have hws := (hw.co hf3 c).of hFs (fun j _ => rfl)
        have hDs := (hD.co hf3 c (nI c)).of hFs (fun j => rfl)
        have hps : NP (sW1 N (20 + 5 * f) (nI c)) := (show NP (sW1 M (20 + 5 * f) (nI c)) from hp).of hFs rfl rfl
        have w8c : wC w f c 8 = w 8 := wC_v (by omega)
        have w0c : wC w f c 0 = w 0 := wC_v (by omega)
        refine useC (c198 (d := d) hws (hb.co hf hc9) hDs hps (fm := (f : Int)) (by omega) (by rw [w8c]; omega)) fun vs N4 h => ?_
        obtain ⟨rfl, hF4, -, hC4⟩ := h
        have hF4' := hFs.tr (hF4.up aBt_re)
        have g0 : N4.1 768 0 = nI 0 := by rw [(hF4 768 0 rfl).1, sI_v, if_neg (by omega)]; exact h0
        have hKc := (ncd_bd (hb.co hf hc9) (fm := (f : Int))).2.1
        have ha2 := AG_lt (w := wC w f c) (ta := ta) (fm := (f : Int)) (hb.co hf hc9) l
        have heq : nI (AG (wC w f c) ta (f : Int) l) = nI (AG w ta (f : Int) l) ↔ AG (wC w f c) ta (f : Int) l = AG w ta (f : Int) l := by
          rw [iz_n, iz_n, iz_eq (i32_n (by omega)) (i32_n (by omega))]
          omega
        refine e217_126 ⟨nI_in2 (by omega) (by decide), ?_⟩
        rw [nI_c (show l < 2147483648 by omega), hC4 l (by rw [w0c]; exact hl), heq]
        refine ⟨fun e => ?_, fun e => ?_⟩
        · exact skip fo N4 _ h1 h2 hF4' g0 (by rw [hst, if_neg (fun (q : edP w ta f l c = true) => (show AG (wC w f c) ta (f : Int) l ≠ AG w ta (f : Int) l from of_decide_eq_true q) e)])
        · have hp : edP w ta f l c = true := decide_eq_true e
          rw [iz_n c]
          have := skip (c : Int) N4 _ (by omega) (by omega) hF4' g0 (by rw [hst, if_pos hp])
          rw [iz_n c] at this
          exact this
      have hcq : nI c = nI (cstW w f) ↔ c = cstW w f := by
        rw [iz_n, iz_n, iz_eq (i32_n (by omega)) (i32_n (by omega))]
        omega
      refine go_in (e217_72 (br_f (nI_ge (by omega) (by decide)) ?_))
      rw [hcq]
      refine ⟨fun e => skip fo N a h1 h2 hF h0 (by rw [hst, if_pos (Or.inl e)]), fun e => ?_⟩
      rw [iz_lt0 ⟨by omega, by omega⟩]
      refine ⟨fun q => work (fun e2 => by rcases e2 with e2 | e2 <;> omega), fun q => ?_⟩
      rw [iz_n c, iz_n (cstW w f), iz_sub]
      refine useC (upC (c228 (d := d) (a := (c : Int) - (cstW w f : Int)) ⟨by omega, by omega⟩) (by omega)) fun vs N4 h => ?_
      obtain ⟨rfl, rfl⟩ := h
      refine e217_99 ?_
      rw [iz_sub]
      refine useC (upC (c228 (d := d) (a := fo - (cstW w f : Int)) ⟨by omega, by omega⟩) (by omega)) fun vs N5 h => ?_
      obtain ⟨rfl, rfl⟩ := h
      refine e217_107 ?_
      rw [iz_lt ⟨by omega, by omega⟩ ⟨by omega, by omega⟩]
      rw [← iz_n c, ← iz_n (cstW w f)]
      refine ⟨fun q2 => work (fun e2 => by rcases e2 with e2 | e2 <;> omega), fun q2 => skip fo N5 a h1 h2 hF h0 (by rw [hst, if_pos (Or.inr ⟨by omega, by omega⟩)])⟩
  rw [nI_neg1]
  exact loop 10 0 (-1) N2 _ (by omega) (by omega) (by omega) (sW1_in (i := 20 + 5 * f) (hF1.tr (hF2.up aBt_re))) (by rw [(hF2 768 0 rfl).1]; exact e10)
end RE
