/-! The reference's bettering: one turn. -/
theorem YV.of {w : Nat → Nat} {r : Nat} {v : Nat → Nat} {l : Nat} {P : Nat → Nat → Bool} {M N : Mm} (h : YV w r v l M) (hF : Fr P M N) (h0 : ∀ j, P 50193 j = false) (h1 : ∀ j, P 50194 j = false) (h2 : P 768 19 = false) (h3 : P 768 20 = false) (h4 : P 768 21 = false) : YV w r v l N :=
  ⟨fun f hf => by rw [(hF _ _ (h0 _)).1]; exact h.1 f hf, fun f hf => by rw [(hF _ _ (h1 _)).1]; exact h.2.1 f hf, by rw [(hF _ _ h4).1]; exact h.2.2.1, by rw [(hF _ _ h2).1]; exact h.2.2.2.1, by rw [(hF _ _ h3).1]; exact h.2.2.2.2⟩
section B8
variable {d : Nat} {M : Mm} {w : Nat → Nat} {ta : Nat → Nat → Nat → Nat} {fm : Int}
theorem lz_w {a : Nat} (h : a < 2147483648) : (nI a).toInt64 = lz (a : Int) := by
  rw [iz_n]
  exact iz_l (i32_n h)
theorem ev198 {Q : List Value → Mm → Prop} (hw : MR w M) (hb : WB w) (hD : DRel w ta M) (hp : NP M) (h1 : -1 ≤ fm) (h2 : fm < w 8) {c : Nat → Nat} (hc : ∀ l, c l < ncd w fm) (hK : ∀ N' (o4 o6 o7 o8 o9 o10 : Option Value), Fr aBt M N' → COD w c N' → BST w ta fm c N' → WM (d + 8) 198 Q 107 [some (.ref 768), some (.int (iz fm)), some (.int (nI 0)), some (.long (lz (DW w * DG w ta fm c))), o4, some (.int (nI 0)), o6, o7, o8, o9, o10] [] N') : ∀ j l N (o2 o4 o5 o6 o7 o8 o9 o10 : Option Value), l + j = w 0 + 1 → Fr aBt M N → COD w c N → (∀ i, i < l → N.1 50202 i = nI (loC (lG w ta fm) c i) ∧ N.1 50203 i = iz (pyC (rG w ta fm) c i)) → WM (d + 8) 198 Q 31 [some (.ref 768), some (.int (iz fm)), o2, some (.int (nI l)), o4, o5, o6, o7, o8, o9, o10] [] N := by
  obtain ⟨w0, w8, w9⟩ := wb_w hb
  have wq := hb.2.2.1
  have hpt := hb.2.1.2
  obtain ⟨hK0, hK1, hK2⟩ := ncd_bd hb (fm := fm)
  intro j
  induction j with
  | zero =>
    intro l N o2 o4 o5 o6 o7 o8 o9 o10 hl hF hC hA
    have hl : l = w 0 + 1 := by omega
    subst hl
    have hw' := hw.of hF (fun j _ => rfl)
    refine go_in (e198_31 (useC (upC (c134 (d := d) hw') (by omega)) fun vs N2 h => ?_))
    obtain ⟨rfl, rfl⟩ := h
    refine e198_36 (br_t (nI_lt (by omega) (by omega)) (go_in (e198_78 (useC (upC (c186 (d := d) hw' hb (lo := loC (lG w ta fm) c) (fun i hi => (hA i hi).1) (fun i => lG_7 _ _) (b := pyC (rG w ta fm) c) (fun i hi => ⟨(hA i hi).2, bd_i32 (bd_le (rG_bd hb h2 i (c i) (show i ≤ w 0 by omega) (hc i)) (by decide))⟩)) (by omega)) fun vs N3 h => ?_))))
    obtain ⟨rfl, hF3, hdet, hcr⟩ := h
    have hF3' : Fr aBt M N3 := hF.tr (hF3.up aSv_bt)
    have hw3 := hw.of hF3' (fun j _ => rfl)
    refine e198_82 ⟨nI_in2 (by decide) (by decide), useC (upC (c136 (d := d) hw3) (by omega)) fun vs N4 h => ?_⟩
    obtain ⟨rfl, rfl⟩ := h
    refine e198_96 ?_
    have e7 : N4.1 50177 7 = nI (w 7) := hw3.n (by decide) rfl
    have hd1 : det (RSQ w (loC (lG w ta fm) c)) (w 0 + 1) = DG w ta fm c := by
      rw [← RY_RSQ w (rBy w fm)]
      rfl
    rw [nI_c (by decide), e7, lz_w (show w 7 < 2147483648 by omega), lz_w (show w 2 + w 3 + w 4 + w 5 < 2147483648 by omega), hdet, lz_mul, lz_mul, hd1]
    refine hK N4 _ _ _ _ _ _ hF3' (hC.of hF3 (fun j => rfl)) ⟨by rw [hdet, hd1], fun l hl => ?_⟩
    rw [hcr l (by omega), ← RY_RSQ w (rBy w fm)]
    rfl
  | succ j ih =>
    intro l N o2 o4 o5 o6 o7 o8 o9 o10 hl hF hC hA
    have hw' := hw.of hF (fun j _ => rfl)
    refine go_in (e198_31 (useC (upC (c134 (d := d) hw') (by omega)) fun vs N2 h => ?_))
    obtain ⟨rfl, rfl⟩ := h
    have hcl := hc l
    refine e198_36 (br_f (nI_nlt (by omega) (by omega)) ⟨nI_in2 (by omega) (by decide), ?_⟩)
    rw [nI_c (by omega), hC l (by omega)]
    refine useC (c196 (d := d) hw' hb (hD.of hF (fun j => rfl)) (hp.of hF rfl rfl) h1 h2 (l := l) (c := c l) (by omega) (by omega) (fun q => by have := hK2 q; omega)) fun vs N3 h => ?_
    obtain ⟨rfl, hF3, hY3⟩ := h
    refine e198_51 ⟨nI_in2 (by omega) (by decide), ?_⟩
    rw [nI_c (by omega), hY3.2.2.2.2.1]
    have hF4 : Fr aBt M (sI N3 50202 l (nI (lowS (yW w (rBy w fm)) (kW w) (vBy w ta fm l (c l)) l))) := (hF.tr (hF3.up aYB_bt)).sI rfl
    have hY4 : YV w (rBy w fm) (vBy w ta fm l (c l)) l (sI N3 50202 l (nI (lowS (yW w (rBy w fm)) (kW w) (vBy w ta fm l (c l)) l))) := hY3.2.of ((Fr.rf (P := fun k _ => Nat.beq k 50202)).sI rfl) (fun j => rfl) (fun j => rfl) rfl rfl rfl
    refine useC (upC (c197 (d := d) hb h1 h2 hY4) (by omega)) fun vs N5 h => ?_
    obtain ⟨rfl, rfl⟩ := h
    refine e198_71 ⟨nI_in2 (by omega) (by decide), ?_⟩
    rw [nI_c (by omega), nI_s]
    have hC3 := hC.of hF3 (fun j => rfl)
    refine ih (l + 1) _ _ _ _ _ _ _ _ _ (by omega) (hF4.sI rfl) (fun i hi => by rw [sI_v, if_neg (by omega), sI_v, if_neg (by omega)]; exact hC3 i hi) fun i hi => ?_
    rw [sI_v, if_neg (by omega), sI_v, sI_v]
    by_cases e : i = l
    · subst e
      rw [if_pos ⟨rfl, rfl⟩, if_pos ⟨rfl, rfl⟩]
      refine ⟨?_, rfl⟩
      show nI _ = nI (lG w ta fm i (c i))
      rw [lG_at (by omega)]
    · rw [if_neg (fun q => e q.2), if_neg (fun q => e q.2), sI_v, if_neg (by omega), (hF3 50202 i rfl).1, (hF3 50203 i rfl).1]
      exact hA i (by omega)
theorem cd198 {Q : List Value → Mm → Prop} (hw : MR w M) (hb : WB w) (hD : DRel w ta M) (hp : NP M) (h1 : -1 ≤ fm) (h2 : fm < w 8) {c : Nat → Nat} (hc : ∀ l, c l < ncd w fm) {l : Nat} (hl : l ≤ w 0) {e : Nat → Nat} {mo : Bool} (hK : ∀ N' (o4 o6 o7 o8 o9 o10 : Option Value), Fr aBt M N' → BST w ta fm c N' → (∀ i, i ≤ w 0 → N'.1 50208 i = nI (if i = l then (scS (VG w ta fm c l) (OG w ta fm c l) (c l) (ncd w fm)).2.1 else e i)) → WM (d + 8) 198 Q 218 [some (.ref 768), some (.int (iz fm)), some (.int (nI (cond (mo || (scS (VG w ta fm c l) (OG w ta fm c l) (c l) (ncd w fm)).2.2) 1 0))), some (.long (lz (DW w * DG w ta fm c))), o4, some (.int (nI l)), o6, o7, o8, o9, o10] [] N') : ∀ j k N (o4 o7 o9 o10 : Option Value), k + j = ncd w fm → Fr aBt M N → BST w ta fm c N → (∀ i, i ≤ w 0 → N.1 50208 i = nI (if i = l then (scS (VG w ta fm c l) (OG w ta fm c l) (c l) k).2.1 else e i)) → i64 (scS (VG w ta fm c l) (OG w ta fm c l) (c l) k).1 → WM (d + 8) 198 Q 143 [some (.ref 768), some (.int (iz fm)), some (.int (nI (cond (mo || (scS (VG w ta fm c l) (OG w ta fm c l) (c l) k).2.2) 1 0))), some (.long (lz (DW w * DG w ta fm c))), o4, some (.int (nI l)), some (.long (lz (scS (VG w ta fm c l) (OG w ta fm c l) (c l) k).1)), o7, some (.int (nI k)), o9, o10] [] N := by
  obtain ⟨w0, w8, w9⟩ := wb_w hb
  have wq := hb.2.2.1
  have hyB := yB_of hb (rBy_lt hb (fm := fm))
  obtain ⟨hK0, hK1, hK2⟩ := ncd_bd hb (fm := fm)
  intro j
  induction j with
  | zero =>
    intro k N o4 o7 o9 o10 hk hF hB hC hi
    have hk : k = ncd w fm := by omega
    subst hk
    have hw' := hw.of hF (fun j _ => rfl)
    refine go_in (e198_143 (useC (upC (c195 (d := d) hw' hb h1 h2) (by omega)) fun vs N2 h => ?_))
    obtain ⟨rfl, rfl⟩ := h
    exact e198_150 (br_t (nI_le (Nat.le_refl _) (by omega)) (hK N2 _ _ _ _ _ _ hF hB hC))
  | succ j ih =>
    intro k N o4 o7 o9 o10 hk hF hB hC hi
    have hw' := hw.of hF (fun j _ => rfl)
    refine go_in (e198_143 (useC (upC (c195 (d := d) hw' hb h1 h2) (by omega)) fun vs N2 h => ?_))
    obtain ⟨rfl, rfl⟩ := h
    refine e198_150 (br_f (nI_ge (by omega) (by omega)) ?_)
    refine useC (c196 (d := d) hw' hb (hD.of hF (fun j => rfl)) (hp.of hF rfl rfl) h1 h2 (l := l) (c := k) (by omega) (by omega) (fun q => by have := hK2 q; omega)) fun vs N3 h => ?_
    obtain ⟨rfl, hF3, hY3⟩ := h
    have hF3' := hF.tr (hF3.up aYB_bt)
    have hB3 := hB.of hF3 rfl (fun j => rfl)
    refine e198_162 (useC (upC (c197 (d := d) hb h1 h2 hY3.2) (by omega)) fun vs N4 h => ?_)
    obtain ⟨rfl, rfl⟩ := h
    refine e198_167 ?_
    rw [hY3.2.2.2.2.1]
    have hw3 := hw.of hF3' (fun j _ => rfl)
    refine useC (upC (c187 (d := d) (q := rBy w fm) hw3 hb (x := 50204) (off := 0) (low := lowS (yW w (rBy w fm)) (kW w) (vBy w ta fm l k) l) (R := UG w ta fm c) rfl rfl (show 0 + w 0 < 8 by omega) (by decide) (fun i hi => by rw [Nat.zero_add]; exact hB3.2 i hi) (Nat.le_trans lowS_le (by omega))) (by omega)) fun vs N5 h => ?_
    obtain ⟨rfl, rfl⟩ := h
    have hrb := rG_bd (ta := ta) hb h2 l k hl (show k < ncd w fm by omega)
    have hv : (rG w ta fm l k) * (DW w * DG w ta fm c) + aws (yW w (rBy w fm)) (UG w ta fm c) (lowS (yW w (rBy w fm)) (kW w) (vBy w ta fm l k) l) 4 * (w 6 : Int) = VG w ta fm c l k := by
      unfold VG vC
      rw [lG_at (by omega)]
      show _ = rG w ta fm l k * (DG w ta fm c * DW w) + _
      grind
    have hgi : (iz (gBy w fm (vBy w ta fm l k) l)).toInt64 = lz (rG w ta fm l k) := iz_l (bd_i32 (bd_le hrb (by decide)))
    have hvb := vC_bd (p := w 6) (q := w 7) (r := rG w ta fm) (lo := lG w ta fm) (K := ncd w fm) hyB wq.2.1 wq.2.2 (rG_bd hb h2) hc (l := l) (k := k) hl (by omega)
    refine e198_183 ?_
    rw [hgi, lz_mul, lz_add, hv]
    have hst : scS (VG w ta fm c l) (OG w ta fm c l) (c l) (k + 1) = if (scS (VG w ta fm c l) (OG w ta fm c l) (c l) k).1 < VG w ta fm c l k then (VG w ta fm c l k, (k, true)) else scS (VG w ta fm c l) (OG w ta fm c l) (c l) k := rfl
    have hC3 : ∀ i, i ≤ w 0 → N5.1 50208 i = nI (if i = l then (scS (VG w ta fm c l) (OG w ta fm c l) (c l) k).2.1 else e i) := fun i hi => by rw [(hF3 50208 i rfl).1]; exact hC i hi
    rw [cmp_gt, lz_lt hi (i64_of hvb (by decide))]
    refine ⟨fun q => go_in (e198_197 ⟨nI_in2 (by omega) (by decide), ?_⟩), fun q => go_in (e198_212 ?_)⟩
    · rw [if_pos q] at hst
      rw [nI_c (by omega)]
      refine go_in (e198_212 ?_)
      rw [nI_s]
      have t := ih (k + 1) (sI N5 50208 l (nI k)) none none none none (by omega) (hF3'.sI rfl) (hB3.of ((Fr.rf (P := fun k _ => Nat.beq k 50208)).sI rfl) rfl (fun j => rfl)) (fun i hi => by
        rw [sI_v, hst]
        by_cases e : i = l
        · rw [if_pos ⟨rfl, e⟩, if_pos e]
        · rw [if_neg (fun q => e q.2), if_neg e, hC3 i hi, if_neg e]) (by rw [hst]; exact i64_of hvb (by decide))
      rw [hst, Bool.or_true] at t
      exact t
    · rw [if_neg q] at hst
      rw [nI_s]
      have t := ih (k + 1) N5 none none none none (by omega) hF3' hB3 (by rw [hst]; exact hC3) (by rw [hst]; exact hi)
      rw [hst] at t
      exact t
theorem lv198 {Q : List Value → Mm → Prop} (hw : MR w M) (hb : WB w) (hD : DRel w ta M) (hp : NP M) (h1 : -1 ≤ fm) (h2 : fm < w 8) {c : Nat → Nat} (hc : ∀ l, c l < ncd w fm) (hK : ∀ N' (o3 o4 o5 o6 o7 o8 o9 o10 : Option Value), Fr aBt M N' → BST w ta fm c N' → COD w (NG w ta fm c) N' → WM (d + 8) 198 Q 25 [some (.ref 768), some (.int (iz fm)), some (.int (nI (cond (IG w ta fm c) 1 0))), o3, o4, o5, o6, o7, o8, o9, o10] [] N') : ∀ j l N (o4 o6 o7 o8 o9 o10 : Option Value), l + j = w 0 + 1 → Fr aBt M N → BST w ta fm c N → (∀ i, i ≤ w 0 → N.1 50208 i = nI (if i < l then NG w ta fm c i else c i)) → WM (d + 8) 198 Q 107 [some (.ref 768), some (.int (iz fm)), some (.int (nI (cond (anB (MG w ta fm c) l) 1 0))), some (.long (lz (DW w * DG w ta fm c))), o4, some (.int (nI l)), o6, o7, o8, o9, o10] [] N := by
  obtain ⟨w0, w8, w9⟩ := wb_w hb
  have wq := hb.2.2.1
  have hpt := hb.2.1.2
  have hyB := yB_of hb (rBy_lt hb (fm := fm))
  obtain ⟨hK0, hK1, hK2⟩ := ncd_bd hb (fm := fm)
  intro j
  induction j with
  | zero =>
    intro l N o4 o6 o7 o8 o9 o10 hl hF hB hC
    have hl : l = w 0 + 1 := by omega
    subst hl
    refine go_in (e198_107 (useC (upC (c134 (d := d) (hw.of hF (fun j _ => rfl))) (by omega)) fun vs N2 h => ?_))
    obtain ⟨rfl, rfl⟩ := h
    refine e198_113 (br_t (nI_lt (by omega) (by omega)) (go_in (e198_224 ?_)))
    exact hK N2 _ _ _ _ _ _ _ _ hF hB fun i hi => by rw [hC i hi, if_pos (by omega)]
  | succ j ih =>
    intro l N o4 o6 o7 o8 o9 o10 hl hF hB hC
    have hw' := hw.of hF (fun j _ => rfl)
    refine go_in (e198_107 (useC (upC (c134 (d := d) hw') (by omega)) fun vs N2 h => ?_))
    obtain ⟨rfl, rfl⟩ := h
    have e7 : N2.1 50177 7 = nI (w 7) := hw'.n (by decide) rfl
    refine e198_113 (br_f (nI_nlt (by omega) (by omega)) ⟨nI_in2 (by omega) (by decide), nI_in2 (by decide) (by decide), ?_⟩)
    refine useC (upC (c136 (d := d) hw') (by omega)) fun vs N3 h => ?_
    obtain ⟨rfl, rfl⟩ := h
    refine e198_136 ?_
    have hown := owC_bd (p := w 6) (q := w 7) (r := rG w ta fm) (lo := lG w ta fm) (K := ncd w fm) hyB wq.2.1 wq.2.2 (rG_bd hb h2) hc (l := l) (show l ≤ w 0 by omega)
    have ho : UG w ta fm c l * (w 7 : Int) * ((w 2 + w 3 + w 4 + w 5 : Nat) : Int) = OG w ta fm c l := Int.mul_assoc _ _ _
    rw [nI_c (by omega), nI_c (by decide), hB.2 l (by omega), e7, lz_w (show w 7 < 2147483648 by omega), lz_w (show w 2 + w 3 + w 4 + w 5 < 2147483648 by omega), lz_mul, lz_mul, ho]
    have hs := (nxC_v (w := w) (ta := ta) (fm := fm) (c := c) (l := l)).resolve_right (by omega)
    have t := cd198 (d := d) (Q := Q) hw hb hD hp h1 h2 hc (l := l) (by omega) (e := fun i => if i < l then NG w ta fm c i else c i) (mo := anB (MG w ta fm c) l) (fun N' o4 o6 o7 o8 o9 o10 hF' hB' hC' => by
      rw [hs.1] at hC'
      rw [hs.2]
      refine go_in (e198_218 ?_)
      rw [nI_s]
      exact ih (l + 1) N' _ _ _ _ _ _ (by omega) hF' hB' fun i hi => by
        rw [hC' i hi]
        by_cases e : i = l
        · subst e
          rw [if_pos rfl, if_pos (by omega)]
        · by_cases e2 : i < l
          · rw [if_neg e, if_pos e2, if_pos (by omega)]
          · rw [if_neg e, if_neg e2, if_neg (by omega)]) (ncd w fm) 0 N3 none none none none (by omega) hF hB (fun i hi => by
        rw [hC i hi]
        by_cases e : i = l
        · subst e
          rw [if_pos rfl, if_neg (by omega)]
          rfl
        · rw [if_neg e]) (i64_of hown (by decide))
    have e0 : (scS (VG w ta fm c l) (OG w ta fm c l) (c l) 0) = (OG w ta fm c l, (c l, false)) := rfl
    rw [e0, Bool.or_false] at t
    exact t
end B8
