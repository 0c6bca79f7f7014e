/-! The reference's bettering, whole. -/
section B9
variable {d : Nat} {M : Mm} {w : Nat → Nat} {ta : Nat → Nat → Nat → Nat} {fm : Int}
theorem dn198 {Q : List Value → Mm → Prop} (hw : MR w M) (hb : WB w) (hD : DRel w ta M) (hp : NP M) (h1 : -1 ≤ fm) (h2 : fm < w 8) {c : Nat → Nat} (hc : ∀ l, c l < ncd w fm) {l : Nat} (hl : l ≤ w 0) {c0 : Nat} {e : Nat → Nat} (hK : ∀ N' (o2 o4 o6 o7 o8 o9 o10 : Option Value), Fr aBt M N' → BST w ta fm c N' → (∀ i, i ≤ w 0 → N'.1 50208 i = nI (if i = l then dnS (VG w ta fm c l) (OG w ta fm c l) c0 (ncd w fm) (ncd w fm) else e i)) → WM (d + 8) 198 Q 345 [some (.ref 768), some (.int (iz fm)), o2, some (.long (lz (DW w * DG w ta fm c))), o4, some (.int (nI l)), o6, o7, o8, o9, o10] [] N') : ∀ m N (o2 o4 o7 o8 o9 o10 : Option Value), m ≤ ncd w fm → Fr aBt M N → BST w ta fm c N → (∀ i, i ≤ w 0 → N.1 50208 i = nI (if i = l then dnS (VG w ta fm c l) (OG w ta fm c l) c0 (ncd w fm) (ncd w fm - m) else e i)) → WM (d + 8) 198 Q 268 [some (.ref 768), some (.int (iz fm)), o2, some (.long (lz (DW w * DG w ta fm c))), o4, some (.int (nI l)), some (.int (iz ((m : Int) - 1))), o7, o8, o9, o10] [] N := by
  obtain ⟨w0, w8, w9⟩ := wb_w hb
  have wq := hb.2.2.1
  have hpt := hb.2.1.2
  have hyB := yB_of hb (rBy_lt hb (fm := fm))
  obtain ⟨hK0, hK1, hK2⟩ := ncd_bd hb (fm := fm)
  intro m
  induction m with
  | zero =>
    intro N o2 o4 o7 o8 o9 o10 hm hF hB hC
    refine go_in (e198_268 ⟨fun _ => hK N _ _ _ _ _ _ _ hF hB hC, fun q => ?_⟩)
    rw [iz_lt0 ⟨by omega, by omega⟩] at q
    omega
  | succ m ih =>
    intro N o2 o4 o7 o8 o9 o10 hm hF hB hC
    have hw' := hw.of hF (fun j _ => rfl)
    have em : iz (((m + 1 : Nat) : Int) - 1) = nI m := by rw [iz_n]; congr 1; omega
    rw [em]
    refine go_in (e198_268 ⟨fun q => ?_, fun _ => ?_⟩)
    · rw [iz_n, iz_lt0 (i32_n (by omega))] at q
      omega
    refine useC (c196 (d := d) hw' hb (hD.of hF (fun j => rfl)) (hp.of hF rfl rfl) h1 h2 (l := l) (c := m) (by omega) (by omega) (fun q => by have := hK2 q; omega)) fun vs N3 h => ?_
    obtain ⟨rfl, hF3, hY3⟩ := h
    have hF3' := hF.tr (hF3.up aYB_bt)
    have hB3 := hB.of hF3 rfl (fun j => rfl)
    refine e198_282 (useC (upC (c197 (d := d) hb h1 h2 hY3.2) (by omega)) fun vs N4 h => ?_)
    obtain ⟨rfl, rfl⟩ := h
    refine e198_287 ?_
    rw [hY3.2.2.2.2.1]
    have hw3 := hw.of hF3' (fun j _ => rfl)
    refine useC (upC (c187 (d := d) (q := rBy w fm) hw3 hb (x := 50204) (off := 0) (low := lowS (yW w (rBy w fm)) (kW w) (vBy w ta fm l m) l) (R := UG w ta fm c) rfl rfl (show 0 + w 0 < 8 by omega) (by decide) (fun i hi => by rw [Nat.zero_add]; exact hB3.2 i hi) (Nat.le_trans lowS_le (by omega))) (by omega)) fun vs N5 h => ?_
    obtain ⟨rfl, rfl⟩ := h
    have hrb := rG_bd (ta := ta) hb h2 l m hl (show m < ncd w fm by omega)
    have hv : (rG w ta fm l m) * (DW w * DG w ta fm c) + aws (yW w (rBy w fm)) (UG w ta fm c) (lowS (yW w (rBy w fm)) (kW w) (vBy w ta fm l m) l) 4 * (w 6 : Int) = VG w ta fm c l m := by
      unfold VG vC
      rw [lG_at (by omega)]
      show _ = rG w ta fm l m * (DG w ta fm c * DW w) + _
      grind
    have hgi : (iz (gBy w fm (vBy w ta fm l m) l)).toInt64 = lz (rG w ta fm l m) := iz_l (bd_i32 (bd_le hrb (by decide)))
    have hvb := vC_bd (p := w 6) (q := w 7) (r := rG w ta fm) (lo := lG w ta fm) (K := ncd w fm) hyB wq.2.1 wq.2.2 (rG_bd hb h2) hc (l := l) (k := m) hl (by omega)
    have hown := owC_bd (p := w 6) (q := w 7) (r := rG w ta fm) (lo := lG w ta fm) (K := ncd w fm) hyB wq.2.1 wq.2.2 (rG_bd hb h2) hc (l := l) (show l ≤ w 0 by omega)
    have ho : UG w ta fm c l * (w 7 : Int) * ((w 2 + w 3 + w 4 + w 5 : Nat) : Int) = OG w ta fm c l := Int.mul_assoc _ _ _
    have e7 : N5.1 50177 7 = nI (w 7) := hw3.n (by decide) rfl
    refine e198_303 ⟨nI_in2 (by omega) (by decide), nI_in2 (by decide) (by decide), ?_⟩
    refine useC (upC (c136 (d := d) hw3) (by omega)) fun vs N6 h => ?_
    obtain ⟨rfl, rfl⟩ := h
    refine e198_324 ?_
    rw [nI_c (by omega), nI_c (by decide), hB3.2 l (by omega), e7, lz_w (show w 7 < 2147483648 by omega), lz_w (show w 2 + w 3 + w 4 + w 5 < 2147483648 by omega), lz_mul, lz_mul, ho, hgi, lz_mul, lz_add, hv, cmp_eq, lz_eq (i64_of hvb (by decide)) (i64_of hown (by decide))]
    have hst : dnS (VG w ta fm c l) (OG w ta fm c l) c0 (ncd w fm) (ncd w fm - m) = if VG w ta fm c l m = OG w ta fm c l then m else dnS (VG w ta fm c l) (OG w ta fm c l) c0 (ncd w fm) (ncd w fm - (m + 1)) := by
      have e1 : ncd w fm - m = (ncd w fm - (m + 1)) + 1 := by omega
      rw [e1]
      show (if VG w ta fm c l (ncd w fm - 1 - (ncd w fm - (m + 1))) = OG w ta fm c l then ncd w fm - 1 - (ncd w fm - (m + 1)) else dnS (VG w ta fm c l) (OG w ta fm c l) c0 (ncd w fm) (ncd w fm - (m + 1))) = _
      rw [show ncd w fm - 1 - (ncd w fm - (m + 1)) = m by omega]
    have hC3 : ∀ i, i ≤ w 0 → N6.1 50208 i = nI (if i = l then dnS (VG w ta fm c l) (OG w ta fm c l) c0 (ncd w fm) (ncd w fm - (m + 1)) else e i) := fun i hi => by rw [(hF3 50208 i rfl).1]; exact hC i hi
    refine ⟨fun q => go_in (e198_339 ?_), fun q => ⟨nI_in2 (by omega) (by decide), go_in (e198_339 ?_)⟩⟩
    · rw [if_neg q] at hst
      rw [dec_iz]
      exact ih N6 _ _ _ _ _ _ (by omega) hF3' hB3 (by rw [hst]; exact hC3)
    · rw [if_pos q] at hst
      rw [dec_iz]
      refine ih (sI N6 50208 l (nI m)) _ _ _ _ _ _ (by omega) (hF3'.sI rfl) (hB3.of ((Fr.rf (P := fun k _ => Nat.beq k 50208)).sI rfl) rfl (fun j => rfl)) fun i hi => ?_
      rw [sI_v, hst]
      by_cases e : i = l
      · rw [if_pos ⟨rfl, e⟩, if_pos e]
      · rw [if_neg (fun q => e q.2), if_neg e, hC3 i hi, if_neg e]
theorem c198 (hw : MR w M) (hb : WB w) (hD : DRel w ta M) (hp : NP M) (h1 : -1 ≤ fm) (h2 : fm < w 8) : SC (d + 9) 198 [.ref 768, .int (iz fm)] M (fun vs N => vs = [] ∧ Fr aBt M N ∧ BST w ta fm (FG w ta fm) N ∧ COD w (AG w ta fm) N) := by
  obtain ⟨w0, w8, w9⟩ := wb_w hb
  have wq := hb.2.2.1
  have hpt := hb.2.1.2
  have hyB := yB_of hb (rBy_lt hb (fm := fm))
  obtain ⟨hK0, hK1, hK2⟩ := ncd_bd hb (fm := fm)
  have hrb := rG_bd (ta := ta) hb h2
  have hit := itC_lt (y := YG w fm) (p := w 6) (q := w 7) (r := rG w ta fm) (lo := lG w ta fm) (K := ncd w fm) hK0
  refine sC (by decide) rfl (go_in (e198_0 ?_))
  -- the last loop
  have P3 : ∀ j l N (o2 o4 o6 o7 o8 o9 o10 : Option Value) (e : Nat → Nat), l + j = w 0 + 1 → Fr aBt M N → BST w ta fm (FG w ta fm) N → (∀ i, i ≤ w 0 → N.1 50208 i = nI (if i < l then AG w ta fm i else e i)) → WM (d + 8) 198 (fun vs N => vs = [] ∧ Fr aBt M N ∧ BST w ta fm (FG w ta fm) N ∧ COD w (AG w ta fm) N) 250 [some (.ref 768), some (.int (iz fm)), o2, some (.long (lz (DW w * DG w ta fm (FG w ta fm)))), o4, some (.int (nI l)), o6, o7, o8, o9, o10] [] N := by
    intro j
    induction j with
    | zero =>
      intro l N o2 o4 o6 o7 o8 o9 o10 e hl hF hB hC
      have hl : l = w 0 + 1 := by omega
      subst hl
      refine go_in (e198_250 (useC (upC (c134 (d := d) (hw.of hF (fun j _ => rfl))) (by omega)) fun vs N2 h => ?_))
      obtain ⟨rfl, rfl⟩ := h
      refine e198_256 (br_t (nI_lt (by omega) (by omega)) (go_in (e198_351 ⟨rfl, rfl, hF, hB, fun i hi => ?_⟩)))
      rw [hC i hi, if_pos (by omega)]
    | succ j ih =>
      intro l N o2 o4 o6 o7 o8 o9 o10 e hl hF hB hC
      have hw' := hw.of hF (fun j _ => rfl)
      refine go_in (e198_250 (useC (upC (c134 (d := d) hw') (by omega)) fun vs N2 h => ?_))
      obtain ⟨rfl, rfl⟩ := h
      refine e198_256 (br_f (nI_nlt (by omega) (by omega)) (useC (upC (c195 (d := d) hw' hb h1 h2) (by omega)) fun vs N3 h => ?_))
      obtain ⟨rfl, rfl⟩ := h
      refine e198_264 ?_
      rw [decr0]
      have hown := anC_own (p := w 6) (q := w 7) (r := rG w ta fm) (lo := lG w ta fm) (K := ncd w fm) hyB wq.2.1 wq.2.2 hK0 hrb (l := l) (show l ≤ w 0 by omega)
      have hdn := dnS_ok (g := VG w ta fm (FG w ta fm) l) (own := OG w ta fm (FG w ta fm) l) (c0 := e l) (K := ncd w fm) (b := AG w ta fm l) (bst_lt _ _ hK0) hown (fun k hk => Int.lt_of_lt_of_le (bst_first _ _ k hk) (Int.le_of_eq hown)) (ncd w fm) (by omega) (Nat.le_refl _)
      refine dn198 (d := d) hw hb hD hp h1 h2 (c := FG w ta fm) (hit _) (l := l) (by omega) (c0 := e l) (e := fun i => if i < l then AG w ta fm i else e i) (fun N' o2 o4 o6 o7 o8 o9 o10 hF' hB' hC' => ?_) (ncd w fm) N3 _ _ _ _ _ _ (Nat.le_refl _) hF hB fun i hi => ?_
      · rw [hdn] at hC'
        refine go_in (e198_345 ?_)
        rw [nI_s]
        refine ih (l + 1) N' _ _ _ _ _ _ _ e (by omega) hF' hB' fun i hi => ?_
        rw [hC' i hi]
        by_cases e1 : i = l
        · subst e1
          rw [if_pos rfl, if_pos (by omega)]
        · by_cases e2 : i < l
          · rw [if_neg e1, if_pos e2, if_pos (by omega)]
          · rw [if_neg e1, if_neg e2, if_neg (by omega)]
      · rw [hC i hi, Nat.sub_self]
        by_cases e1 : i = l
        · subst e1
          rw [if_pos rfl, if_neg (by omega)]
          rfl
        · rw [if_neg e1]
  -- the turns
  have P2 : ∀ j n N (o3 o4 o5 o6 o7 o8 o9 o10 : Option Value), n + j = tN (YG w fm) (w 6) (w 7) (rG w ta fm) (lG w ta fm) (ncd w fm) → Fr aBt M N → COD w (TG w ta fm n) N → WM (d + 8) 198 (fun vs N => vs = [] ∧ Fr aBt M N ∧ BST w ta fm (FG w ta fm) N ∧ COD w (AG w ta fm) N) 25 [some (.ref 768), some (.int (iz fm)), some (.int (nI 1)), o3, o4, o5, o6, o7, o8, o9, o10] [] N := by
    intro j
    induction j with
    | zero =>
      intro n N o3 o4 o5 o6 o7 o8 o9 o10 hn hF hC
      have hn : n = tN (YG w fm) (w 6) (w 7) (rG w ta fm) (lG w ta fm) (ncd w fm) := by omega
      refine go_in (e198_25 ⟨fun q => absurd q (by decide), fun _ => ?_⟩)
      refine ev198 (d := d) hw hb hD hp h1 h2 (c := TG w ta fm n) (hit n) (fun N' o4 o6 o7 o8 o9 o10 hF' hC' hB' => ?_) (w 0 + 1) 0 N _ _ _ _ _ _ _ _ (by omega) hF hC fun i hi => absurd hi (Nat.not_lt_zero _)
      refine lv198 (d := d) hw hb hD hp h1 h2 (c := TG w ta fm n) (hit n) (fun N2 o3 o4 o5 o6 o7 o8 o9 o10 hF2 hB2 hC2 => ?_) (w 0 + 1) 0 N' _ _ _ _ _ _ (by omega) hF' hB' fun i hi => by rw [if_neg (Nat.not_lt_zero _)]; exact hC' i hi
      have him : IG w ta fm (TG w ta fm n) = false := by rw [hn]; exact tN_im hyB wq.2.1 wq.2.2 hK0 hrb
      rw [him]
      have hw2 := hw.of hF2 (fun j _ => rfl)
      refine go_in (e198_25 ⟨fun _ => go_in (e198_227 ⟨nI_in2 (by decide) (by decide), useC (upC (c136 (d := d) hw2) (by omega)) fun vs N3 h => ?_⟩), fun q => absurd rfl q⟩)
      obtain ⟨rfl, rfl⟩ := h
      have e7 : N3.1 50177 7 = nI (w 7) := hw2.n (by decide) rfl
      refine e198_239 ?_
      rw [nI_c (by decide), e7, lz_w (show w 7 < 2147483648 by omega), lz_w (show w 2 + w 3 + w 4 + w 5 < 2147483648 by omega), hB2.1, lz_mul, lz_mul]
      have hfg : TG w ta fm n = FG w ta fm := by rw [hn]; rfl
      rw [hfg] at hB2 hC2 ⊢
      exact P3 (w 0 + 1) 0 N3 _ _ _ _ _ _ _ (NG w ta fm (FG w ta fm)) (by omega) hF2 hB2 fun i hi => by rw [if_neg (Nat.not_lt_zero _)]; exact hC2 i hi
    | succ j ih =>
      intro n N o3 o4 o5 o6 o7 o8 o9 o10 hn hF hC
      refine go_in (e198_25 ⟨fun q => absurd q (by decide), fun _ => ?_⟩)
      refine ev198 (d := d) hw hb hD hp h1 h2 (c := TG w ta fm n) (hit n) (fun N' o4 o6 o7 o8 o9 o10 hF' hC' hB' => ?_) (w 0 + 1) 0 N _ _ _ _ _ _ _ _ (by omega) hF hC fun i hi => absurd hi (Nat.not_lt_zero _)
      refine lv198 (d := d) hw hb hD hp h1 h2 (c := TG w ta fm n) (hit n) (fun N2 o3 o4 o5 o6 o7 o8 o9 o10 hF2 hB2 hC2 => ?_) (w 0 + 1) 0 N' _ _ _ _ _ _ (by omega) hF' hB' fun i hi => by rw [if_neg (Nat.not_lt_zero _)]; exact hC' i hi
      have him : IG w ta fm (TG w ta fm n) = true := tN_no (show n < _ by omega)
      rw [him]
      exact ih (n + 1) N2 _ _ _ _ _ _ _ _ (by omega) hF2 hC2
  -- all 0 first
  have P1 : ∀ j l N (o3 o4 o5 o6 o7 o8 o9 o10 : Option Value), l + j = w 0 + 1 → Fr aBt M N → (∀ i, i < l → N.1 50208 i = nI 0) → WM (d + 8) 198 (fun vs N => vs = [] ∧ Fr aBt M N ∧ BST w ta fm (FG w ta fm) N ∧ COD w (AG w ta fm) N) 2 [some (.ref 768), some (.int (iz fm)), some (.int (nI l)), o3, o4, o5, o6, o7, o8, o9, o10] [] N := by
    intro j
    induction j with
    | zero =>
      intro l N o3 o4 o5 o6 o7 o8 o9 o10 hl hF hC
      refine go_in (e198_2 (useC (upC (c134 (d := d) (hw.of hF (fun j _ => rfl))) (by omega)) fun vs N2 h => ?_))
      obtain ⟨rfl, rfl⟩ := h
      exact e198_7 (br_t (nI_lt (by omega) (by omega)) (go_in (e198_23 (P2 _ 0 N2 _ _ _ _ _ _ _ _ (Nat.zero_add _) hF fun i hi => hC i (by omega)))))
    | succ j ih =>
      intro l N o3 o4 o5 o6 o7 o8 o9 o10 hl hF hC
      refine go_in (e198_2 (useC (upC (c134 (d := d) (hw.of hF (fun j _ => rfl))) (by omega)) fun vs N2 h => ?_))
      obtain ⟨rfl, rfl⟩ := h
      refine e198_7 (br_f (nI_nlt (by omega) (by omega)) ⟨nI_in2 (by omega) (by decide), ?_⟩)
      rw [nI_c (by omega), nI_s]
      refine ih (l + 1) _ _ _ _ _ _ _ _ _ (by omega) (hF.sI rfl) fun i hi => ?_
      rw [sI_v]
      by_cases e : i = l
      · rw [if_pos ⟨rfl, e⟩]
      · rw [if_neg (fun q => e q.2)]; exact hC i (by omega)
  exact P1 (w 0 + 1) 0 M _ _ _ _ _ _ _ _ (by omega) Fr.rf fun i hi => absurd hi (Nat.not_lt_zero _)
end B9
