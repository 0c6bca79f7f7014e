/-! The class's trip: breaks, the lower well, rain. -/
theorem iz_min_nn (a b : Nat) : iz (min (a : Int) (b : Int)) = nI (min a b) := by
  rw [iz_n]
  congr 1
  omega
def aTr (j0 j1 k j : Nat) : Bool := Nat.beq k 576 && (Nat.beq j j0 || Nat.beq j j1)
theorem sdN_s (sd : Int32) (n : Nat) : sdN sd (n + 1) = sdN sd n * nI 1103515245 + nI 12345 := by rw [sdN]
theorem rnN_f (w : Nat → Nat) (sd : Int32) (yr : Nat) : rnN w sd false yr = rnR w 3 0 (b15 (sdN sd (yr + 1)) % (w 2 + w 3 + w 4 + w 5)) := by
  unfold rnN
  rw [if_neg (by decide)]
theorem rnN_t (w : Nat → Nat) (sd : Int32) (yr : Nat) : rnN w sd true yr = if yr < w 13 then w (75 + yr) else 0 := by
  unfold rnN
  rw [if_pos rfl]
section TP
variable {d : Nat} {M : Mm} {w : Nat → Nat} {ta : Nat → Nat → Nat → Nat}
theorem c57 (hT : TR 512 w ta M) (hb : WB w) (hy : YR (yW w (w 10)) (kW w) M) (hwa : WA (yW w (w 10)) (waW w ta) M) {l yr : Nat} (hl : l ≤ w 0) (hyr : yr < 101) (h2 : M.1 576 2 = nI l) {v : Nat → Nat} (hv3 : ∀ f, v f ≤ 3) (hv : WV (yW w (w 10)) v M) : SC (d + 3) 57 [.ref 576, .int (nI yr)] M (fun vs N => vs = [.int (nI (cond (anB (fun f => decide (waW w ta 0 l f < brk w yr v (w 12) f)) (w 8)) 1 0))] ∧ Fr aWish M N ∧ WV (yW w (w 10)) (brk w yr v (w 12)) N) := by
  obtain ⟨w0, w8, w9⟩ := wb_w hb
  have w12 : w 12 ≤ 6 := hb.2.2.2.1.2.2.2.2.1
  have w10 : w 10 < w 9 := hb.2.2.2.1.2.2.1
  have hyB := yB_of hb w10
  refine sC (by decide) rfl (go_in (e57_0 ?_))
  have P2 : ∀ m f N (o1 o4 : Option Value), f + m = w 8 → Fr aWish M N → WV (yW w (w 10)) (brk w yr v (w 12)) N → WM (d + 2) 57 (fun vs N => vs = [.int (nI (cond (anB (fun f => decide (waW w ta 0 l f < brk w yr v (w 12) f)) (w 8)) 1 0))] ∧ Fr aWish M N ∧ WV (yW w (w 10)) (brk w yr v (w 12)) N) 88 [some (.ref 576), o1, some (.int (nI (cond (anB (fun f => decide (waW w ta 0 l f < brk w yr v (w 12) f)) f) 1 0))), some (.int (nI f)), o4] [] N := by
    intro m
    induction m with
    | zero =>
      intro f N o1 o4 hf hF hV
      have hf : f = w 8 := by omega
      subst hf
      refine go_in (e57_88 ?_)
      rw [(hF 640 2 rfl).1, hy.1.2.2.1]
      exact br_t (nI_le (Nat.le_refl _) (show w 8 < 2147483648 by omega)) (go_in (e57_138 ⟨nI_tf _, rfl, rfl, hF, hV⟩))
    | succ m ih =>
      intro f N o1 o4 hf hF hV
      have hf8 : f < w 8 := by omega
      refine go_in (e57_88 ?_)
      rw [(hF 640 2 rfl).1, hy.1.2.2.1]
      refine br_f (nI_ge (show f < w 8 from hf8) (show w 8 < 2147483648 by omega)) ⟨nI_in2 (by omega) (by decide), ?_⟩
      rw [nI_c (by omega), (hF 576 2 rfl).1, h2, hV f hf8]
      refine useC (upC (c63 (d := d) hyB (hwa.of hF (fun j => rfl)) (f := f) (l := l) (b := 0) hf8 hl (by decide)) (by omega)) fun vs N2 h => ?_
      obtain ⟨rfl, rfl⟩ := h
      have hs : anB (fun f => decide (waW w ta 0 l f < brk w yr v (w 12) f)) (f + 1) = (anB (fun f => decide (waW w ta 0 l f < brk w yr v (w 12) f)) f || decide (waW w ta 0 l f < brk w yr v (w 12) f)) := rfl
      have hw3 : waW w ta 0 l f ≤ 3 := wbd_le
      have hb3 := brk_3 hb (yr := yr) hv3 (w 12) (Nat.le_refl _) f
      refine e57_122 ?_
      rw [nI_leI (by omega) (by omega)]
      have tail : ∀ (t : Bool) (o1 o2 o4 : Option Value), t = decide (waW w ta 0 l f < brk w yr v (w 12) f) → WM (d + 2) 57 (fun vs N => vs = [.int (nI (cond (anB (fun f => decide (waW w ta 0 l f < brk w yr v (w 12) f)) (w 8)) 1 0))] ∧ Fr aWish M N ∧ WV (yW w (w 10)) (brk w yr v (w 12)) N) 130 [some (.ref 576), o1, o2, some (.int (nI f)), o4] [.int (nI (cond t 1 0)), .int (nI (cond (anB (fun f => decide (waW w ta 0 l f < brk w yr v (w 12) f)) f) 1 0))] N2 := by
        intro t o1 o2 o4 ht
        refine go_in (e57_130 ?_)
        rw [tf_or, ht, ← hs, nI_s]
        exact ih (f + 1) N2 _ _ (by omega) hF hV
      refine ⟨fun e => go_in (e57_129 (tail false _ _ _ (decide_eq_false (by omega)).symm)), fun e => tail true _ _ _ (decide_eq_true (by omega)).symm⟩
  have P1 : ∀ m k N (o4 : Option Value), k + m = w 12 → Fr aWish M N → WV (yW w (w 10)) (brk w yr v k) N → WM (d + 2) 57 (fun vs N => vs = [.int (nI (cond (anB (fun f => decide (waW w ta 0 l f < brk w yr v (w 12) f)) (w 8)) 1 0))] ∧ Fr aWish M N ∧ WV (yW w (w 10)) (brk w yr v (w 12)) N) 4 [some (.ref 576), some (.int (nI yr)), some (.int (nI 0)), some (.int (nI k)), o4] [] N := by
    intro m
    induction m with
    | zero =>
      intro k N o4 hk hF hV
      have hk : k = w 12 := by omega
      subst hk
      refine go_in (e57_4 ?_)
      rw [(hF 512 14 rfl).1, hT.1.2.2.2.1]
      exact br_t (nI_le (Nat.le_refl _) (by omega)) (go_in (e57_86 (P2 (w 8) 0 N _ _ (by omega) hF hV)))
    | succ m ih =>
      intro k N o4 hk hF hV
      have hk12 : k < w 12 := by omega
      have hbk := hT.2.2.2.2.2.2.1 k
      have hB := hb.2.2.2.2.2.2.2.1 k hk12
      have r0 : N.1 33807 (k * 3) = nI (w (57 + 3 * k)) := by rw [(hF 33807 _ rfl).1]; exact hbk 0 hk12 (by decide)
      have r1 : N.1 33807 (k * 3 + 1) = nI (w (58 + 3 * k)) := by rw [(hF 33807 _ rfl).1, show 58 + 3 * k = 57 + 3 * k + 1 by omega]; exact hbk 1 hk12 (by decide)
      have r2 : N.1 33807 (k * 3 + 2) = nI (w (59 + 3 * k)) := by rw [(hF 33807 _ rfl).1, show 59 + 3 * k = 57 + 3 * k + 2 by omega]; exact hbk 2 hk12 (by decide)
      have hs : brk w yr v (k + 1) = if w (57 + 3 * k) = yr then V1 (brk w yr v k) (w (58 + 3 * k)) (w (59 + 3 * k)) else brk w yr v k := rfl
      refine go_in (e57_4 ?_)
      rw [(hF 512 14 rfl).1, hT.1.2.2.2.1]
      refine br_f (nI_ge (by omega) (by omega)) ?_
      rw [nI_mul, nI_add, nI_add, nI_c (show k * 3 < 2147483648 by omega), nI_c (show k * 3 + 1 < 2147483648 by omega), nI_c (show k * 3 + 2 < 2147483648 by omega), r0, r1, r2, (hF 640 2 rfl).1, hy.1.2.2.1, nI_c (show w (58 + 3 * k) < 2147483648 by omega)]
      have he : nI (w (57 + 3 * k)) = nI yr ↔ w (57 + 3 * k) = yr := by
        rw [iz_n, iz_n, iz_eq (i32_n (by omega)) (i32_n (by omega))]
        omega
      rw [he]
      refine ⟨nI_in2 (by omega) (by decide), nI_in2 (by omega) (by decide), fun e => go_in (e57_80 ?_), fun e => br_f (nI_ge (show w (58 + 3 * k) < w 8 by omega) (show w 8 < 2147483648 by omega)) ⟨nI_in2 (by omega) (by decide), nI_in2 (by omega) (by decide), go_in (e57_80 ?_)⟩⟩
      · rw [if_neg e] at hs
        rw [nI_s]
        exact ih (k + 1) N _ (by omega) hF (by rw [hs]; exact hV)
      · rw [if_pos e] at hs
        rw [nI_s]
        refine ih (k + 1) _ _ (by omega) (hF.sI rfl) fun g hg => ?_
        rw [sI_v, hs]
        unfold V1
        by_cases q : g = w (58 + 3 * k)
        · rw [if_pos ⟨rfl, q⟩, if_pos q]
        · rw [if_neg (fun e => q e.2), if_neg q]; exact hV g hg
  exact P1 (w 12) 0 M _ (by omega) Fr.rf hv
theorem c58 (hT : TR 512 w ta M) (hb : WB w) {a c lk : Nat} (ha : a ≤ 7) (hlk : lk ≤ 1) (h9 : M.1 576 9 = nI a) (h10 : M.1 576 10 = nI c) (h14 : M.1 640 14 = nI lk) : SC (d + 2) 58 [.ref 576] M (fun vs N => vs = [] ∧ Fr (aTr 9 10) M N ∧ N.1 576 9 = nI (min (w 14) (a + lk) - min (w 16) (min (w 14) (a + lk))) ∧ N.1 576 10 = nI (c + min (w 16) (min (w 14) (a + lk)))) := by
  have h := hb.2.2.2.2.1
  have b0 : M.1 33810 0 = nI (w 14) := hT.2.2.2.2.2.2.2.2 0 (by decide)
  have b2 : M.1 33810 2 = nI (w 16) := hT.2.2.2.2.2.2.2.2 2 (by decide)
  refine sC (by decide) rfl (go_in (e58_0 ?_))
  rw [nI_c (by decide), b0, h9, h14]
  have tail : ∀ (o1 : Option Value), WM (d + 1) 58 (fun vs N => vs = [] ∧ Fr (aTr 9 10) M N ∧ N.1 576 9 = nI (min (w 14) (a + lk) - min (w 16) (min (w 14) (a + lk))) ∧ N.1 576 10 = nI (c + min (w 16) (min (w 14) (a + lk)))) 31 [some (.ref 576), o1, none] [.int (nI lk), .int (nI a), .int (nI (w 14)), .ref 576] M := by
    intro o1
    refine go_in (e58_31 ?_)
    rw [nI_add, iz_n (w 14), iz_n (a + lk)]
    refine useC (upC (c231 (d := d) (i32_n (by omega)) (i32_n (by omega))) (by omega)) fun vs N h => ?_
    obtain ⟨rfl, h⟩ := h
    have h := h.symm
    subst h
    rw [iz_min_nn]
    refine e58_35 ⟨nI_in2 (by decide) (by decide), ?_⟩
    have e1 : (sI M 576 9 (nI (min (w 14) (a + lk)))).1 33810 2 = nI (w 16) := b2
    have e2 : (sI M 576 9 (nI (min (w 14) (a + lk)))).1 576 9 = nI (min (w 14) (a + lk)) := by rw [sI_v, if_pos ⟨rfl, rfl⟩]
    rw [nI_c (by decide), e1, e2, iz_n (w 16), iz_n (min (w 14) (a + lk))]
    refine useC (upC (c231 (d := d) (i32_n (by omega)) (i32_n (by omega))) (by omega)) fun vs N h => ?_
    obtain ⟨rfl, h⟩ := h
    have h := h.symm
    subst h
    rw [iz_min_nn, ← iz_n]
    refine e58_54 ⟨rfl, rfl, ((Fr.rf.sI rfl).sI rfl).sI rfl, ?_, ?_⟩
    · rw [sI_v, if_neg (by omega), sI_v, if_pos ⟨rfl, rfl⟩, e2, nI_sub (Nat.min_le_right _ _)]
    · have e3 : (sI (sI M 576 9 (nI (min (w 14) (a + lk)))) 576 9 ((sI M 576 9 (nI (min (w 14) (a + lk)))).1 576 9 - nI (min (w 16) (min (w 14) (a + lk))))).1 576 10 = nI c := by
        rw [sI_v, if_neg (by omega), sI_v, if_neg (by omega)]
        exact h10
      rw [sI_v, if_pos ⟨rfl, rfl⟩, e3, nI_add]
  have hl01 : lk = 0 ∨ lk = 1 := by omega
  refine ⟨nI_in2 (by decide) (by decide), fun e => go_in (e58_30 ?_), fun e => ?_⟩
  · have e0 : lk = 0 := by
      rcases hl01 with q | q
      · exact q
      · rw [q] at e; exact absurd e (by decide)
    have t := tail none
    rw [e0] at t ⊢
    exact t
  · have e0 : lk = 1 := by
      rcases hl01 with q | q
      · rw [q] at e; exact absurd rfl e
      · exact q
    have t := tail (some (.int (nI (w 14))))
    rw [e0] at t ⊢
    exact t
theorem c59 (hT : TR 512 w ta M) (hb : WB w) (hy : YR (yW w (w 10)) (kW w) M) {sd : Int32} {tld : Bool} {yr : Nat} (hyr : yr < 101) (h4 : M.1 576 4 = nI (cond tld 1 0)) (h3 : tld = false → M.1 576 3 = sdN sd yr) : SC (d + 1) 59 [.ref 576, .int (nI yr)] M (fun vs N => vs = [.int (nI (rnN w sd tld yr))] ∧ Fr (aTr 3 3) M N ∧ (tld = false → N.1 576 3 = sdN sd (yr + 1))) := by
  have hpt := hb.2.1
  have w13 : w 13 ≤ 400 := hb.2.2.2.1.2.2.2.2.2
  refine sC (by decide) rfl (go_in (e59_0 ?_))
  rw [h4]
  refine ⟨fun e => go_in (e59_32 ?_), fun e => ?_⟩
  · have ht : tld = false := by cases tld <;> first | rfl | exact absurd e (by decide)
    subst ht
    have hsd : M.1 576 3 * nI 1103515245 + nI 12345 = sdN sd (yr + 1) := by rw [h3 rfl, sdN_s]
    rw [hsd]
    have e6 : (sI M 576 3 (sdN sd (yr + 1))).1 640 6 = nI (w 2 + w 3 + w 4 + w 5) := hy.2.1.2.2
    have e3 : (sI M 576 3 (sdN sd (yr + 1))).1 576 3 = sdN sd (yr + 1) := by rw [sI_v, if_pos ⟨rfl, rfl⟩]
    rw [e6, e3, in_u16, pk_rem (by have := b15_lt (sdN sd (yr + 1)); omega) (by omega) (by omega)]
    rw [rnN_f]
    generalize sdN sd (yr + 1) = x at e6 e3 ⊢
    have hF : Fr (aTr 3 3) M (sI M 576 3 x) := Fr.rf.sI rfl
    have loop : ∀ k r p N (o1 : Option Value), r + k = 3 → p < 5 → rnR w k r p = rnR w 3 0 (b15 x % (w 2 + w 3 + w 4 + w 5)) → N = sI M 576 3 x → WM d 59 (fun vs N => vs = [.int (nI (rnR w 3 0 (b15 x % (w 2 + w 3 + w 4 + w 5))))] ∧ Fr (aTr 3 3) M N ∧ (false = false → N.1 576 3 = x)) 83 [some (.ref 576), o1, some (.int (nI p)), some (.int (nI r))] [] N := by
      intro k
      induction k with
      | zero =>
        intro r p N o1 hr hp hq hN
        subst hN
        have hr : r = 3 := by omega
        subst hr
        refine go_in (e59_83 (br_t (nI_le (Nat.le_refl _) (by decide)) (go_in (e59_119 ⟨rfl, ?_, hF, fun _ => e3⟩))))
        rw [← hq]
        rfl
      | succ k ih =>
        intro r p N o1 hr hp hq hN
        subst hN
        have h41 : (sI M 576 3 x).1 41991 r = nI (w (2 + r)) := by
          show M.1 41991 r = _
          rw [hy.2.2 r (by omega), yW_r r (by omega)]
        have hs : rnR w (k + 1) r p = if p < w (2 + r) then r else rnR w k (r + 1) (p - w (2 + r)) := rfl
        have hw4 := hpt.1 r (by omega)
        refine go_in (e59_83 (br_f (nI_ge (by omega) (by decide)) ⟨nI_in2 (by omega) (by decide), ?_⟩))
        rw [nI_c (by omega), h41, nI_ltI (by omega) (by omega)]
        refine ⟨fun e => go_in (e59_119 ⟨rfl, ?_, hF, fun _ => e3⟩), fun e => ⟨nI_in2 (by omega) (by decide), ?_⟩⟩
        · rw [← hq, hs, if_pos e]
        · rw [nI_sub (by omega), nI_s]
          exact ih (r + 1) _ _ _ (by omega) (by omega) (by rw [← hq, hs, if_neg e]) rfl
    refine ⟨fun q => ?_, fun _ => ⟨fun q => ?_, go_in (e59_80 (loop 3 0 _ _ _ rfl (by have := Nat.mod_lt (b15 x) (show 0 < w 2 + w 3 + w 4 + w 5 by omega); omega) rfl rfl))⟩⟩
    · rw [zero_nI, nI_leI (by omega) (by decide)] at q
      omega
    · rw [zero_nI, iz_n, iz_n, iz_eq (i32_n (by omega)) (i32_n (by omega))] at q
      omega
  · have ht : tld = true := by cases tld <;> first | rfl | exact absurd rfl e
    subst ht
    rw [hT.1.2.2.2.2, nI_leI (by omega) (by omega)]
    refine ⟨fun q => go_in (e59_30 (go_in (e59_31 ⟨rfl, ?_, Fr.rf, fun q => by cases q⟩))), fun q => ⟨nI_in2 (by omega) (by decide), ?_⟩⟩
    · rw [rnN_t, if_neg (by omega)]
    · have hr : M.1 33809 yr = nI (w (75 + yr)) := hT.2.2.2.2.2.2.2.1 yr (by omega)
      rw [nI_c (by omega), hr]
      refine go_in (e59_31 ⟨rfl, ?_, Fr.rf, fun q => by cases q⟩)
      rw [rnN_t, if_pos (by omega)]
end TP
