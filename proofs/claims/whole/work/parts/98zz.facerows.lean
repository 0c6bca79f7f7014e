/-! The class's face: dry, part, most, lasts. -/
section FD
variable {d : Nat} {M : Mm} {w : Nat → Nat} {ta : Nat → Nat → Nat → Nat}
theorem c112 (hT : TR 512 w ta M) (hb : WB w) {l n : Nat} (hl : l ≤ w 0) (hn : n ≤ 20) : SC (d + 5) 112 [.ref 704, .int (nI l), .int (nI n)] M (fun vs N => vs = [.long (lz (drA w ta l n))] ∧ Fr aCl M N) := by
  obtain ⟨w0, w8, w9⟩ := wb_w hb
  refine sC (by decide) rfl (go_in (e112_0 (Or.inl ?_)))
  rw [iz_n l]
  refine useC (upC (c118 (d := d) hT hb ⟨by omega, by omega⟩ ⟨by omega, by omega⟩) (by omega)) fun vs N h => ?_
  obtain ⟨rfl, rfl⟩ := h
  refine e112_5 (Or.inl ?_)
  rw [iz_n n, iz_n 0, iz_n 20]
  refine useC (upC (c120 (d := d) (x := (n : Int)) (i32_n (by omega)) (i32_n (by omega)) (i32_n (by omega)) (by omega) (by omega)) (by omega)) fun vs N h => ?_
  obtain ⟨rfl, rfl⟩ := h
  rw [iz_nn, iz_nn]
  refine e112_12 (useC (upC (c61 (d := d) hT hb) (by omega)) fun vs N1 h => ?_)
  obtain ⟨rfl, hF1, hY1⟩ := h
  refine e112_23 (useC (c41 (d := d) hb hY1.1 hY1.2.2.2 hl hn) fun vs N2 h => ?_)
  obtain ⟨rfl, hF2⟩ := h
  exact e112_32 ⟨rfl, rfl, (hF1.up aYr_cl).tr (hF2.up aRo_cl)⟩
theorem c113 (hT : TR 512 w ta M) (hb : WB w) {f l n : Nat} (hf : f < w 8) (hl : l ≤ w 0) (hn : n ≤ 12) : SC (d + 5) 113 [.ref 704, .int (nI f), .int (nI l), .int (nI n)] M (fun vs N => vs = [.long (lz (paA w ta f l n))] ∧ Fr aCl M N) := by
  obtain ⟨w0, w8, w9⟩ := wb_w hb
  refine sC (by decide) rfl (go_in (e113_0 (Or.inl ?_)))
  rw [iz_n f]
  refine useC (upC (c117 (d := d) hT hb ⟨by omega, by omega⟩ ⟨by omega, by omega⟩) (by omega)) fun vs N h => ?_
  obtain ⟨rfl, rfl⟩ := h
  refine e113_5 (Or.inl ?_)
  rw [iz_n l]
  refine useC (upC (c118 (d := d) hT hb ⟨by omega, by omega⟩ ⟨by omega, by omega⟩) (by omega)) fun vs N h => ?_
  obtain ⟨rfl, rfl⟩ := h
  refine e113_10 (Or.inl ?_)
  rw [iz_n n, iz_n 0, iz_n 12]
  refine useC (upC (c120 (d := d) (x := (n : Int)) (i32_n (by omega)) (i32_n (by omega)) (i32_n (by omega)) (by omega) (by omega)) (by omega)) fun vs N h => ?_
  obtain ⟨rfl, rfl⟩ := h
  rw [iz_nn, iz_nn, iz_nn]
  refine e113_17 (useC (upC (c61 (d := d) hT hb) (by omega)) fun vs N1 h => ?_)
  obtain ⟨rfl, hF1, hY1⟩ := h
  refine e113_28 (useC (c42 (d := d) hb hY1.1 hY1.2.2.2 hf hl hn) fun vs N2 h => ?_)
  obtain ⟨rfl, hF2⟩ := h
  exact e113_38 ⟨rfl, rfl, (hF1.up aYr_cl).tr (hF2.up aRo_cl)⟩
theorem c114 (hT : TR 512 w ta M) (hb : WB w) {l n : Nat} (hl : l ≤ w 0) (hn : n ≤ 12) : SC (d + 5) 114 [.ref 704, .int (nI l), .int (nI n)] M (fun vs N => vs = [.int (iz (moA w ta l n))] ∧ Fr aCl M N) := by
  obtain ⟨w0, w8, w9⟩ := wb_w hb
  refine sC (by decide) rfl (go_in (e114_0 (Or.inl ?_)))
  rw [iz_n l]
  refine useC (upC (c118 (d := d) hT hb ⟨by omega, by omega⟩ ⟨by omega, by omega⟩) (by omega)) fun vs N h => ?_
  obtain ⟨rfl, h⟩ := h
  have h := h.symm
  subst h
  refine e114_5 (Or.inl ?_)
  rw [iz_n n, iz_n 0, iz_n 12]
  refine useC (upC (c120 (d := d) (x := (n : Int)) (i32_n (by omega)) (i32_n (by omega)) (i32_n (by omega)) (by omega) (by omega)) (by omega)) fun vs N h => ?_
  obtain ⟨rfl, h⟩ := h
  have h := h.symm
  subst h
  rw [iz_nn, iz_nn]
  refine e114_12 (useC (upC (c61 (d := d) hT hb) (by omega)) fun vs N1 h => ?_)
  obtain ⟨rfl, hF1, hY1⟩ := h
  refine e114_23 ?_
  have loop : ∀ k f N (best most : Int) (o5 o7 o8 : Option Value), f + k = w 8 → Fr aCl M N → YR (yW w (w 10)) (kW w) N → WA (yW w (w 10)) (waW w ta) N → (f = 0 → best = -1) → (0 < f → best = ((bst (fun f => paA w ta f l n) f : Nat) : Int) ∧ most = paA w ta (bst (fun f => paA w ta f l n) f) l n) → WM (d + 4) 114 (fun vs N => vs = [.int (iz (moA w ta l n))] ∧ Fr aCl M N) 31 [some (.ref 704), some (.int (nI l)), some (.int (nI n)), some (.int (iz best)), some (.long (lz most)), o5, some (.int (nI f)), o7, o8] [] N := by
    intro k
    induction k with
    | zero =>
      intro f N best most o5 o7 o8 hf hF hy hwa h1 h2
      have hf : f = w 8 := by omega
      subst hf
      refine go_in (e114_31 ?_)
      rw [hy.1.2.2.1]
      refine br_t (nI_le (Nat.le_refl _) (show w 8 < 2147483648 by omega)) (go_in (e114_82 ⟨rfl, ?_, hF⟩))
      unfold moA
      by_cases e : w 8 = 0
      · rw [if_pos e, h1 e]
      · rw [if_neg e, (h2 (by omega)).1]
    | succ k ih =>
      intro f N best most o5 o7 o8 hf hF hy hwa h1 h2
      have hf8 : f < w 8 := by omega
      refine go_in (e114_31 ?_)
      rw [hy.1.2.2.1]
      refine br_f (nI_ge (show f < w 8 from hf8) (show w 8 < 2147483648 by omega)) (useC (c42 (d := d) hb hy hwa hf8 hl hn) fun vs N3 h => ?_)
      obtain ⟨rfl, hF3⟩ := h
      have hF3' := hF.tr (hF3.up aRo_cl)
      have hy3 := hy.of hF3 aRo_640 (fun j => rfl)
      have hwa3 := hwa.of hF3 (fun j => rfl)
      have i1 := paA_64 (ta := ta) hb (f := f) hl hn
      have hst := bst_s (fun f => paA w ta f l n) f
      have take : ∀ (o3 o4 o5 o8 : Option Value), bst (fun f => paA w ta f l n) (f + 1) = f → WM (d + 4) 114 (fun vs N => vs = [.int (iz (moA w ta l n))] ∧ Fr aCl M N) 69 [some (.ref 704), some (.int (nI l)), some (.int (nI n)), o3, o4, o5, some (.int (nI f)), some (.long (lz (paA w ta f l n))), o8] [] N3 := by
        intro o3 o4 o5 o8 hb1
        refine go_in (e114_69 (go_in (e114_76 ?_)))
        rw [nI_s, iz_n f]
        exact ih (f + 1) N3 _ _ _ _ _ (by omega) hF3' hy3 hwa3 (fun h => by omega) fun _ => ⟨by rw [hb1], by rw [hb1]⟩
      refine e114_54 ?_
      by_cases hf0 : f = 0
      · rw [h1 hf0]
        refine ⟨fun _ => take _ _ _ _ ?_, fun q => absurd rfl q⟩
        rw [hf0]
        exact bst_1 _
      · obtain ⟨hb1, hb2⟩ := h2 (by omega)
        have hbl := bst_lt (fun f => paA w ta f l n) f (by omega)
        have i2 := paA_64 (ta := ta) hb (f := bst (fun f => paA w ta f l n) f) hl hn
        rw [hb1, hb2, nI_neg1, iz_eq (i32_n (by omega)) ⟨by omega, by omega⟩, cmp_gtI i1 i2]
        refine ⟨fun q => absurd q (by omega), fun _ => ⟨fun q => go_in (e114_76 ?_), fun q => take _ _ _ _ ?_⟩⟩
        · have hb3 : bst (fun f => paA w ta f l n) (f + 1) = bst (fun f => paA w ta f l n) f := by rw [hst, if_neg (Int.not_lt.mpr q)]
          rw [nI_s]
          exact ih (f + 1) N3 _ _ _ _ _ (by omega) hF3' hy3 hwa3 (fun h => by omega) fun _ => ⟨by rw [hb3], by rw [hb3]⟩
        · rw [hst, if_pos (Int.not_le.mp q)]
  exact loop (w 8) 0 N1 (-1) 0 none none none (by omega) (hF1.up aYr_cl) hY1.1 hY1.2.2.2 (fun _ => rfl) fun h => absurd h (Nat.lt_irrefl _)
theorem c115 (hT : TR 512 w ta M) (hb : WB w) {l : Nat} (hl : l ≤ w 0) : SC (d + 5) 115 [.ref 704, .int (nI l)] M (fun vs N => vs = [.int (iz (laA w ta 101 0 l))] ∧ Fr aCl M N) := by
  obtain ⟨w0, w8, w9⟩ := wb_w hb
  have w10 : w 10 < w 9 := hb.2.2.2.1.2.2.1
  have hyB := yB_of hb w10
  refine sC (by decide) rfl (go_in (e115_0 (Or.inl ?_)))
  rw [iz_n l]
  refine useC (upC (c118 (d := d) hT hb ⟨by omega, by omega⟩ ⟨by omega, by omega⟩) (by omega)) fun vs N h => ?_
  obtain ⟨rfl, h⟩ := h
  have h := h.symm
  subst h
  rw [iz_nn]
  refine e115_5 (useC (upC (c61 (d := d) hT hb) (by omega)) fun vs N1 h => ?_)
  obtain ⟨rfl, hF1, hY1⟩ := h
  refine e115_16 ?_
  have loop : ∀ k yr l N (o1 : Option Value), yr + k = 101 → l ≤ w 0 → Fr aCl M N → YR (yW w (w 10)) (kW w) N → WA (yW w (w 10)) (waW w ta) N → WM (d + 4) 115 (fun vs N => vs = [.int (iz (laA w ta k yr l))] ∧ Fr aCl M N) 20 [some (.ref 704), o1, some (.int (nI l)), some (.int (nI yr))] [] N := by
    intro k
    induction k with
    | zero =>
      intro yr l N o1 hk hl hF hy hwa
      have hk : yr = 101 := by omega
      subst hk
      exact go_in (e115_20 (br_t (nI_lt (by decide) (by decide)) (go_in (e115_55 ⟨rfl, by rw [nI_neg1]; rfl, hF⟩))))
    | succ k ih =>
      intro yr l N o1 hk hl hF hy hwa
      have hst : laA w ta (k + 1) yr l = if l = 0 then (yr : Int) else laA w ta k (yr + 1) (loD w ta l) := rfl
      have h0 : nI l = 0 ↔ l = 0 := by
        rw [zero_nI, iz_n, iz_n, iz_eq (i32_n (by omega)) (i32_n (by omega))]
        omega
      refine go_in (e115_20 (br_f (nI_nlt (by omega) (by decide)) ⟨fun e => go_in (e115_32 ?_), fun e => ⟨rfl, ?_, hF⟩⟩))
      · rw [h0] at e
        refine useC (upC (c68 (d := d) hy hyB hwa (fun b l f => wbd_le) (l := l) (b := 0) hl (by decide)) (by omega)) fun vs N2 h => ?_
        obtain ⟨rfl, hF2, -, hP⟩ := h
        refine e115_41 ?_
        rw [hP.2.1, nI_s, hst, if_neg e, ← loD_at (show l ≤ 7 by omega)]
        exact ih (yr + 1) _ N2 _ (by omega) (loD_y hl) (hF.tr (hF2.up aPB_cl)) (hy.of hF2 aPB_640 (fun j => rfl)) (hwa.of hF2 (fun j => rfl))
      · rw [h0] at e
        rw [hst, if_pos e, iz_nn]
  exact loop 101 0 l N1 _ (by omega) hl (hF1.up aYr_cl) hY1.1 hY1.2.2.2
end FD
