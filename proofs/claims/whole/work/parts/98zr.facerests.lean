/-! The class's face: rest, restWorth, nearest. -/
theorem yr_rule {w : Nat → Nat} {r0 r : Nat} {N N2 : Mm} (h : YR (yW w r0) (kW w) N) (hF2 : Fr aRule N N2) (h3 : N2.1 640 3 = nI (w (32 + 5 * r + 1))) : YR (yW w r) (kW w) N2 := by
  obtain ⟨⟨a, b, c, -⟩, ⟨e, f, g⟩, h⟩ := h
  exact ⟨⟨by rw [(hF2 640 0 rfl).1]; exact a, by rw [(hF2 640 1 rfl).1]; exact b, by rw [(hF2 640 2 rfl).1]; exact c, h3⟩, ⟨by rw [(hF2 640 4 rfl).1]; exact e, by rw [(hF2 640 5 rfl).1]; exact f, by rw [(hF2 640 6 rfl).1]; exact g⟩, fun q hq => by
    rw [(hF2 41991 q rfl).1, h q hq]
    rcases q with _ | _ | _ | _ | q
    · rfl
    · rfl
    · rfl
    · rfl
    · omega⟩
/-- the number at rest; what a farm then has; the best rule -/
def reA (w : Nat → Nat) (f l n : Nat) : Nat := wnr (w 8) (rsK w (w 10) (rsV w (w 10) (n - 1)) (n - 1) l) f
def reF (w : Nat → Nat) (f l n : Nat) (g : Bool) : Int := frc (rsV w (w 10) n f l) (4 * DW w ^ (n - 1)) g
def neA (w : Nat → Nat) (l n : Nat) : Nat := bst (fun r => rsV w r n 3 l) (w 9)
theorem DW_p {w : Nat → Nat} (hb : WB w) : ∀ n : Nat, n < 8 → 0 < DW w ^ n ∧ DW w ^ n ≤ 1280000000 := fun n hn => by
  have h := d20 hb
  have h1 : ∀ m : Nat, 0 < DW w ^ m := fun m => Int.pow_pos h.1
  have h2 : ∀ m : Nat, DW w ^ m ≤ 20 ^ m := fun m => by
    induction m with
    | zero => rw [Int.pow_zero, Int.pow_zero]; exact Int.le_refl _
    | succ m ih =>
      rw [Int.pow_succ, Int.pow_succ]
      exact Int.mul_le_mul ih h.2 (Int.le_of_lt h.1) (Int.le_of_lt (Int.pow_pos (show (0 : Int) < 20 by decide)))
  have h3 : ∀ m, m < 8 → (20 : Int) ^ m ≤ 1280000000 := by decide
  exact ⟨h1 n, Int.le_trans (h2 n) (h3 n hn)⟩
section FR
variable {d : Nat} {M : Mm} {w : Nat → Nat} {ta : Nat → Nat → Nat → Nat}
theorem c109 (hT : TR 512 w ta M) (hb : WB w) {f l n : Nat} (hf : f < w 8) (hl : l ≤ w 0) (hn0 : 1 ≤ n) (hn : n ≤ 8) : SC (d + 6) 109 [.ref 704, .int (nI f), .int (nI l), .int (nI n)] M (fun vs N => vs = [.int (nI (reA w f l n))] ∧ Fr aCl M N) := by
  obtain ⟨w0, w8, w9⟩ := wb_w hb
  have w10 : w 10 < w 9 := hb.2.2.2.1.2.2.1
  refine sC (by decide) rfl (go_in (e109_0 (Or.inl ?_)))
  rw [iz_n f]
  refine useC (upC (c117 (d := d) hT hb ⟨by omega, by omega⟩ ⟨by omega, by omega⟩) (by omega)) fun vs N h => ?_
  obtain ⟨rfl, rfl⟩ := h
  refine e109_5 (Or.inl ?_)
  rw [iz_n l]
  refine useC (upC (c118 (d := d) hT hb ⟨by omega, by omega⟩ ⟨by omega, by omega⟩) (by omega)) fun vs N h => ?_
  obtain ⟨rfl, rfl⟩ := h
  refine e109_10 (Or.inl ?_)
  rw [iz_n n, iz_n 1, iz_n 8]
  refine useC (upC (c120 (d := d) (x := (n : Int)) (i32_n (by omega)) (i32_n (by omega)) (i32_n (by omega)) (by omega) (by omega)) (by omega)) fun vs N h => ?_
  obtain ⟨rfl, rfl⟩ := h
  rw [iz_nn, iz_nn, iz_nn]
  refine e109_17 (useC (upC (c61 (d := d) hT hb) (by omega)) fun vs N1 h => ?_)
  obtain ⟨rfl, hF1, hY1⟩ := h
  refine e109_28 (useC (c37 (d := d) hb w10 hY1.1 hY1.2.1 hY1.2.2.1 hl hn0 hn) fun vs N2 h => ?_)
  obtain ⟨rfl, hF2, -, h5, -⟩ := h
  refine e109_37 ?_
  have hk := rsK_lt (w := w) (rr := w 10) (R := rsV w (w 10) (n - 1)) (n := n - 1) (l := l)
  have hK := (ncd_bd hb (fm := -1)).2.1
  rw [ncd_all] at hK
  rw [h5]
  refine useC (upC (c76 (d := d) (hY1.1.of hF2 (by decide) (fun j => rfl)) (yB_of hb w10) (w := rsK w (w 10) (rsV w (w 10) (n - 1)) (n - 1) l) (by omega) (show f < yW w (w 10) 2 from hf)) (by omega)) fun vs N3 h => ?_
  obtain ⟨rfl, rfl⟩ := h
  exact e109_52 ⟨rfl, rfl, (hF1.up aYr_cl).tr (hF2.up aRs_cl)⟩
theorem c110 (hT : TR 512 w ta M) (hb : WB w) {f l n : Nat} {g : Bool} (hf : f < w 8) (hl : l ≤ w 0) (hn0 : 1 ≤ n) (hn : n ≤ 8) : SC (d + 6) 110 [.ref 704, .int (nI f), .int (nI l), .int (nI n), .int (nI (cond g 1 0))] M (fun vs N => vs = [.long (lz (reF w f l n g))] ∧ Fr aCl M N) := by
  obtain ⟨w0, w8, w9⟩ := wb_w hb
  have w10 : w 10 < w 9 := hb.2.2.2.1.2.2.1
  refine sC (by decide) rfl (go_in (e110_0 (Or.inl ?_)))
  rw [iz_n f]
  refine useC (upC (c117 (d := d) hT hb ⟨by omega, by omega⟩ ⟨by omega, by omega⟩) (by omega)) fun vs N h => ?_
  obtain ⟨rfl, rfl⟩ := h
  refine e110_5 (Or.inl ?_)
  rw [iz_n l]
  refine useC (upC (c118 (d := d) hT hb ⟨by omega, by omega⟩ ⟨by omega, by omega⟩) (by omega)) fun vs N h => ?_
  obtain ⟨rfl, rfl⟩ := h
  refine e110_10 (Or.inl ?_)
  rw [iz_n n, iz_n 1, iz_n 8]
  refine useC (upC (c120 (d := d) (x := (n : Int)) (i32_n (by omega)) (i32_n (by omega)) (i32_n (by omega)) (by omega) (by omega)) (by omega)) fun vs N h => ?_
  obtain ⟨rfl, rfl⟩ := h
  rw [iz_nn, iz_nn, iz_nn]
  refine e110_17 (useC (upC (c61 (d := d) hT hb) (by omega)) fun vs N1 h => ?_)
  obtain ⟨rfl, hF1, hY1⟩ := h
  refine e110_28 (useC (c37 (d := d) hb w10 hY1.1 hY1.2.1 hY1.2.2.1 hl hn0 hn) fun vs N2 h => ?_)
  obtain ⟨rfl, hF2, hH, -, hs⟩ := h
  have hu := rsV_bd hb w10 n f l hl (Or.inl hf)
  have hd := DW_p hb (n - 1) (by omega)
  refine e110_37 ?_
  rw [nI_mul, nI_add, nI_c (by omega), hH f (Or.inl hf), hs, lz_n 4, lz_mul]
  refine ⟨nI_in2 (by omega) (by decide), ?_⟩
  refine useC (upC (c125 (d := d) (a := rsV w (w 10) n f l) (bd_le hu (by have := pw65 n (by omega); omega)) (b := 4 * DW w ^ (n - 1)) ⟨by omega, by omega⟩ (by omega)) (by omega)) fun vs N5 h => ?_
  obtain ⟨rfl, rfl⟩ := h
  exact e110_67 ⟨rfl, rfl, (hF1.up aYr_cl).tr (hF2.up aRs_cl)⟩
theorem c111 (hT : TR 512 w ta M) (hb : WB w) {l n : Nat} (hl : l ≤ w 0) (hn0 : 1 ≤ n) (hn : n ≤ 8) : SC (d + 6) 111 [.ref 704, .int (nI l), .int (nI n)] M (fun vs N => vs = [.int (nI (neA w l n))] ∧ Fr aCl M N) := by
  obtain ⟨w0, w8, w9⟩ := wb_w hb
  have w9' : 1 ≤ w 9 := hb.2.2.2.1.2.1.1
  refine sC (by decide) rfl (go_in (e111_0 (Or.inl ?_)))
  rw [iz_n l]
  refine useC (upC (c118 (d := d) hT hb ⟨by omega, by omega⟩ ⟨by omega, by omega⟩) (by omega)) fun vs N h => ?_
  obtain ⟨rfl, h⟩ := h
  have h := h.symm
  subst h
  refine e111_5 (Or.inl ?_)
  rw [iz_n n, iz_n 1, iz_n 8]
  refine useC (upC (c120 (d := d) (x := (n : Int)) (i32_n (by omega)) (i32_n (by omega)) (i32_n (by omega)) (by omega) (by omega)) (by omega)) fun vs N h => ?_
  obtain ⟨rfl, h⟩ := h
  have h := h.symm
  subst h
  rw [iz_nn, iz_nn]
  refine e111_12 (useC (upC (c61 (d := d) hT hb) (by omega)) fun vs N1 h => ?_)
  obtain ⟨rfl, hF1, hY1⟩ := h
  refine e111_23 ?_
  have loop : ∀ k r r0 N (best most : Int) (o5 o7 o8 : Option Value), r + k = w 9 → Fr aCl M N → YR (yW w r0) (kW w) N → (r = 0 → best = -1) → (0 < r → best = ((bst (fun r => rsV w r n 3 l) r : Nat) : Int) ∧ most = rsV w (bst (fun r => rsV w r n 3 l) r) n 3 l) → WM (d + 5) 111 (fun vs N => vs = [.int (nI (neA w l n))] ∧ Fr aCl M N) 31 [some (.ref 704), some (.int (nI l)), some (.int (nI n)), some (.int (iz best)), some (.long (lz most)), o5, some (.int (nI r)), o7, o8] [] N := by
    intro k
    induction k with
    | zero =>
      intro r r0 N best most o5 o7 o8 hr hF hy h1 h2
      have hr : r = w 9 := by omega
      subst hr
      have hTN := hT.of hF (fun k j h => cl_512 h)
      refine go_in (e111_31 ?_)
      rw [hTN.1.2.1.2.1]
      refine br_t (nI_le (Nat.le_refl _) (by omega)) (go_in (e111_105 ⟨rfl, ?_, hF⟩))
      rw [(h2 (by omega)).1, iz_nn]
      rfl
    | succ k ih =>
      intro r r0 N best most o5 o7 o8 hr hF hy h1 h2
      have hTN := hT.of hF (fun k j h => cl_512 h)
      have hr9 : r < w 9 := by omega
      refine go_in (e111_31 ?_)
      rw [hTN.1.2.1.2.1]
      refine br_f (nI_ge (by omega) (by omega)) (useC (upC (c65 (d := d) hTN hb hy.1.1 hy.1.2.2.1 hr9) (by omega)) fun vs N2 h => ?_)
      obtain ⟨rfl, hF2, h3, hfo, hpl⟩ := h
      have hy2 : YR (yW w r) (kW w) N2 := yr_rule hy hF2 h3
      refine e111_56 (useC (c37 (d := d) hb hr9 hy2 hfo hpl hl hn0 hn) fun vs N3 h => ?_)
      obtain ⟨rfl, hF3, hH, -, -⟩ := h
      have hF3' := (hF.tr (hF2.up aRule_cl)).tr (hF3.up aRs_cl)
      have hy3 := hy2.of hF3 (by decide) (fun j => rfl)
      have i1 := i64_of (rsV_bd hb hr9 n 3 l hl (Or.inr rfl)) (pw65 n (by omega))
      have hst := bst_s (fun r => rsV w r n 3 l) r
      have take : ∀ (o3 o4 o5 o8 : Option Value), bst (fun r => rsV w r n 3 l) (r + 1) = r → WM (d + 5) 111 (fun vs N => vs = [.int (nI (neA w l n))] ∧ Fr aCl M N) 92 [some (.ref 704), some (.int (nI l)), some (.int (nI n)), o3, o4, o5, some (.int (nI r)), some (.long (lz (rsV w r n 3 l))), o8] [] N3 := by
        intro o3 o4 o5 o8 hb1
        refine go_in (e111_92 (go_in (e111_99 ?_)))
        rw [nI_s, iz_n r]
        exact ih (r + 1) r N3 _ _ _ _ _ (by omega) hF3' hy3 (fun h => by omega) fun _ => ⟨by rw [hb1], by rw [hb1]⟩
      refine e111_65 ?_
      rw [nI_add, nI_c (by omega), show 24 + l = 3 * 8 + l from rfl, hH 3 (Or.inr rfl)]
      refine ⟨nI_in2 (by omega) (by decide), ?_⟩
      by_cases hr0 : r = 0
      · rw [h1 hr0]
        refine ⟨fun _ => take _ _ _ _ ?_, fun q => absurd rfl q⟩
        rw [hr0]
        exact bst_1 _
      · obtain ⟨hb1, hb2⟩ := h2 (by omega)
        have hbl := bst_lt (fun r => rsV w r n 3 l) r (by omega)
        have i2 := i64_of (rsV_bd hb (show bst (fun r => rsV w r n 3 l) r < w 9 by omega) n 3 l hl (Or.inr rfl)) (pw65 n (by omega))
        rw [hb1, hb2, nI_neg1, iz_eq (i32_n (by omega)) ⟨by omega, by omega⟩, cmp_gtI i1 i2]
        refine ⟨fun q => absurd q (by omega), fun _ => ⟨fun q => go_in (e111_99 ?_), fun q => take _ _ _ _ ?_⟩⟩
        · have hb3 : bst (fun r => rsV w r n 3 l) (r + 1) = bst (fun r => rsV w r n 3 l) r := by rw [hst, if_neg (Int.not_lt.mpr q)]
          rw [nI_s]
          exact ih (r + 1) r N3 _ _ _ _ _ (by omega) hF3' hy3 (fun h => by omega) fun _ => ⟨by rw [hb3], by rw [hb3]⟩
        · rw [hst, if_pos (Int.not_le.mp q)]
  have t := loop (w 9) 0 (w 10) N1 (-1) 0 none none none (by omega) (hF1.up aYr_cl) hY1.1 (fun _ => rfl) fun h => absurd h (Nat.lt_irrefl _)
  exact t
end FR
