/-! The reference's face: rest, restWorth, nearest. -/
section RX
variable {d : Nat} {M : Mm} {w : Nat → Nat} {ta : Nat → Nat → Nat → Nat}
theorem c208 (hw : MR w M) (hb : WB w) (hD : DRel w ta M) (hp : NP M) {f l n : Nat} (hf : f < w 8) (hl : l ≤ w 0) (hn0 : 1 ≤ n) (hn : n ≤ 8) : SC (d + 11) 208 [.ref 768, .int (nI f), .int (nI l), .int (nI n)] M (fun vs N => vs = [.int (nI (reA w f l n))] ∧ Fr aRe M N ∧ N.1 768 0 = nI 0) := by
  obtain ⟨w0, w8, w9⟩ := wb_w hb
  have w10 : w 10 < w 9 := hb.2.2.2.1.2.2.1
  refine sC (by decide) rfl (go_in (e208_0 ?_))
  obtain ⟨M1, hM1⟩ : ∃ M1, M1 = sI M 768 0 (nI 0) := ⟨_, rfl⟩
  have hF1 : Fr aRe M M1 := by rw [hM1]; exact Fr.rf.sI rfl
  have e10 : M1.1 768 0 = nI 0 := by rw [hM1, sI_v, if_pos ⟨rfl, rfl⟩]
  rw [← hM1]
  have hw1 := hw.of hF1 (fun j _ => rfl)
  have hD1 := hD.of hF1 (fun j => rfl)
  have hp1 := hp.of hF1 rfl rfl
  rw [iz_n f]
  refine useC (upC (c138 (d := d) hw1 hb (a := (f : Int)) (i32_n (by omega))) (by omega)) fun vs N q => ?_
  obtain ⟨rfl, q⟩ := q
  have q := q.symm
  subst q
  rw [if_pos (by omega), ← iz_n f]
  refine e208_11 ⟨fun e => absurd rfl e, fun _ => ?_⟩
  rw [iz_n l]
  refine useC (upC (c137 (d := d) hw1 hb (a := (l : Int)) (i32_n (by omega))) (by omega)) fun vs N q => ?_
  obtain ⟨rfl, q⟩ := q
  have q := q.symm
  subst q
  rw [if_pos (by omega), ← iz_n l]
  refine e208_19 ⟨fun _ => go_in (e208_26 (go_in (e208_27 (useC (upC (c130f (d := d)) (by omega)) fun vs N q => ?_)))), fun e => absurd rfl e⟩
  obtain ⟨rfl, q⟩ := q
  have q := q.symm
  subst q
  refine e208_31 ⟨fun e => absurd rfl e, fun _ => ?_⟩
  rw [iz_n n]
  refine useC (upC (c203 (d := d) (a := (n : Int)) (i32_n (by omega))) (by omega)) fun vs N q => ?_
  obtain ⟨rfl, q⟩ := q
  have q := q.symm
  subst q
  rw [if_pos (by omega), ← iz_n n]
  refine e208_39 (useC (upC (c130f (d := d)) (by omega)) fun vs N q => ?_)
  obtain ⟨rfl, q⟩ := q
  have q := q.symm
  subst q
  refine e208_43 ⟨fun _ => go_in (e208_48 ?_), fun e => absurd rfl e⟩
  refine useC (upC (c174 (d := d) hw1) (by omega)) fun vs N q => ?_
  obtain ⟨rfl, q⟩ := q
  have q := q.symm
  subst q
  refine e208_54 (useC (c207 (d := d) hw1 hb hD1 hp1 w10 hn0 hn) fun vs N2 h => ?_)
  obtain ⟨rfl, hF2, -, -, -, hC⟩ := h
  have hF12 := hF1.tr (hF2.up aRq_re)
  have hk := rsK_lt (w := w) (rr := w 10) (R := rsV w (w 10) (n - 1)) (n := n - 1) (l := l)
  have hK := (ncd_bd hb (fm := -1)).2.1
  rw [ncd_all] at hK
  refine e208_57 ⟨nI_in2 (by omega) (by decide), ?_⟩
  rw [nI_c (by omega), hC l hl, nI_neg1]
  refine useC (upC (c194 (d := d) (hw.of hF12 (fun j _ => rfl)) hb (hD.of hF12 (fun j => rfl)) (hp.of hF12 rfl rfl) (fm := -1) (by omega) (by omega) (l := l) (c := rsK w (w 10) (rsV w (w 10) (n - 1)) (n - 1) l) (by omega) (by omega)) (by omega)) fun vs N3 h => ?_
  obtain ⟨rfl, hF3, hWR⟩ := h
  rw [vBy_all] at hWR
  refine e208_69 ⟨nI_in2 (by omega) (by decide), ?_⟩
  rw [nI_c (by omega), hWR f hf]
  exact ⟨rfl, rfl, hF12.tr (hF3.up fun k j q => aBD_re k j (aYB_bd k j (aWant_yb k j q))), by rw [(hF3 768 0 rfl).1, (hF2 768 0 rfl).1]; exact e10⟩
theorem c209 (hw : MR w M) (hb : WB w) (hD : DRel w ta M) (hp : NP M) {f l n : Nat} {g : Bool} (hf : f < w 8) (hl : l ≤ w 0) (hn0 : 1 ≤ n) (hn : n ≤ 8) : SC (d + 11) 209 [.ref 768, .int (nI f), .int (nI l), .int (nI n), .int (nI (cond g 1 0))] M (fun vs N => vs = [.long (lz (reF w f l n g))] ∧ Fr aRe M N ∧ N.1 768 0 = nI 0) := by
  obtain ⟨w0, w8, w9⟩ := wb_w hb
  have w10 : w 10 < w 9 := hb.2.2.2.1.2.2.1
  refine sC (by decide) rfl (go_in (e209_0 ?_))
  obtain ⟨M1, hM1⟩ : ∃ M1, M1 = sI M 768 0 (nI 0) := ⟨_, rfl⟩
  have hF1 : Fr aRe M M1 := by rw [hM1]; exact Fr.rf.sI rfl
  have e10 : M1.1 768 0 = nI 0 := by rw [hM1, sI_v, if_pos ⟨rfl, rfl⟩]
  rw [← hM1]
  have hw1 := hw.of hF1 (fun j _ => rfl)
  have hD1 := hD.of hF1 (fun j => rfl)
  have hp1 := hp.of hF1 rfl rfl
  rw [iz_n f]
  refine useC (upC (c138 (d := d) hw1 hb (a := (f : Int)) (i32_n (by omega))) (by omega)) fun vs N q => ?_
  obtain ⟨rfl, q⟩ := q
  have q := q.symm
  subst q
  rw [if_pos (by omega), ← iz_n f]
  refine e209_11 ⟨fun e => absurd rfl e, fun _ => ?_⟩
  rw [iz_n l]
  refine useC (upC (c137 (d := d) hw1 hb (a := (l : Int)) (i32_n (by omega))) (by omega)) fun vs N q => ?_
  obtain ⟨rfl, q⟩ := q
  have q := q.symm
  subst q
  rw [if_pos (by omega), ← iz_n l]
  refine e209_19 ⟨fun _ => go_in (e209_26 (go_in (e209_27 (useC (upC (c130f (d := d)) (by omega)) fun vs N q => ?_)))), fun e => absurd rfl e⟩
  obtain ⟨rfl, q⟩ := q
  have q := q.symm
  subst q
  refine e209_31 ⟨fun e => absurd rfl e, fun _ => ?_⟩
  rw [iz_n n]
  refine useC (upC (c203 (d := d) (a := (n : Int)) (i32_n (by omega))) (by omega)) fun vs N q => ?_
  obtain ⟨rfl, q⟩ := q
  have q := q.symm
  subst q
  rw [if_pos (by omega), ← iz_n n]
  refine e209_39 (useC (upC (c130f (d := d)) (by omega)) fun vs N q => ?_)
  obtain ⟨rfl, q⟩ := q
  have q := q.symm
  subst q
  refine e209_43 ⟨fun _ => go_in (e209_48 ?_), fun e => absurd rfl e⟩
  refine useC (upC (c174 (d := d) hw1) (by omega)) fun vs N q => ?_
  obtain ⟨rfl, q⟩ := q
  have q := q.symm
  subst q
  refine e209_54 (useC (c207 (d := d) hw1 hb hD1 hp1 w10 hn0 hn) fun vs N2 h => ?_)
  obtain ⟨rfl, hF2, hR, -, hs, -⟩ := h
  have hF12 := hF1.tr (hF2.up aRq_re)
  have hu := rsV_bd hb w10 n f l hl (Or.inl hf)
  have hd := DW_p hb (n - 1) (by omega)
  refine e209_57 ?_
  rw [nI_mul, nI_add, nI_c (by omega), hR f l hf hl, hs, lz_n 4, lz_mul]
  refine ⟨nI_in2 (by omega) (by decide), ?_⟩
  refine useC (upC (c183 (d := d) (a := rsV w (w 10) n f l) (bd_le hu (by have := pw65 n (by omega); omega)) (b := 4 * DW w ^ (n - 1)) ⟨by omega, by omega⟩ (by omega)) (by omega)) fun vs N5 h => ?_
  obtain ⟨rfl, rfl⟩ := h
  have hF3 : Fr aRe M (sJ (sJ N2 768 22 (lz (reF w f l n false))) 768 23 (lz (reF w f l n true))) := (hF12.sJ rfl).sJ rfl
  have e0 : N2.1 768 0 = nI 0 := by rw [(hF2 768 0 rfl).1]; exact e10
  refine e209_80 ⟨fun e => go_in (e209_92 (go_in (e209_96 ?_))), fun e => go_in (e209_96 ?_)⟩
  · have hg : g = false := by cases g <;> first | rfl | exact absurd e (by decide)
    rw [hg]
    exact ⟨rfl, rfl, hF3, e0⟩
  · have hg : g = true := by cases g <;> first | rfl | exact absurd rfl e
    rw [hg]
    exact ⟨rfl, rfl, hF3, e0⟩
theorem c210 (hw : MR w M) (hb : WB w) (hD : DRel w ta M) (hp : NP M) {l n : Nat} (hl : l ≤ w 0) (hn0 : 1 ≤ n) (hn : n ≤ 8) : SC (d + 11) 210 [.ref 768, .int (nI l), .int (nI n)] M (fun vs N => vs = [.int (nI (neA w l n))] ∧ Fr aRe M N ∧ N.1 768 0 = nI 0) := by
  obtain ⟨w0, w8, w9⟩ := wb_w hb
  have w9' : 1 ≤ w 9 := hb.2.2.2.1.2.1.1
  refine sC (by decide) rfl (go_in (e210_0 ?_))
  obtain ⟨M1, hM1⟩ : ∃ M1, M1 = sI M 768 0 (nI 0) := ⟨_, rfl⟩
  have hF1 : Fr aRe M M1 := by rw [hM1]; exact Fr.rf.sI rfl
  have e10 : M1.1 768 0 = nI 0 := by rw [hM1, sI_v, if_pos ⟨rfl, rfl⟩]
  rw [← hM1]
  have hw1 := hw.of hF1 (fun j _ => rfl)
  have hD1 := hD.of hF1 (fun j => rfl)
  have hp1 := hp.of hF1 rfl rfl
  rw [iz_n l]
  refine useC (upC (c137 (d := d) hw1 hb (a := (l : Int)) (i32_n (by omega))) (by omega)) fun vs N q => ?_
  obtain ⟨rfl, q⟩ := q
  have q := q.symm
  subst q
  rw [if_pos (by omega), ← iz_n l]
  refine e210_11 (useC (upC (c130f (d := d)) (by omega)) fun vs N q => ?_)
  obtain ⟨rfl, q⟩ := q
  have q := q.symm
  subst q
  refine e210_15 ⟨fun e => absurd rfl e, fun _ => ?_⟩
  rw [iz_n n]
  refine useC (upC (c203 (d := d) (a := (n : Int)) (i32_n (by omega))) (by omega)) fun vs N q => ?_
  obtain ⟨rfl, q⟩ := q
  have q := q.symm
  subst q
  rw [if_pos (by omega), ← iz_n n]
  refine e210_23 (useC (upC (c130f (d := d)) (by omega)) fun vs N q => ?_)
  obtain ⟨rfl, q⟩ := q
  have q := q.symm
  subst q
  refine e210_27 ⟨fun _ => go_in (e210_32 ?_), fun e => absurd rfl e⟩
  have hne : neA w l n = bst (fun r => rqV w r n l) (w 9) := by
    unfold neA
    have e : (fun r => rsV w r n 3 l) = fun r => 4 * rqV w r n l := funext fun r => rsV_rq w r n l
    rw [e, bst_4]
  rw [hne]
  have loop : ∀ k r N (best most : Int) (o5 : Option Value), r + k = w 9 → Fr aRe M N → N.1 768 0 = nI 0 → (r = 0 → best = -1) → (0 < r → best = ((bst (fun r => rqV w r n l) r : Nat) : Int) ∧ most = rqV w (bst (fun r => rqV w r n l) r) n l) → WM (d + 10) 210 (fun vs N => vs = [.int (nI (bst (fun r => rqV w r n l) (w 9)))] ∧ Fr aRe M N ∧ N.1 768 0 = nI 0) 40 [some (.ref 768), some (.int (nI l)), some (.int (nI n)), some (.int (iz best)), some (.long (lz most)), o5, some (.int (nI r))] [] N := by
    intro k
    induction k with
    | zero =>
      intro r N best most o5 hr hF h0 h1 h2
      have hr : r = w 9 := by omega
      subst hr
      have e9 : N.1 50177 9 = nI (w 9) := (hw.of hF (fun j _ => rfl)).n (by decide) rfl
      refine go_in (e210_40 ⟨nI_in2 (by decide) (by decide), ?_⟩)
      rw [nI_c (by decide), e9]
      refine br_t (nI_le (Nat.le_refl _) (by omega)) (go_in (e210_95 ⟨rfl, ?_, hF, h0⟩))
      rw [(h2 (by omega)).1, iz_nn]
    | succ k ih =>
      intro r N best most o5 hr hF h0 h1 h2
      have hr9 : r < w 9 := by omega
      have hw' := hw.of hF (fun j _ => rfl)
      have e9 : N.1 50177 9 = nI (w 9) := hw'.n (by decide) rfl
      refine go_in (e210_40 ⟨nI_in2 (by decide) (by decide), ?_⟩)
      rw [nI_c (by decide), e9]
      refine br_f (nI_ge (by omega) (by omega)) (useC (c207 (d := d) hw' hb (hD.of hF (fun j => rfl)) (hp.of hF rfl rfl) hr9 hn0 hn) fun vs N2 h => ?_)
      obtain ⟨rfl, hF2, -, hP, -, -⟩ := h
      have hF2' := hF.tr (hF2.up aRq_re)
      have h02 : N2.1 768 0 = nI 0 := by rw [(hF2 768 0 rfl).1]; exact h0
      have q64 : ∀ r, r < w 9 → i64 (rqV w r n l) := fun r hr => by
        have h := rsV_bd hb hr n 3 l hl (Or.inr rfl)
        have h3 := pw65 n (by omega)
        rw [rsV_rq] at h
        exact ⟨by have := h.1; omega, by have := h.2; omega⟩
      have hst := bst_s (fun r => rqV w r n l) r
      have take : ∀ (o3 o4 o5 : Option Value), bst (fun r => rqV w r n l) (r + 1) = r → WM (d + 10) 210 (fun vs N => vs = [.int (nI (bst (fun r => rqV w r n l) (w 9)))] ∧ Fr aRe M N ∧ N.1 768 0 = nI 0) 78 [some (.ref 768), some (.int (nI l)), some (.int (nI n)), o3, o4, o5, some (.int (nI r))] [] N2 := by
        intro o3 o4 o5 hb1
        refine go_in (e210_78 ⟨nI_in2 (by omega) (by decide), ?_⟩)
        rw [nI_c (by omega), hP l hl]
        refine go_in (e210_89 ?_)
        rw [nI_s, iz_n r]
        exact ih (r + 1) N2 _ _ _ (by omega) hF2' h02 (fun h => by omega) fun _ => ⟨by rw [hb1], by rw [hb1]⟩
      refine e210_59 ?_
      by_cases hr0 : r = 0
      · rw [h1 hr0]
        refine ⟨fun _ => take _ _ _ ?_, fun q => absurd (by decide) q⟩
        rw [hr0]
        exact bst_1 _
      · obtain ⟨hb1, hb2⟩ := h2 (by omega)
        have hbl := bst_lt (fun r => rqV w r n l) r (by omega)
        rw [hb1, iz_lt0 (i32_n (by omega))]
        refine ⟨fun q => absurd q (by omega), fun _ => ⟨nI_in2 (by omega) (by decide), ?_⟩⟩
        rw [nI_c (by omega), hP l hl, hb2, cmp_gt, lz_lt (q64 _ (by omega)) (q64 r hr9)]
        refine ⟨fun q => take _ _ _ (by rw [hst, if_pos q]), fun q => go_in (e210_89 ?_)⟩
        have hb3 : bst (fun r => rqV w r n l) (r + 1) = bst (fun r => rqV w r n l) r := by rw [hst, if_neg q]
        rw [nI_s]
        exact ih (r + 1) N2 _ _ _ (by omega) hF2' h02 (fun h => by omega) fun _ => ⟨by rw [hb3], by rw [hb3]⟩
  exact loop (w 9) 0 M1 (-1) 0 none (by omega) hF1 e10 (fun _ => rfl) fun h => absurd h (Nat.lt_irrefl _)
end RX
