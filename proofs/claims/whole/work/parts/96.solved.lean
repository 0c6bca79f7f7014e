/-! The reference: its squares, solved. -/
section HQ
variable {d : Nat} {M : Mm} {w : Nat → Nat}
def aSq (k _ : Nat) : Bool := Nat.beq k 50200
def sqr (w : Nat → Nat) (lo : Nat → Nat) (r i c : Nat) : Int := -((w 6 : Int) * (prt (yW w 0) (lo i) c r : Int)) + dl i c * ((w 7 : Int) * ((w 2 + w 3 + w 4 + w 5 : Nat) : Int))
theorem sqr_AX (w lo : Nat → Nat) (i c : Nat) : sqr w lo 4 i c = AX (pW (w 6) (Wm (yW w 0) lo)) ((w 7 : Int) * ((w 2 + w 3 + w 4 + w 5 : Nat) : Int)) i c := rfl
set_option maxHeartbeats 1000000 in
theorem c185 (hw : MR w M) (hb : WB w) {lo : Nat → Nat} (hlo : ∀ i, i < w 0 + 1 → M.1 50202 i = nI (lo i)) (hlo7 : ∀ i, lo i ≤ 7) : SC (d + 3) 185 [.ref 768] M (fun vs N => vs = [] ∧ Fr aSq M N ∧ ∀ i c, i < w 0 + 1 → c < w 0 + 1 → N.2.1 50200 (8 * i + c) = lz (sqr w lo 4 i c)) := by
  obtain ⟨w0, -, -⟩ := wb_w hb
  have w7 := hb.2.2.1
  have w2 := hb.2.1.2
  have hp : ∀ r, r < 4 → w (2 + r) ≤ 4 := hb.2.1.1
  refine sC (by decide) rfl (go_in (e185_0 ?_))
  have hw2 : ∀ N', Fr aSq M N' → MR w N' := fun N' hF => hw.of hF (fun j _ => rfl)
  have L0 : ∀ k (o2 : Option Value) i N, i + k = w 0 + 1 → Fr aSq M N → (∀ i' c, i' < i → c < w 0 + 1 → N.2.1 50200 (8 * i' + c) = lz (sqr w lo 4 i' c)) → WM (d + 2) 185 (fun vs N => vs = [] ∧ Fr aSq M N ∧ ∀ i c, i < w 0 + 1 → c < w 0 + 1 → N.2.1 50200 (8 * i + c) = lz (sqr w lo 4 i c)) 2 [some (.ref 768), some (.int (nI i)), o2] [] N := by
    intro k
    induction k with
    | zero =>
      intro o2 i N hi hF hd
      refine go_in (e185_2 (useC (upC (c134 (d := d) (hw2 N hF)) (by omega)) fun vs N2 h => ?_))
      obtain ⟨rfl, rfl⟩ := h
      exact e185_7 (br_t (nI_lt (by omega) (by omega)) (go_in (e185_121 ⟨rfl, rfl, hF, fun i' c h1 h2 => hd i' c (by omega) h2⟩)))
    | succ k ih =>
      intro o2 i N hi hF hd
      refine go_in (e185_2 (useC (upC (c134 (d := d) (hw2 N hF)) (by omega)) fun vs N2 h => ?_))
      obtain ⟨rfl, rfl⟩ := h
      refine e185_7 (br_f (nI_nlt (by omega) (by omega)) ?_)
      have L2 : ∀ k2 r N3, r + k2 = 4 → Fr aSq M N3 → (∀ i' c, i' < i → c < w 0 + 1 → N3.2.1 50200 (8 * i' + c) = lz (sqr w lo 4 i' c)) → (∀ c, c < w 0 + 1 → N3.2.1 50200 (8 * i + c) = lz (sqr w lo r i c)) → WM (d + 2) 185 (fun vs N => vs = [] ∧ Fr aSq M N ∧ ∀ i c, i < w 0 + 1 → c < w 0 + 1 → N.2.1 50200 (8 * i + c) = lz (sqr w lo 4 i c)) 62 [some (.ref 768), some (.int (nI i)), some (.int (nI r))] [] N3 := by
        intro k2
        induction k2 with
        | zero =>
          intro r N3 hr hF3 hd3 hr3
          have hr : r = 4 := by omega
          subst hr
          refine go_in (e185_62 (br_t (nI_le (Nat.le_refl _) (by decide)) (go_in (e185_115 ?_))))
          rw [nI_s]
          refine ih _ (i + 1) _ (by omega) hF3 fun i' c h1 h2 => ?_
          by_cases e : i' = i
          · subst e; exact hr3 c h2
          · exact hd3 i' c (by omega) h2
        | succ k2 ih2 =>
          intro r N3 hr hF3 hd3 hr3
          have hl7 := hlo7 i
          have hN3 := hw2 N3 hF3
          have e1 : N3.1 50202 i = nI (lo i) := by rw [(hF3 50202 i rfl).1]; exact hlo i (by omega)
          refine go_in (e185_62 (br_f (nI_ge (by omega) (by decide)) ⟨nI_in2 (by omega) (by decide), ?_⟩))
          rw [nI_c (by omega), e1]
          refine useC (c177 hN3 hb (show lo i ≤ 100 by omega) (show r ≤ 100 by omega)) fun vs N4 h => ?_
          obtain ⟨rfl, rfl⟩ := h
          refine e185_86 ?_
          obtain ⟨t, ht⟩ : ∃ t, t = min (w 0) (lo i + r) := ⟨_, rfl⟩
          have ht0 : t < w 0 + 1 := by omega
          have hpr := hp r (by omega)
          rw [← ht, nI_mul, nI_add, nI_add, nI_s, nI_c (a := 8 * i + t) (by omega), nI_c (a := 2 + r) (by omega), nI_c (by decide), hr3 t ht0, hN3.n (by decide) rfl, hN3.n (i := 2 + r) (by omega) (shf_no (by omega)), iz_n (w 6), iz_n (w (2 + r)), iz_l ⟨by omega, by omega⟩, iz_l ⟨by omega, by omega⟩, lz_mul, lz_sub]
          refine ⟨nI_in2 (by omega) (by decide), nI_in2 (by decide) (by decide), nI_in2 (by omega) (by decide), nI_in2 (by omega) (by decide), ih2 (r + 1) _ (by omega) (hF3.sJ rfl) (fun i' c h1 h2 => ?_) fun c hc => ?_⟩
          · rw [sJ_v, if_neg (by omega)]; exact hd3 i' c h1 h2
          · have ey : w (2 + r) = yW w 0 (7 + r) := by rcases (show r = 0 ∨ r = 1 ∨ r = 2 ∨ r = 3 by omega) with e | e | e | e <;> subst e <;> rfl
            have ep : prt (yW w 0) (lo i) c (r + 1) = prt (yW w 0) (lo i) c r + if t = c then w (2 + r) else 0 := by rw [ey, ht]; rfl
            rw [sJ_v]
            by_cases e : c = t
            · subst e
              rw [if_pos ⟨rfl, rfl⟩]
              unfold sqr
              rw [ep, if_pos rfl]
              congr 1
              push_cast
              grind
            · rw [if_neg (by omega), hr3 c hc]
              unfold sqr
              rw [ep, if_neg (Ne.symm e), Nat.add_zero]
      have L1 : ∀ k2 j N3, j + k2 = w 0 + 1 → Fr aSq M N3 → (∀ i' c, i' < i → c < w 0 + 1 → N3.2.1 50200 (8 * i' + c) = lz (sqr w lo 4 i' c)) → (∀ c, c < j → N3.2.1 50200 (8 * i + c) = lz (sqr w lo 0 i c)) → WM (d + 2) 185 (fun vs N => vs = [] ∧ Fr aSq M N ∧ ∀ i c, i < w 0 + 1 → c < w 0 + 1 → N.2.1 50200 (8 * i + c) = lz (sqr w lo 4 i c)) 12 [some (.ref 768), some (.int (nI i)), some (.int (nI j))] [] N3 := by
        intro k2
        induction k2 with
        | zero =>
          intro j N3 hj hF3 hd3 hr3
          refine go_in (e185_12 (useC (upC (c134 (d := d) (hw2 N3 hF3)) (by omega)) fun vs N4 h => ?_))
          obtain ⟨rfl, rfl⟩ := h
          refine e185_17 (br_t (nI_lt (by omega) (by omega)) (go_in (e185_60 ?_)))
          exact L2 4 0 _ (by omega) hF3 hd3 fun c hc => hr3 c (by omega)
        | succ k2 ih2 =>
          intro j N3 hj hF3 hd3 hr3
          have hN3 := hw2 N3 hF3
          have fin : ∀ z : Int, z = sqr w lo 0 i j → WM (d + 2) 185 (fun vs N => vs = [] ∧ Fr aSq M N ∧ ∀ i c, i < w 0 + 1 → c < w 0 + 1 → N.2.1 50200 (8 * i + c) = lz (sqr w lo 4 i c)) 53 [some (.ref 768), some (.int (nI i)), some (.int (nI j))] [.long (lz z), .int (nI (8 * i + j)), .ref 50200] N3 := by
            intro z hz
            refine go_in (e185_53 ?_)
            rw [nI_c (by omega), nI_s]
            refine ⟨nI_in2 (by omega) (by decide), ih2 (j + 1) _ (by omega) (hF3.sJ rfl) (fun i' c h1 h2 => ?_) fun c hc => ?_⟩
            · rw [sJ_v, if_neg (by omega)]; exact hd3 i' c h1 h2
            · rw [sJ_v]
              by_cases e : c = j
              · subst e; rw [if_pos ⟨rfl, rfl⟩, hz]
              · rw [if_neg (by omega)]; exact hr3 c (by omega)
          refine go_in (e185_12 (useC (upC (c134 (d := d) hN3) (by omega)) fun vs N4 h => ?_))
          obtain ⟨rfl, rfl⟩ := h
          refine e185_17 (br_f (nI_nlt (by omega) (by omega)) ⟨fun e => ?_, fun e => ⟨nI_in2 (by decide) (by decide), useC (upC (c136 (d := d) hN3) (by omega)) fun vs N5 h => ?_⟩⟩)
          · rw [nI_mul, nI_add]
            refine go_in (e185_52 (fin 0 ?_))
            have hne : i ≠ j := fun q => e (by rw [q])
            unfold sqr prt
            rw [dl_n hne]
            simp
          · obtain ⟨rfl, rfl⟩ := h
            have he : i = j := by
              rw [iz_n, iz_n, iz_eq ⟨by omega, by omega⟩ ⟨by omega, by omega⟩] at e
              omega
            refine e185_47 ?_
            rw [nI_mul, nI_add, nI_c (by decide), hN3.n (by decide) rfl, iz_n (w 7), iz_n (w 2 + w 3 + w 4 + w 5), iz_l ⟨by omega, by omega⟩, iz_l ⟨by omega, by omega⟩, lz_mul]
            refine fin _ ?_
            subst he
            unfold sqr prt
            rw [dl_s]
            simp
      exact L1 (w 0 + 1) 0 _ (by omega) hF hd fun c hc => absurd hc (Nat.not_lt_zero c)
  exact L0 (w 0 + 1) _ 0 _ (by omega) Fr.rf fun i' c h1 => absurd h1 (Nat.not_lt_zero i')
/-- the solved: det and Cramer's numbers -/
def aSv (k j : Nat) : Bool := Nat.beq k 50200 || (Nat.beq k 50201 || (Nat.beq k 50204 || (Nat.beq k 768 && Nat.beq j 29)))
def RSQ (w lo : Nat → Nat) : Nat → Nat → Int := AX (pW (w 6) (Wm (yW w 0) lo)) ((w 7 : Int) * ((w 2 + w 3 + w 4 + w 5 : Nat) : Int))
def RB (w : Nat → Nat) (b : Nat → Int) (i : Nat) : Int := b i * ((w 7 : Int) * ((w 2 + w 3 + w 4 + w 5 : Nat) : Int))
theorem colA_no (A : Nat → Nat → Int) (b : Nat → Int) (n : Nat) : det (colA A (-1) b) n = det A n := det_cong fun i c _ _ => if_neg (by omega)
theorem colA_at (A : Nat → Nat → Int) (b : Nat → Int) (n j : Nat) : det (colA A (j : Int) b) n = crm A n b j := det_cong fun i c _ _ => by
  unfold colA colR
  by_cases e : c = j
  · rw [if_pos (by omega), if_pos e]
  · rw [if_neg (by omega), if_neg e]
set_option maxHeartbeats 1000000 in
theorem c186 (hw : MR w M) (hb : WB w) {lo : Nat → Nat} (hlo : ∀ i, i < w 0 + 1 → M.1 50202 i = nI (lo i)) (hlo7 : ∀ i, lo i ≤ 7) {b : Nat → Int} (hB : ∀ i, i < w 0 + 1 → M.1 50203 i = iz (b i) ∧ i32 (b i)) : SC (d + 4) 186 [.ref 768] M (fun vs N => vs = [] ∧ Fr aSv M N ∧ N.2.1 768 29 = lz (det (RSQ w lo) (w 0 + 1)) ∧ ∀ j, j < w 0 + 1 → N.2.1 50204 j = lz (crm (RSQ w lo) (w 0 + 1) (RB w b) j)) := by
  obtain ⟨w0, -, -⟩ := wb_w hb
  refine sC (by decide) rfl (go_in (e186_0 (useC (c185 hw hb hlo hlo7) fun vs N h => ?_)))
  obtain ⟨rfl, hF, hq⟩ := h
  have hF1 : Fr aSv M N := hF.le fun k j q => by
    have := (Bool.or_eq_false_iff.mp q).1
    exact this
  have hle : ∀ k j, aSv k j = false → aM k j = false := fun k j q => (Bool.or_eq_false_iff.mp (Bool.or_eq_false_iff.mp q).2).1
  have hw2 : ∀ N', Fr aSv M N' → MR w N' := fun N' hF => hw.of hF (fun j _ => rfl)
  have hB2 : ∀ N', Fr aSv M N' → ∀ i, i < w 0 + 1 → N'.1 50203 i = iz (b i) ∧ i32 (b i) := fun N' hF i hi => by rw [(hF 50203 i rfl).1]; exact hB i hi
  refine e186_4 ?_
  rw [nI_neg1]
  refine useC (upC (c184 (d := d) (hw2 N hF1) hb (A := sqr w lo 4) hq (hB2 N hF1) (col := -1) ⟨by omega, by omega⟩) (by omega)) fun vs N2 h => ?_
  obtain ⟨rfl, hF2⟩ := h
  rw [colA_no]
  refine e186_10 ?_
  have loop : ∀ k j N', j + k = w 0 + 1 → Fr aSv M N' → (∀ i c, i < w 0 + 1 → c < w 0 + 1 → N'.2.1 50200 (8 * i + c) = lz (sqr w lo 4 i c)) → N'.2.1 768 29 = lz (det (RSQ w lo) (w 0 + 1)) → (∀ j', j' < j → N'.2.1 50204 j' = lz (crm (RSQ w lo) (w 0 + 1) (RB w b) j')) → WM (d + 3) 186 (fun vs N => vs = [] ∧ Fr aSv M N ∧ N.2.1 768 29 = lz (det (RSQ w lo) (w 0 + 1)) ∧ ∀ j, j < w 0 + 1 → N.2.1 50204 j = lz (crm (RSQ w lo) (w 0 + 1) (RB w b) j)) 15 [some (.ref 768), some (.int (nI j))] [] N' := by
    intro k
    induction k with
    | zero =>
      intro j N' hj hF' hq' hdt hd
      refine go_in (e186_15 (useC (upC (c134 (d := d) (hw2 N' hF')) (by omega)) fun vs N3 h => ?_))
      obtain ⟨rfl, rfl⟩ := h
      exact e186_20 (br_t (nI_lt (by omega) (by omega)) (go_in (e186_40 ⟨rfl, rfl, hF', hdt, fun j' h1 => hd j' (by omega)⟩)))
    | succ k ih =>
      intro j N' hj hF' hq' hdt hd
      refine go_in (e186_15 (useC (upC (c134 (d := d) (hw2 N' hF')) (by omega)) fun vs N3 h => ?_))
      obtain ⟨rfl, rfl⟩ := h
      refine e186_20 (br_f (nI_nlt (by omega) (by omega)) ?_)
      rw [iz_n j]
      refine useC (upC (c184 (d := d) (hw2 N3 hF') hb (A := sqr w lo 4) hq' (hB2 N3 hF') (col := (j : Int)) ⟨by omega, by omega⟩) (by omega)) fun vs N4 h => ?_
      obtain ⟨rfl, hF4⟩ := h
      rw [colA_at, ← iz_n j]
      refine e186_33 ?_
      rw [nI_c (by omega), nI_s]
      refine ⟨nI_in2 (by omega) (by decide), ih (j + 1) _ (by omega) ((hF'.tr (hF4.le hle)).sJ rfl) (fun i c h1 h2 => ?_) ?_ fun j' h1 => ?_⟩
      · rw [sJ_v, if_neg (by omega), (hF4 50200 _ rfl).2.1]; exact hq' i c h1 h2
      · rw [sJ_v, if_neg (by omega), (hF4 768 29 rfl).2.1]; exact hdt
      · rw [sJ_v]
        by_cases e : j' = j
        · subst e; rw [if_pos ⟨rfl, rfl⟩]; rfl
        · rw [if_neg (by omega), (hF4 50204 j' rfl).2.1]; exact hd j' (by omega)
  refine loop (w 0 + 1) 0 _ (by omega) ((hF1.tr (hF2.le hle)).sJ rfl) (fun i c h1 h2 => ?_) ?_ fun j' h1 => absurd h1 (Nat.not_lt_zero j')
  · rw [sJ_v, if_neg (by omega), (hF2 50200 _ rfl).2.1]; exact hq i c h1 h2
  · rw [sJ_v, if_pos ⟨rfl, rfl⟩]; rfl
end HQ
