/-! The reference's face: next. -/
section RN
variable {d : Nat} {M : Mm} {w : Nat → Nat} {ta : Nat → Nat → Nat → Nat}
theorem c180 (hw : MR w M) (hb : WB w) (hD : DRel w ta M) (hp : NP M) {l to : Nat} {b : Bool} (hl : l ≤ w 0) (hto : to ≤ w 0) : SC (d + 9) 180 [.ref 768, .int (nI l), .int (nI (cond b 1 0)), .int (nI to)] M (fun vs N => vs = [.int (nI (prt (yW w 0) (loV w (w 10) (waW w ta (cond b 1 0)) l) to 4))] ∧ Fr aRe M N ∧ N.1 768 0 = nI 0) := by
  obtain ⟨w0, w8, w9⟩ := wb_w hb
  have hb1 : (cond b 1 0 : Nat) ≤ 1 := by cases b <;> decide
  have hpt : ∀ r, r < 4 → w (2 + r) ≤ 4 := hb.2.1.1
  refine sC (by decide) rfl (go_in (e180_0 ?_))
  obtain ⟨M1, hM1⟩ : ∃ M1, M1 = sI M 768 0 (nI 0) := ⟨_, rfl⟩
  have hF1 : Fr aRe M M1 := by rw [hM1]; exact Fr.rf.sI rfl
  have e10 : M1.1 768 0 = nI 0 := by rw [hM1, sI_v, if_pos ⟨rfl, rfl⟩]
  rw [← hM1, iz_n l]
  have hw1 := hw.of hF1 (fun j _ => rfl)
  refine useC (upC (c137 (d := d) hw1 hb (a := (l : Int)) (i32_n (by omega))) (by omega)) fun vs N h => ?_
  obtain ⟨rfl, rfl⟩ := h
  rw [if_pos (by omega), ← iz_n l]
  refine e180_11 ⟨fun e => absurd rfl e, fun _ => ?_⟩
  rw [iz_n to]
  refine useC (upC (c137 (d := d) hw1 hb (a := (to : Int)) (i32_n (by omega))) (by omega)) fun vs N h => ?_
  obtain ⟨rfl, rfl⟩ := h
  rw [if_pos (by omega), ← iz_n to]
  refine e180_19 ⟨fun _ => go_in (e180_26 (go_in (e180_27 (useC (upC (c130f (d := d)) (by omega)) fun vs N h => ?_)))), fun e => absurd rfl e⟩
  obtain ⟨rfl, rfl⟩ := h
  refine e180_31 ⟨fun _ => go_in (e180_36 ?_), fun e => absurd rfl e⟩
  obtain ⟨pd, hpn⟩ := NP.pn (w := w) (hp.of hF1 rfl rfl)
  refine useC (upC (c176 (d := d) hw1 hb (hD.of hF1 (fun j => rfl)) hpn (show l ≤ 7 by omega) hb1) (by omega)) fun vs N2 h => ?_
  obtain ⟨rfl, hF2, hWR, y1, y2, y3, y4, y5⟩ := h
  have hF : Fr aRe M N2 := hF1.tr (hF2.up fun k j q => aBD_re k j (aYB_bd k j q))
  have e0 : N2.1 768 0 = nI 0 := by rw [(hF2 768 0 rfl).1]; exact e10
  have hw2 := hw.of hF (fun j _ => rfl)
  rw [wRf_no] at y4
  obtain ⟨lo, hlo⟩ : ∃ lo, lo = loV w (w 10) (waW w ta (cond b 1 0)) l := ⟨_, rfl⟩
  have hlo7 : lo ≤ 7 := by rw [hlo]; exact loV_le l
  have y4' : N2.1 768 19 = nI lo := by
    rw [y4, hlo]
    unfold loV
    rw [if_pos (by omega)]
  rw [← hlo]
  refine e180_42 ?_
  have hpr : ∀ r, r ≤ 4 → prt (yW w 0) lo to r ≤ 4 * r := by
    intro r
    induction r with
    | zero => intro _; exact Nat.le_refl _
    | succ r ih =>
      intro hr
      show prt (yW w 0) lo to r + (if min (w 0) (lo + r) = to then yW w 0 (7 + r) else 0) ≤ _
      have := ih (by omega)
      have e := hpt r (by omega)
      have ey : w (2 + r) = yW w 0 (7 + r) := by rcases (show r = 0 ∨ r = 1 ∨ r = 2 ∨ r = 3 by omega) with e | e | e | e <;> subst e <;> rfl
      rw [← ey]
      split <;> omega
  have loop : ∀ k (o1 o2 : Option Value) r, r + k = 4 → WM (d + 8) 180 (fun vs N => vs = [.int (nI (prt (yW w 0) lo to 4))] ∧ Fr aRe M N ∧ N.1 768 0 = nI 0) 48 [some (.ref 768), o1, o2, some (.int (nI to)), some (.int (nI (prt (yW w 0) lo to r))), some (.int (nI r))] [] N2 := by
    intro k
    induction k with
    | zero =>
      intro o1 o2 r hr
      have hr : r = 4 := by omega
      subst hr
      exact go_in (e180_48 (br_t (nI_le (Nat.le_refl _) (by decide)) (go_in (e180_92 ⟨rfl, rfl, hF, e0⟩))))
    | succ k ih =>
      intro o1 o2 r hr
      have ey : w (2 + r) = yW w 0 (7 + r) := by rcases (show r = 0 ∨ r = 1 ∨ r = 2 ∨ r = 3 by omega) with e | e | e | e <;> subst e <;> rfl
      have ep : prt (yW w 0) lo to (r + 1) = prt (yW w 0) lo to r + if min (w 0) (lo + r) = to then w (2 + r) else 0 := by rw [ey]; rfl
      have e4 := hpt r (by omega)
      refine go_in (e180_48 (br_f (nI_ge (by omega) (by decide)) ?_))
      rw [y4']
      refine useC (upC (c177 (d := d) hw2 hb (show lo ≤ 100 by omega) (show r ≤ 100 by omega)) (by omega)) fun vs N3 h => ?_
      obtain ⟨rfl, h3⟩ := h
      rw [h3]
      have fin : ∀ (o1 o2 o4 : Option Value) x, x = (if min (w 0) (lo + r) = to then w (2 + r) else 0) → WM (d + 8) 180 (fun vs N => vs = [.int (nI (prt (yW w 0) lo to 4))] ∧ Fr aRe M N ∧ N.1 768 0 = nI 0) 83 [some (.ref 768), o1, o2, some (.int (nI to)), o4, some (.int (nI r))] [.int (nI x), .int (nI (prt (yW w 0) lo to r))] N2 := by
        intro o1 o2 o4 x hx
        refine go_in (e180_83 ?_)
        rw [nI_s, nI_add, hx, ← ep]
        exact ih _ _ (r + 1) (by omega)
      refine e180_66 ⟨fun e => go_in (e180_82 (fin _ _ _ 0 ?_)), fun e => ⟨by rw [nI_add]; exact nI_in2 (by omega) (by decide), ?_⟩⟩
      · rw [if_neg (fun q => e (by rw [q]))]
      · rw [nI_add, nI_c (by omega), hw2.n (by omega) (shf_no (by omega))]
        refine fin _ _ _ _ ?_
        rw [iz_n, iz_n, iz_eq ⟨by omega, by omega⟩ ⟨by omega, by omega⟩] at e
        rw [if_pos (by omega)]
  exact loop 4 _ _ 0 (by omega)
theorem c180t (hw : MR w M) (hb : WB w) {f l : Int} (h1 : i32 f) (h2 : i32 l) {o3 : Int32} (h : ¬ ((0 ≤ f ∧ f ≤ w 0) ∧ (0 ≤ l ∧ l ≤ w 0))) : SC (d + 3) 180 [.ref 768, .int (iz f), .int o3, .int (iz l)] M (fun vs N => vs = [.int (nI 0)] ∧ Fr aRe M N ∧ N.1 768 0 = nI 1) := by
  refine sC (by decide) rfl (go_in (e180_0 ?_))
  obtain ⟨M1, hM1⟩ : ∃ M1, M1 = sI M 768 0 (nI 0) := ⟨_, rfl⟩
  have hF1 : Fr aRe M M1 := by rw [hM1]; exact Fr.rf.sI rfl
  rw [← hM1]
  have hw1 := hw.of hF1 (fun j _ => rfl)
  have fin : WM (d + 2) 180 (fun vs N => vs = [.int (nI 0)] ∧ Fr aRe M N ∧ N.1 768 0 = nI 1) 27 [some (.ref 768), some (.int (iz f)), some (.int o3), some (.int (iz l)), none, none] [.int (nI 1), .ref 768] M1 := by
    refine go_in (e180_27 (useC (upC (c130t (d := d)) (by omega)) fun vs N h => ?_))
    obtain ⟨rfl, rfl⟩ := h
    exact e180_31 ⟨fun e => absurd e (by decide), fun _ => ⟨rfl, rfl, hF1.sI rfl, by rw [sI_v, if_pos ⟨rfl, rfl⟩]⟩⟩
  refine useC (upC (c137 (d := d) hw1 hb h1) (by omega)) fun vs N q => ?_
  obtain ⟨rfl, rfl⟩ := q
  refine e180_11 ⟨fun e => go_in (e180_22 fin), fun e => ?_⟩
  have hf : 0 ≤ f ∧ f ≤ w 0 := by
    by_cases q : 0 ≤ f ∧ f ≤ w 0
    · exact q
    · rw [if_neg q] at e; exact absurd e (by decide)
  refine useC (upC (c137 (d := d) hw1 hb h2) (by omega)) fun vs N q => ?_
  obtain ⟨rfl, rfl⟩ := q
  rw [if_neg (fun q => h ⟨hf, q⟩)]
  exact e180_19 ⟨fun e => absurd e (by decide), fun _ => go_in (e180_22 fin)⟩
end RN
