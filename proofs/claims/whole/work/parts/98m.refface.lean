/-! The reference's face: wants, gains. -/
section RW
variable {d : Nat} {M : Mm} {w : Nat → Nat} {ta : Nat → Nat → Nat → Nat}
theorem c178 (hw : MR w M) (hb : WB w) (hD : DRel w ta M) (hp : NP M) {f l : Nat} {b g : Bool} (hf : f < w 8) (hl : l ≤ w 0) : SC (d + 9) 178 [.ref 768, .int (nI f), .int (nI l), .int (nI (cond b 1 0)), .int (nI (cond g 1 0))] M (fun vs N => vs = [.int (nI (cond g (gt (waW w ta (cond b 1 0) l) (l - w (32 + 5 * w 10 + 1)) f) (waW w ta (cond b 1 0) l f)))] ∧ Fr aRe M N ∧ N.1 768 0 = nI 0) := by
  obtain ⟨w0, w8, w9⟩ := wb_w hb
  have hr10 : w 10 < w 9 := hb.2.2.2.1.2.2.1
  have hb1 : (cond b 1 0 : Nat) ≤ 1 := by cases b <;> decide
  refine sC (by decide) rfl (go_in (e178_0 ?_))
  obtain ⟨M1, hM1⟩ : ∃ M1, M1 = sI M 768 0 (nI 0) := ⟨_, rfl⟩
  have hF1 : Fr aRe M M1 := by rw [hM1]; exact Fr.rf.sI rfl
  have e10 : M1.1 768 0 = nI 0 := by rw [hM1, sI_v, if_pos ⟨rfl, rfl⟩]
  rw [← hM1, iz_n f]
  have hw1 := hw.of hF1 (fun j _ => rfl)
  refine useC (upC (c138 (d := d) hw1 hb (a := (f : Int)) (i32_n (by omega))) (by omega)) fun vs N h => ?_
  obtain ⟨rfl, rfl⟩ := h
  rw [if_pos (by omega), ← iz_n f]
  refine e178_11 ⟨fun e => absurd rfl e, fun _ => ?_⟩
  rw [iz_n l]
  refine useC (upC (c137 (d := d) hw1 hb (a := (l : Int)) (i32_n (by omega))) (by omega)) fun vs N h => ?_
  obtain ⟨rfl, rfl⟩ := h
  rw [if_pos (by omega), ← iz_n l]
  refine e178_19 ⟨fun _ => go_in (e178_26 (go_in (e178_27 (useC (upC (c130f (d := d)) (by omega)) fun vs N h => ?_)))), fun e => absurd rfl e⟩
  obtain ⟨rfl, rfl⟩ := h
  refine e178_31 ⟨fun _ => go_in (e178_36 ?_), fun e => absurd rfl e⟩
  obtain ⟨pd, hpn⟩ := NP.pn (w := w) (hp.of hF1 rfl rfl)
  refine useC (upC (c176 (d := d) hw1 hb (hD.of hF1 (fun j => rfl)) hpn (show l ≤ 7 by omega) hb1) (by omega)) fun vs N2 h => ?_
  obtain ⟨rfl, hF2, hWR, y1, y2, y3, y4, y5⟩ := h
  have hF : Fr aRe M N2 := hF1.tr (hF2.up fun k j q => aBD_re k j (aYB_bd k j q))
  have e0 : N2.1 768 0 = nI 0 := by rw [(hF2 768 0 rfl).1]; exact e10
  rw [wRf_no] at hWR y1 y2
  refine e178_42 ⟨fun e => go_in (e178_56 ?_), fun e => ?_⟩
  · have hg : g = false := by cases g <;> first | rfl | exact absurd e (by decide)
    rw [hg, nI_c (by omega), hWR f hf]
    exact ⟨nI_in2 (by omega) (by decide), go_in (e178_62 ⟨rfl, rfl, hF, e0⟩)⟩
  · have hg : g = true := by cases g <;> first | rfl | exact absurd rfl e
    rw [hg, nI_c (by omega), y1 f hf]
    exact ⟨nI_in2 (by omega) (by decide), go_in (e178_62 ⟨rfl, rfl, hF, e0⟩)⟩
theorem c178t (hw : MR w M) (hb : WB w) {f l : Int} (h1 : i32 f) (h2 : i32 l) {o3 o4 : Int32} (h : ¬ ((0 ≤ f ∧ f < w 8) ∧ (0 ≤ l ∧ l ≤ w 0))) : SC (d + 3) 178 [.ref 768, .int (iz f), .int (iz l), .int o3, .int o4] M (fun vs N => vs = [.int (nI 0)] ∧ Fr aRe M N ∧ N.1 768 0 = nI 1) := by
  refine sC (by decide) rfl (go_in (e178_0 ?_))
  obtain ⟨M1, hM1⟩ : ∃ M1, M1 = sI M 768 0 (nI 0) := ⟨_, rfl⟩
  have hF1 : Fr aRe M M1 := by rw [hM1]; exact Fr.rf.sI rfl
  rw [← hM1]
  have hw1 := hw.of hF1 (fun j _ => rfl)
  have fin : WM (d + 2) 178 (fun vs N => vs = [.int (nI 0)] ∧ Fr aRe M N ∧ N.1 768 0 = nI 1) 27 [some (.ref 768), some (.int (iz f)), some (.int (iz l)), some (.int o3), some (.int o4)] [.int (nI 1), .ref 768] M1 := by
    refine go_in (e178_27 (useC (upC (c130t (d := d)) (by omega)) fun vs N h => ?_))
    obtain ⟨rfl, rfl⟩ := h
    exact e178_31 ⟨fun e => absurd e (by decide), fun _ => ⟨rfl, rfl, hF1.sI rfl, by rw [sI_v, if_pos ⟨rfl, rfl⟩]⟩⟩
  refine useC (upC (c138 (d := d) hw1 hb h1) (by omega)) fun vs N q => ?_
  obtain ⟨rfl, rfl⟩ := q
  refine e178_11 ⟨fun e => go_in (e178_22 fin), fun e => ?_⟩
  have hf : 0 ≤ f ∧ f < w 8 := by
    by_cases q : 0 ≤ f ∧ f < w 8
    · exact q
    · rw [if_neg q] at e; exact absurd e (by decide)
  refine useC (upC (c137 (d := d) hw1 hb h2) (by omega)) fun vs N q => ?_
  obtain ⟨rfl, rfl⟩ := q
  rw [if_neg (fun q => h ⟨hf, q⟩)]
  exact e178_19 ⟨fun e => absurd e (by decide), fun _ => go_in (e178_22 fin)⟩
theorem c179 (hw : MR w M) (hb : WB w) (hD : DRel w ta M) (hp : NP M) {f l : Nat} {b : Bool} (hf : f < w 8) (hl : l ≤ w 0) : SC (d + 9) 179 [.ref 768, .int (nI f), .int (nI l), .int (nI (cond b 1 0))] M (fun vs N => vs = [.int (iz (gnW w (w 10) (waW w ta (cond b 1 0) l) l f))] ∧ Fr aRe M N ∧ N.1 768 0 = nI 0) := by
  obtain ⟨w0, w8, w9⟩ := wb_w hb
  have hr10 : w 10 < w 9 := hb.2.2.2.1.2.2.1
  have hb1 : (cond b 1 0 : Nat) ≤ 1 := by cases b <;> decide
  refine sC (by decide) rfl (go_in (e179_0 ?_))
  obtain ⟨M1, hM1⟩ : ∃ M1, M1 = sI M 768 0 (nI 0) := ⟨_, rfl⟩
  have hF1 : Fr aRe M M1 := by rw [hM1]; exact Fr.rf.sI rfl
  have e10 : M1.1 768 0 = nI 0 := by rw [hM1, sI_v, if_pos ⟨rfl, rfl⟩]
  rw [← hM1, iz_n f]
  have hw1 := hw.of hF1 (fun j _ => rfl)
  refine useC (upC (c138 (d := d) hw1 hb (a := (f : Int)) (i32_n (by omega))) (by omega)) fun vs N h => ?_
  obtain ⟨rfl, rfl⟩ := h
  rw [if_pos (by omega), ← iz_n f]
  refine e179_11 ⟨fun e => absurd rfl e, fun _ => ?_⟩
  rw [iz_n l]
  refine useC (upC (c137 (d := d) hw1 hb (a := (l : Int)) (i32_n (by omega))) (by omega)) fun vs N h => ?_
  obtain ⟨rfl, rfl⟩ := h
  rw [if_pos (by omega), ← iz_n l]
  refine e179_19 ⟨fun _ => go_in (e179_26 (go_in (e179_27 (useC (upC (c130f (d := d)) (by omega)) fun vs N h => ?_)))), fun e => absurd rfl e⟩
  obtain ⟨rfl, rfl⟩ := h
  refine e179_31 ⟨fun _ => go_in (e179_36 ?_), fun e => absurd rfl e⟩
  obtain ⟨pd, hpn⟩ := NP.pn (w := w) (hp.of hF1 rfl rfl)
  refine useC (upC (c176 (d := d) hw1 hb (hD.of hF1 (fun j => rfl)) hpn (show l ≤ 7 by omega) hb1) (by omega)) fun vs N2 h => ?_
  obtain ⟨rfl, hF2, hWR, y1, y2, y3, y4, y5⟩ := h
  have hF : Fr aRe M N2 := hF1.tr (hF2.up fun k j q => aBD_re k j (aYB_bd k j q))
  have e0 : N2.1 768 0 = nI 0 := by rw [(hF2 768 0 rfl).1]; exact e10
  rw [wRf_no] at hWR y1 y2
  refine e179_42 ?_
  rw [nI_c (by omega), y2 f hf]
  exact ⟨nI_in2 (by omega) (by decide), rfl, rfl, hF, e0⟩
theorem c179t (hw : MR w M) (hb : WB w) {f l : Int} (h1 : i32 f) (h2 : i32 l) {o3 : Int32} (h : ¬ ((0 ≤ f ∧ f < w 8) ∧ (0 ≤ l ∧ l ≤ w 0))) : SC (d + 3) 179 [.ref 768, .int (iz f), .int (iz l), .int o3] M (fun vs N => vs = [.int (nI 0)] ∧ Fr aRe M N ∧ N.1 768 0 = nI 1) := by
  refine sC (by decide) rfl (go_in (e179_0 ?_))
  obtain ⟨M1, hM1⟩ : ∃ M1, M1 = sI M 768 0 (nI 0) := ⟨_, rfl⟩
  have hF1 : Fr aRe M M1 := by rw [hM1]; exact Fr.rf.sI rfl
  rw [← hM1]
  have hw1 := hw.of hF1 (fun j _ => rfl)
  have fin : WM (d + 2) 179 (fun vs N => vs = [.int (nI 0)] ∧ Fr aRe M N ∧ N.1 768 0 = nI 1) 27 [some (.ref 768), some (.int (iz f)), some (.int (iz l)), some (.int o3)] [.int (nI 1), .ref 768] M1 := by
    refine go_in (e179_27 (useC (upC (c130t (d := d)) (by omega)) fun vs N h => ?_))
    obtain ⟨rfl, rfl⟩ := h
    exact e179_31 ⟨fun e => absurd e (by decide), fun _ => ⟨rfl, rfl, hF1.sI rfl, by rw [sI_v, if_pos ⟨rfl, rfl⟩]⟩⟩
  refine useC (upC (c138 (d := d) hw1 hb h1) (by omega)) fun vs N q => ?_
  obtain ⟨rfl, rfl⟩ := q
  refine e179_11 ⟨fun e => go_in (e179_22 fin), fun e => ?_⟩
  have hf : 0 ≤ f ∧ f < w 8 := by
    by_cases q : 0 ≤ f ∧ f < w 8
    · exact q
    · rw [if_neg q] at e; exact absurd e (by decide)
  refine useC (upC (c137 (d := d) hw1 hb h2) (by omega)) fun vs N q => ?_
  obtain ⟨rfl, rfl⟩ := q
  rw [if_neg (fun q => h ⟨hf, q⟩)]
  exact e179_19 ⟨fun e => absurd e (by decide), fun _ => go_in (e179_22 fin)⟩
end RW
