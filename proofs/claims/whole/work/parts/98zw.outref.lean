/-! Out of range: the reference. -/
section OR
variable {d : Nat} {M : Mm} {w : Nat → Nat}
theorem c199t (hw : MR w M) (hb : WB w) {f : Int} (h1 : i32 f) {l : Int} (h2 : i32 l) (h : ¬ ((0 ≤ f ∧ f < w 8) ∧ (0 ≤ l ∧ l ≤ w 0))) : SC (d + 3) 199 [.ref 768, .int (iz f), .int (iz l)] M (fun vs N => vs = [.int (nI 0)] ∧ Fr aRe M N ∧ N.1 768 0 = nI 1) := by
  refine sC (by decide) rfl (go_in (e199_0 ?_))
  obtain ⟨M1, hM1⟩ : ∃ M1, M1 = sI M 768 0 (nI 0) := ⟨_, rfl⟩
  have hF1 : Fr aRe M M1 := by rw [hM1]; exact Fr.rf.sI rfl
  have e10 : M1.1 768 0 = nI 0 := by rw [hM1, sI_v, if_pos ⟨rfl, rfl⟩]
  rw [← hM1]
  have hw1 := hw.of hF1 (fun j _ => rfl)
  have fin : WM (d + 2) 199 (fun vs N => vs = [.int (nI 0)] ∧ Fr aRe M N ∧ N.1 768 0 = nI 1) 27 [some (.ref 768), some (.int (iz f)), some (.int (iz l))] [.int (nI 1), .ref 768] M1 := by
    refine go_in (e199_27 (useC (upC (c130t (d := d)) (by omega)) fun vs N h => ?_))
    obtain ⟨rfl, rfl⟩ := h
    exact e199_31 ⟨fun e => absurd e (by decide), fun _ => ⟨rfl, rfl, hF1.sI rfl, by rw [sI_v, if_pos ⟨rfl, rfl⟩]⟩⟩
  refine useC (upC (c138 (d := d) hw1 hb h1) (by omega)) fun vs N q => ?_
  obtain ⟨rfl, q⟩ := q
  have q := q.symm
  subst q
  refine e199_11 ⟨fun e => go_in (e199_22 fin), fun e => ?_⟩
  have hf : 0 ≤ f ∧ f < w 8 := by
    by_cases q : 0 ≤ f ∧ f < w 8
    · exact q
    · rw [if_neg q] at e; exact absurd e (by decide)
  refine useC (upC (c137 (d := d) hw1 hb h2) (by omega)) fun vs N q => ?_
  obtain ⟨rfl, q⟩ := q
  have q := q.symm
  subst q
  rw [if_neg (fun q => h ⟨hf, q⟩)]
  exact e199_19 ⟨fun e => absurd e (by decide), fun _ => go_in (e199_22 fin)⟩
theorem c200t (hw : MR w M) (hb : WB w) {f : Int} (h1 : i32 f) {l : Int} (h2 : i32 l) (h : ¬ ((0 ≤ f ∧ f < w 8) ∧ (0 ≤ l ∧ l ≤ w 0))) : SC (d + 3) 200 [.ref 768, .int (iz f), .int (iz l)] M (fun vs N => vs = [.int (nI 0)] ∧ Fr aRe M N ∧ N.1 768 0 = nI 1) := by
  refine sC (by decide) rfl (go_in (e200_0 ?_))
  obtain ⟨M1, hM1⟩ : ∃ M1, M1 = sI M 768 0 (nI 0) := ⟨_, rfl⟩
  have hF1 : Fr aRe M M1 := by rw [hM1]; exact Fr.rf.sI rfl
  have e10 : M1.1 768 0 = nI 0 := by rw [hM1, sI_v, if_pos ⟨rfl, rfl⟩]
  rw [← hM1]
  have hw1 := hw.of hF1 (fun j _ => rfl)
  have fin : WM (d + 2) 200 (fun vs N => vs = [.int (nI 0)] ∧ Fr aRe M N ∧ N.1 768 0 = nI 1) 27 [some (.ref 768), some (.int (iz f)), some (.int (iz l))] [.int (nI 1), .ref 768] M1 := by
    refine go_in (e200_27 (useC (upC (c130t (d := d)) (by omega)) fun vs N h => ?_))
    obtain ⟨rfl, rfl⟩ := h
    exact e200_31 ⟨fun e => absurd e (by decide), fun _ => ⟨rfl, rfl, hF1.sI rfl, by rw [sI_v, if_pos ⟨rfl, rfl⟩]⟩⟩
  refine useC (upC (c138 (d := d) hw1 hb h1) (by omega)) fun vs N q => ?_
  obtain ⟨rfl, q⟩ := q
  have q := q.symm
  subst q
  refine e200_11 ⟨fun e => go_in (e200_22 fin), fun e => ?_⟩
  have hf : 0 ≤ f ∧ f < w 8 := by
    by_cases q : 0 ≤ f ∧ f < w 8
    · exact q
    · rw [if_neg q] at e; exact absurd e (by decide)
  refine useC (upC (c137 (d := d) hw1 hb h2) (by omega)) fun vs N q => ?_
  obtain ⟨rfl, q⟩ := q
  have q := q.symm
  subst q
  rw [if_neg (fun q => h ⟨hf, q⟩)]
  exact e200_19 ⟨fun e => absurd e (by decide), fun _ => go_in (e200_22 fin)⟩
theorem c217t (hw : MR w M) (hb : WB w) {f : Int} (h1 : i32 f) {l : Int} (h2 : i32 l) (h : ¬ ((0 ≤ f ∧ f < w 8) ∧ (0 ≤ l ∧ l ≤ w 0))) : SC (d + 3) 217 [.ref 768, .int (iz f), .int (iz l)] M (fun vs N => vs = [.int (nI 0)] ∧ Fr aRe M N ∧ N.1 768 0 = nI 1) := by
  refine sC (by decide) rfl (go_in (e217_0 ?_))
  obtain ⟨M1, hM1⟩ : ∃ M1, M1 = sI M 768 0 (nI 0) := ⟨_, rfl⟩
  have hF1 : Fr aRe M M1 := by rw [hM1]; exact Fr.rf.sI rfl
  have e10 : M1.1 768 0 = nI 0 := by rw [hM1, sI_v, if_pos ⟨rfl, rfl⟩]
  rw [← hM1]
  have hw1 := hw.of hF1 (fun j _ => rfl)
  have fin : WM (d + 2) 217 (fun vs N => vs = [.int (nI 0)] ∧ Fr aRe M N ∧ N.1 768 0 = nI 1) 27 [some (.ref 768), some (.int (iz f)), some (.int (iz l)), none, none, none, none, none] [.int (nI 1), .ref 768] M1 := by
    refine go_in (e217_27 (useC (upC (c130t (d := d)) (by omega)) fun vs N h => ?_))
    obtain ⟨rfl, rfl⟩ := h
    exact e217_31 ⟨fun e => absurd e (by decide), fun _ => ⟨rfl, rfl, hF1.sI rfl, by rw [sI_v, if_pos ⟨rfl, rfl⟩]⟩⟩
  refine useC (upC (c138 (d := d) hw1 hb h1) (by omega)) fun vs N q => ?_
  obtain ⟨rfl, q⟩ := q
  have q := q.symm
  subst q
  refine e217_11 ⟨fun e => go_in (e217_22 fin), fun e => ?_⟩
  have hf : 0 ≤ f ∧ f < w 8 := by
    by_cases q : 0 ≤ f ∧ f < w 8
    · exact q
    · rw [if_neg q] at e; exact absurd e (by decide)
  refine useC (upC (c137 (d := d) hw1 hb h2) (by omega)) fun vs N q => ?_
  obtain ⟨rfl, q⟩ := q
  have q := q.symm
  subst q
  rw [if_neg (fun q => h ⟨hf, q⟩)]
  exact e217_19 ⟨fun e => absurd e (by decide), fun _ => go_in (e217_22 fin)⟩
theorem c204t (hw : MR w M) (hb : WB w) {f : Int} (h1 : i32 f) {l : Int} (h2 : i32 l) {n : Int} (h3 : i32 n) (h : ¬ ((0 ≤ f ∧ f < w 8) ∧ (0 ≤ l ∧ l ≤ w 0))) : SC (d + 3) 204 [.ref 768, .int (iz f), .int (iz l), .int (iz n)] M (fun vs N => vs = [.int (nI 0)] ∧ Fr aRe M N ∧ N.1 768 0 = nI 1) := by
  refine sC (by decide) rfl (go_in (e204_0 ?_))
  obtain ⟨M1, hM1⟩ : ∃ M1, M1 = sI M 768 0 (nI 0) := ⟨_, rfl⟩
  have hF1 : Fr aRe M M1 := by rw [hM1]; exact Fr.rf.sI rfl
  have e10 : M1.1 768 0 = nI 0 := by rw [hM1, sI_v, if_pos ⟨rfl, rfl⟩]
  rw [← hM1]
  have hw1 := hw.of hF1 (fun j _ => rfl)
  have fin : WM (d + 2) 204 (fun vs N => vs = [.int (nI 0)] ∧ Fr aRe M N ∧ N.1 768 0 = nI 1) 27 [some (.ref 768), some (.int (iz f)), some (.int (iz l)), some (.int (iz n)), none, none, none, none, none, none, none, none] [.int (nI 1), .ref 768] M1 := by
    refine go_in (e204_27 (useC (upC (c130t (d := d)) (by omega)) fun vs N h => ?_))
    obtain ⟨rfl, rfl⟩ := h
    exact e204_31 ⟨fun _ => go_in (e204_46 ⟨rfl, rfl, hF1.sI rfl, by rw [sI_v, if_pos ⟨rfl, rfl⟩]⟩), fun e => absurd e (by decide)⟩
  refine useC (upC (c138 (d := d) hw1 hb h1) (by omega)) fun vs N q => ?_
  obtain ⟨rfl, q⟩ := q
  have q := q.symm
  subst q
  refine e204_11 ⟨fun e => go_in (e204_22 fin), fun e => ?_⟩
  have hf : 0 ≤ f ∧ f < w 8 := by
    by_cases q : 0 ≤ f ∧ f < w 8
    · exact q
    · rw [if_neg q] at e; exact absurd e (by decide)
  refine useC (upC (c137 (d := d) hw1 hb h2) (by omega)) fun vs N q => ?_
  obtain ⟨rfl, q⟩ := q
  have q := q.symm
  subst q
  rw [if_neg (fun q => h ⟨hf, q⟩)]
  exact e204_19 ⟨fun e => absurd e (by decide), fun _ => go_in (e204_22 fin)⟩
theorem c204u (hw : MR w M) (hb : WB w) {f : Int} (h1 : i32 f) {l : Int} (h2 : i32 l) {n : Int} (h3 : i32 n) (hf : 0 ≤ f ∧ f < w 8) (hl : 0 ≤ l ∧ l ≤ w 0) (h : ¬ (1 ≤ n ∧ n ≤ 8)) : SC (d + 3) 204 [.ref 768, .int (iz f), .int (iz l), .int (iz n)] M (fun vs N => vs = [.int (nI 0)] ∧ Fr aRe M N ∧ N.1 768 0 = nI 2) := by
  refine sC (by decide) rfl (go_in (e204_0 ?_))
  obtain ⟨M1, hM1⟩ : ∃ M1, M1 = sI M 768 0 (nI 0) := ⟨_, rfl⟩
  have hF1 : Fr aRe M M1 := by rw [hM1]; exact Fr.rf.sI rfl
  have e10 : M1.1 768 0 = nI 0 := by rw [hM1, sI_v, if_pos ⟨rfl, rfl⟩]
  rw [← hM1]
  have hw1 := hw.of hF1 (fun j _ => rfl)
  refine useC (upC (c138 (d := d) hw1 hb h1) (by omega)) fun vs N q => ?_
  obtain ⟨rfl, q⟩ := q
  have q := q.symm
  subst q
  rw [if_pos hf]
  refine e204_11 ⟨fun e => absurd rfl e, fun _ => ?_⟩
  refine useC (upC (c137 (d := d) hw1 hb h2) (by omega)) fun vs N q => ?_
  obtain ⟨rfl, q⟩ := q
  have q := q.symm
  subst q
  rw [if_pos hl]
  refine e204_19 ⟨fun _ => go_in (e204_26 (go_in (e204_27 (useC (upC (c130f (d := d)) (by omega)) fun vs N q => ?_)))), fun e => absurd rfl e⟩
  obtain ⟨rfl, q⟩ := q
  have q := q.symm
  subst q
  refine e204_31 ⟨fun e => absurd rfl e, fun _ => ?_⟩
  refine useC (upC (c203 (d := d) h3) (by omega)) fun vs N q => ?_
  obtain ⟨rfl, q⟩ := q
  have q := q.symm
  subst q
  rw [if_neg h]
  refine e204_39 (useC (upC (c130t (d := d)) (by omega)) fun vs N q => ?_)
  obtain ⟨rfl, rfl⟩ := q
  exact e204_43 ⟨fun e => absurd e (by decide), fun _ => go_in (e204_46 ⟨rfl, rfl, hF1.sI rfl, by rw [sI_v, if_pos ⟨rfl, rfl⟩]⟩)⟩
theorem c208t (hw : MR w M) (hb : WB w) {f : Int} (h1 : i32 f) {l : Int} (h2 : i32 l) {n : Int} (h3 : i32 n) (h : ¬ ((0 ≤ f ∧ f < w 8) ∧ (0 ≤ l ∧ l ≤ w 0))) : SC (d + 3) 208 [.ref 768, .int (iz f), .int (iz l), .int (iz n)] M (fun vs N => vs = [.int (nI 0)] ∧ Fr aRe M N ∧ N.1 768 0 = nI 1) := by
  refine sC (by decide) rfl (go_in (e208_0 ?_))
  obtain ⟨M1, hM1⟩ : ∃ M1, M1 = sI M 768 0 (nI 0) := ⟨_, rfl⟩
  have hF1 : Fr aRe M M1 := by rw [hM1]; exact Fr.rf.sI rfl
  have e10 : M1.1 768 0 = nI 0 := by rw [hM1, sI_v, if_pos ⟨rfl, rfl⟩]
  rw [← hM1]
  have hw1 := hw.of hF1 (fun j _ => rfl)
  have fin : WM (d + 2) 208 (fun vs N => vs = [.int (nI 0)] ∧ Fr aRe M N ∧ N.1 768 0 = nI 1) 27 [some (.ref 768), some (.int (iz f)), some (.int (iz l)), some (.int (iz n))] [.int (nI 1), .ref 768] M1 := by
    refine go_in (e208_27 (useC (upC (c130t (d := d)) (by omega)) fun vs N h => ?_))
    obtain ⟨rfl, rfl⟩ := h
    exact e208_31 ⟨fun _ => go_in (e208_46 ⟨rfl, rfl, hF1.sI rfl, by rw [sI_v, if_pos ⟨rfl, rfl⟩]⟩), fun e => absurd e (by decide)⟩
  refine useC (upC (c138 (d := d) hw1 hb h1) (by omega)) fun vs N q => ?_
  obtain ⟨rfl, q⟩ := q
  have q := q.symm
  subst q
  refine e208_11 ⟨fun e => go_in (e208_22 fin), fun e => ?_⟩
  have hf : 0 ≤ f ∧ f < w 8 := by
    by_cases q : 0 ≤ f ∧ f < w 8
    · exact q
    · rw [if_neg q] at e; exact absurd e (by decide)
  refine useC (upC (c137 (d := d) hw1 hb h2) (by omega)) fun vs N q => ?_
  obtain ⟨rfl, q⟩ := q
  have q := q.symm
  subst q
  rw [if_neg (fun q => h ⟨hf, q⟩)]
  exact e208_19 ⟨fun e => absurd e (by decide), fun _ => go_in (e208_22 fin)⟩
theorem c208u (hw : MR w M) (hb : WB w) {f : Int} (h1 : i32 f) {l : Int} (h2 : i32 l) {n : Int} (h3 : i32 n) (hf : 0 ≤ f ∧ f < w 8) (hl : 0 ≤ l ∧ l ≤ w 0) (h : ¬ (1 ≤ n ∧ n ≤ 8)) : SC (d + 3) 208 [.ref 768, .int (iz f), .int (iz l), .int (iz n)] M (fun vs N => vs = [.int (nI 0)] ∧ Fr aRe M N ∧ N.1 768 0 = nI 2) := by
  refine sC (by decide) rfl (go_in (e208_0 ?_))
  obtain ⟨M1, hM1⟩ : ∃ M1, M1 = sI M 768 0 (nI 0) := ⟨_, rfl⟩
  have hF1 : Fr aRe M M1 := by rw [hM1]; exact Fr.rf.sI rfl
  have e10 : M1.1 768 0 = nI 0 := by rw [hM1, sI_v, if_pos ⟨rfl, rfl⟩]
  rw [← hM1]
  have hw1 := hw.of hF1 (fun j _ => rfl)
  refine useC (upC (c138 (d := d) hw1 hb h1) (by omega)) fun vs N q => ?_
  obtain ⟨rfl, q⟩ := q
  have q := q.symm
  subst q
  rw [if_pos hf]
  refine e208_11 ⟨fun e => absurd rfl e, fun _ => ?_⟩
  refine useC (upC (c137 (d := d) hw1 hb h2) (by omega)) fun vs N q => ?_
  obtain ⟨rfl, q⟩ := q
  have q := q.symm
  subst q
  rw [if_pos hl]
  refine e208_19 ⟨fun _ => go_in (e208_26 (go_in (e208_27 (useC (upC (c130f (d := d)) (by omega)) fun vs N q => ?_)))), fun e => absurd rfl e⟩
  obtain ⟨rfl, q⟩ := q
  have q := q.symm
  subst q
  refine e208_31 ⟨fun e => absurd rfl e, fun _ => ?_⟩
  refine useC (upC (c203 (d := d) h3) (by omega)) fun vs N q => ?_
  obtain ⟨rfl, q⟩ := q
  have q := q.symm
  subst q
  rw [if_neg h]
  refine e208_39 (useC (upC (c130t (d := d)) (by omega)) fun vs N q => ?_)
  obtain ⟨rfl, rfl⟩ := q
  exact e208_43 ⟨fun e => absurd e (by decide), fun _ => go_in (e208_46 ⟨rfl, rfl, hF1.sI rfl, by rw [sI_v, if_pos ⟨rfl, rfl⟩]⟩)⟩
theorem c209t (hw : MR w M) (hb : WB w) {f : Int} (h1 : i32 f) {l : Int} (h2 : i32 l) {n : Int} (h3 : i32 n) {o0 : Int32} (h : ¬ ((0 ≤ f ∧ f < w 8) ∧ (0 ≤ l ∧ l ≤ w 0))) : SC (d + 3) 209 [.ref 768, .int (iz f), .int (iz l), .int (iz n), .int o0] M (fun vs N => vs = [.long (lz 0)] ∧ Fr aRe M N ∧ N.1 768 0 = nI 1) := by
  refine sC (by decide) rfl (go_in (e209_0 ?_))
  obtain ⟨M1, hM1⟩ : ∃ M1, M1 = sI M 768 0 (nI 0) := ⟨_, rfl⟩
  have hF1 : Fr aRe M M1 := by rw [hM1]; exact Fr.rf.sI rfl
  have e10 : M1.1 768 0 = nI 0 := by rw [hM1, sI_v, if_pos ⟨rfl, rfl⟩]
  rw [← hM1]
  have hw1 := hw.of hF1 (fun j _ => rfl)
  have fin : WM (d + 2) 209 (fun vs N => vs = [.long (lz 0)] ∧ Fr aRe M N ∧ N.1 768 0 = nI 1) 27 [some (.ref 768), some (.int (iz f)), some (.int (iz l)), some (.int (iz n)), some (.int o0)] [.int (nI 1), .ref 768] M1 := by
    refine go_in (e209_27 (useC (upC (c130t (d := d)) (by omega)) fun vs N h => ?_))
    obtain ⟨rfl, rfl⟩ := h
    exact e209_31 ⟨fun _ => go_in (e209_46 ⟨rfl, rfl, hF1.sI rfl, by rw [sI_v, if_pos ⟨rfl, rfl⟩]⟩), fun e => absurd e (by decide)⟩
  refine useC (upC (c138 (d := d) hw1 hb h1) (by omega)) fun vs N q => ?_
  obtain ⟨rfl, q⟩ := q
  have q := q.symm
  subst q
  refine e209_11 ⟨fun e => go_in (e209_22 fin), fun e => ?_⟩
  have hf : 0 ≤ f ∧ f < w 8 := by
    by_cases q : 0 ≤ f ∧ f < w 8
    · exact q
    · rw [if_neg q] at e; exact absurd e (by decide)
  refine useC (upC (c137 (d := d) hw1 hb h2) (by omega)) fun vs N q => ?_
  obtain ⟨rfl, q⟩ := q
  have q := q.symm
  subst q
  rw [if_neg (fun q => h ⟨hf, q⟩)]
  exact e209_19 ⟨fun e => absurd e (by decide), fun _ => go_in (e209_22 fin)⟩
theorem c209u (hw : MR w M) (hb : WB w) {f : Int} (h1 : i32 f) {l : Int} (h2 : i32 l) {n : Int} (h3 : i32 n) {o0 : Int32} (hf : 0 ≤ f ∧ f < w 8) (hl : 0 ≤ l ∧ l ≤ w 0) (h : ¬ (1 ≤ n ∧ n ≤ 8)) : SC (d + 3) 209 [.ref 768, .int (iz f), .int (iz l), .int (iz n), .int o0] M (fun vs N => vs = [.long (lz 0)] ∧ Fr aRe M N ∧ N.1 768 0 = nI 2) := by
  refine sC (by decide) rfl (go_in (e209_0 ?_))
  obtain ⟨M1, hM1⟩ : ∃ M1, M1 = sI M 768 0 (nI 0) := ⟨_, rfl⟩
  have hF1 : Fr aRe M M1 := by rw [hM1]; exact Fr.rf.sI rfl
  have e10 : M1.1 768 0 = nI 0 := by rw [hM1, sI_v, if_pos ⟨rfl, rfl⟩]
  rw [← hM1]
  have hw1 := hw.of hF1 (fun j _ => rfl)
  refine useC (upC (c138 (d := d) hw1 hb h1) (by omega)) fun vs N q => ?_
  obtain ⟨rfl, q⟩ := q
  have q := q.symm
  subst q
  rw [if_pos hf]
  refine e209_11 ⟨fun e => absurd rfl e, fun _ => ?_⟩
  refine useC (upC (c137 (d := d) hw1 hb h2) (by omega)) fun vs N q => ?_
  obtain ⟨rfl, q⟩ := q
  have q := q.symm
  subst q
  rw [if_pos hl]
  refine e209_19 ⟨fun _ => go_in (e209_26 (go_in (e209_27 (useC (upC (c130f (d := d)) (by omega)) fun vs N q => ?_)))), fun e => absurd rfl e⟩
  obtain ⟨rfl, q⟩ := q
  have q := q.symm
  subst q
  refine e209_31 ⟨fun e => absurd rfl e, fun _ => ?_⟩
  refine useC (upC (c203 (d := d) h3) (by omega)) fun vs N q => ?_
  obtain ⟨rfl, q⟩ := q
  have q := q.symm
  subst q
  rw [if_neg h]
  refine e209_39 (useC (upC (c130t (d := d)) (by omega)) fun vs N q => ?_)
  obtain ⟨rfl, rfl⟩ := q
  exact e209_43 ⟨fun e => absurd e (by decide), fun _ => go_in (e209_46 ⟨rfl, rfl, hF1.sI rfl, by rw [sI_v, if_pos ⟨rfl, rfl⟩]⟩)⟩
theorem c215t (hw : MR w M) (hb : WB w) {f : Int} (h1 : i32 f) {l : Int} (h2 : i32 l) {n : Int} (h3 : i32 n) (h : ¬ ((0 ≤ f ∧ f < w 8) ∧ (0 ≤ l ∧ l ≤ w 0))) : SC (d + 3) 215 [.ref 768, .int (iz f), .int (iz l), .int (iz n)] M (fun vs N => vs = [.long (lz 0)] ∧ Fr aRe M N ∧ N.1 768 0 = nI 1) := by
  refine sC (by decide) rfl (go_in (e215_0 ?_))
  obtain ⟨M1, hM1⟩ : ∃ M1, M1 = sI M 768 0 (nI 0) := ⟨_, rfl⟩
  have hF1 : Fr aRe M M1 := by rw [hM1]; exact Fr.rf.sI rfl
  have e10 : M1.1 768 0 = nI 0 := by rw [hM1, sI_v, if_pos ⟨rfl, rfl⟩]
  rw [← hM1]
  have hw1 := hw.of hF1 (fun j _ => rfl)
  have fin : WM (d + 2) 215 (fun vs N => vs = [.long (lz 0)] ∧ Fr aRe M N ∧ N.1 768 0 = nI 1) 27 [some (.ref 768), some (.int (iz f)), some (.int (iz l)), some (.int (iz n))] [.int (nI 1), .ref 768] M1 := by
    refine go_in (e215_27 (useC (upC (c130t (d := d)) (by omega)) fun vs N h => ?_))
    obtain ⟨rfl, rfl⟩ := h
    exact e215_31 ⟨fun _ => go_in (e215_57 ⟨rfl, rfl, hF1.sI rfl, by rw [sI_v, if_pos ⟨rfl, rfl⟩]⟩), fun e => absurd e (by decide)⟩
  refine useC (upC (c138 (d := d) hw1 hb h1) (by omega)) fun vs N q => ?_
  obtain ⟨rfl, q⟩ := q
  have q := q.symm
  subst q
  refine e215_11 ⟨fun e => go_in (e215_22 fin), fun e => ?_⟩
  have hf : 0 ≤ f ∧ f < w 8 := by
    by_cases q : 0 ≤ f ∧ f < w 8
    · exact q
    · rw [if_neg q] at e; exact absurd e (by decide)
  refine useC (upC (c137 (d := d) hw1 hb h2) (by omega)) fun vs N q => ?_
  obtain ⟨rfl, q⟩ := q
  have q := q.symm
  subst q
  rw [if_neg (fun q => h ⟨hf, q⟩)]
  exact e215_19 ⟨fun e => absurd e (by decide), fun _ => go_in (e215_22 fin)⟩
theorem c215u (hw : MR w M) (hb : WB w) {f : Int} (h1 : i32 f) {l : Int} (h2 : i32 l) {n : Int} (h3 : i32 n) (hf : 0 ≤ f ∧ f < w 8) (hl : 0 ≤ l ∧ l ≤ w 0) (h : ¬ (0 ≤ n ∧ n ≤ 12)) : SC (d + 3) 215 [.ref 768, .int (iz f), .int (iz l), .int (iz n)] M (fun vs N => vs = [.long (lz 0)] ∧ Fr aRe M N ∧ N.1 768 0 = nI 2) := by
  refine sC (by decide) rfl (go_in (e215_0 ?_))
  obtain ⟨M1, hM1⟩ : ∃ M1, M1 = sI M 768 0 (nI 0) := ⟨_, rfl⟩
  have hF1 : Fr aRe M M1 := by rw [hM1]; exact Fr.rf.sI rfl
  have e10 : M1.1 768 0 = nI 0 := by rw [hM1, sI_v, if_pos ⟨rfl, rfl⟩]
  rw [← hM1]
  have hw1 := hw.of hF1 (fun j _ => rfl)
  refine useC (upC (c138 (d := d) hw1 hb h1) (by omega)) fun vs N q => ?_
  obtain ⟨rfl, q⟩ := q
  have q := q.symm
  subst q
  rw [if_pos hf]
  refine e215_11 ⟨fun e => absurd rfl e, fun _ => ?_⟩
  refine useC (upC (c137 (d := d) hw1 hb h2) (by omega)) fun vs N q => ?_
  obtain ⟨rfl, q⟩ := q
  have q := q.symm
  subst q
  rw [if_pos hl]
  refine e215_19 ⟨fun _ => go_in (e215_26 (go_in (e215_27 (useC (upC (c130f (d := d)) (by omega)) fun vs N q => ?_)))), fun e => absurd rfl e⟩
  obtain ⟨rfl, q⟩ := q
  have q := q.symm
  subst q
  refine e215_31 ⟨fun e => absurd rfl e, fun _ => ?_⟩
  rw [iz_n 0, iz_n 12]
  refine useC (upC (c131 (d := d) h3 (i32_n (by omega)) (i32_n (by omega))) (by omega)) fun vs N q => ?_
  obtain ⟨rfl, q⟩ := q
  have q := q.symm
  subst q
  refine e215_42 ⟨fun e => absurd (b01.mpr (by omega)) e, fun _ => go_in (e215_50 (useC (upC (c130t (d := d)) (by omega)) fun vs N q => ?_))⟩
  obtain ⟨rfl, rfl⟩ := q
  exact e215_54 ⟨fun e => absurd e (by decide), fun _ => go_in (e215_57 ⟨rfl, rfl, hF1.sI rfl, by rw [sI_v, if_pos ⟨rfl, rfl⟩]⟩)⟩
theorem c201t (hw : MR w M) (hb : WB w) {l : Int} (h2 : i32 l) {o0 : Int32} (h : ¬ (0 ≤ l ∧ l ≤ w 0)) : SC (d + 3) 201 [.ref 768, .int (iz l), .int o0] M (fun vs N => vs = [.long (lz 0)] ∧ Fr aRe M N ∧ N.1 768 0 = nI 1) := by
  refine sC (by decide) rfl (go_in (e201_0 ?_))
  obtain ⟨M1, hM1⟩ : ∃ M1, M1 = sI M 768 0 (nI 0) := ⟨_, rfl⟩
  have hF1 : Fr aRe M M1 := by rw [hM1]; exact Fr.rf.sI rfl
  have e10 : M1.1 768 0 = nI 0 := by rw [hM1, sI_v, if_pos ⟨rfl, rfl⟩]
  rw [← hM1]
  have hw1 := hw.of hF1 (fun j _ => rfl)
  refine useC (upC (c137 (d := d) hw1 hb h2) (by omega)) fun vs N q => ?_
  obtain ⟨rfl, q⟩ := q
  have q := q.symm
  subst q
  rw [if_neg h]
  refine e201_11 (useC (upC (c130t (d := d)) (by omega)) fun vs N q => ?_)
  obtain ⟨rfl, rfl⟩ := q
  exact e201_15 ⟨fun e => absurd e (by decide), fun _ => ⟨rfl, rfl, hF1.sI rfl, by rw [sI_v, if_pos ⟨rfl, rfl⟩]⟩⟩
theorem c202t (hw : MR w M) (hb : WB w) {l : Int} (h2 : i32 l) (h : ¬ (0 ≤ l ∧ l ≤ w 0)) : SC (d + 3) 202 [.ref 768, .int (iz l)] M (fun vs N => vs = [.long (lz 0)] ∧ Fr aRe M N ∧ N.1 768 0 = nI 1) := by
  refine sC (by decide) rfl (go_in (e202_0 ?_))
  obtain ⟨M1, hM1⟩ : ∃ M1, M1 = sI M 768 0 (nI 0) := ⟨_, rfl⟩
  have hF1 : Fr aRe M M1 := by rw [hM1]; exact Fr.rf.sI rfl
  have e10 : M1.1 768 0 = nI 0 := by rw [hM1, sI_v, if_pos ⟨rfl, rfl⟩]
  rw [← hM1]
  have hw1 := hw.of hF1 (fun j _ => rfl)
  refine useC (upC (c137 (d := d) hw1 hb h2) (by omega)) fun vs N q => ?_
  obtain ⟨rfl, q⟩ := q
  have q := q.symm
  subst q
  rw [if_neg h]
  refine e202_11 (useC (upC (c130t (d := d)) (by omega)) fun vs N q => ?_)
  obtain ⟨rfl, rfl⟩ := q
  exact e202_15 ⟨fun e => absurd e (by decide), fun _ => ⟨rfl, rfl, hF1.sI rfl, by rw [sI_v, if_pos ⟨rfl, rfl⟩]⟩⟩
theorem c218t (hw : MR w M) (hb : WB w) {l : Int} (h2 : i32 l) (h : ¬ (0 ≤ l ∧ l ≤ w 0)) : SC (d + 3) 218 [.ref 768, .int (iz l)] M (fun vs N => vs = [.int (nI 0)] ∧ Fr aRe M N ∧ N.1 768 0 = nI 1) := by
  refine sC (by decide) rfl (go_in (e218_0 ?_))
  obtain ⟨M1, hM1⟩ : ∃ M1, M1 = sI M 768 0 (nI 0) := ⟨_, rfl⟩
  have hF1 : Fr aRe M M1 := by rw [hM1]; exact Fr.rf.sI rfl
  have e10 : M1.1 768 0 = nI 0 := by rw [hM1, sI_v, if_pos ⟨rfl, rfl⟩]
  rw [← hM1]
  have hw1 := hw.of hF1 (fun j _ => rfl)
  refine useC (upC (c137 (d := d) hw1 hb h2) (by omega)) fun vs N q => ?_
  obtain ⟨rfl, q⟩ := q
  have q := q.symm
  subst q
  rw [if_neg h]
  refine e218_11 (useC (upC (c130t (d := d)) (by omega)) fun vs N q => ?_)
  obtain ⟨rfl, rfl⟩ := q
  exact e218_15 ⟨fun e => absurd e (by decide), fun _ => ⟨rfl, rfl, hF1.sI rfl, by rw [sI_v, if_pos ⟨rfl, rfl⟩]⟩⟩
theorem c210t (hw : MR w M) (hb : WB w) {l : Int} (h2 : i32 l) {n : Int} (h3 : i32 n) (h : ¬ (0 ≤ l ∧ l ≤ w 0)) : SC (d + 3) 210 [.ref 768, .int (iz l), .int (iz n)] M (fun vs N => vs = [.int (nI 0)] ∧ Fr aRe M N ∧ N.1 768 0 = nI 1) := by
  refine sC (by decide) rfl (go_in (e210_0 ?_))
  obtain ⟨M1, hM1⟩ : ∃ M1, M1 = sI M 768 0 (nI 0) := ⟨_, rfl⟩
  have hF1 : Fr aRe M M1 := by rw [hM1]; exact Fr.rf.sI rfl
  have e10 : M1.1 768 0 = nI 0 := by rw [hM1, sI_v, if_pos ⟨rfl, rfl⟩]
  rw [← hM1]
  have hw1 := hw.of hF1 (fun j _ => rfl)
  refine useC (upC (c137 (d := d) hw1 hb h2) (by omega)) fun vs N q => ?_
  obtain ⟨rfl, q⟩ := q
  have q := q.symm
  subst q
  rw [if_neg h]
  refine e210_11 (useC (upC (c130t (d := d)) (by omega)) fun vs N q => ?_)
  obtain ⟨rfl, rfl⟩ := q
  exact e210_15 ⟨fun _ => go_in (e210_30 ⟨rfl, rfl, hF1.sI rfl, by rw [sI_v, if_pos ⟨rfl, rfl⟩]⟩), fun e => absurd e (by decide)⟩
theorem c210u (hw : MR w M) (hb : WB w) {l : Int} (h2 : i32 l) {n : Int} (h3 : i32 n) (hl : 0 ≤ l ∧ l ≤ w 0) (h : ¬ (1 ≤ n ∧ n ≤ 8)) : SC (d + 3) 210 [.ref 768, .int (iz l), .int (iz n)] M (fun vs N => vs = [.int (nI 0)] ∧ Fr aRe M N ∧ N.1 768 0 = nI 2) := by
  refine sC (by decide) rfl (go_in (e210_0 ?_))
  obtain ⟨M1, hM1⟩ : ∃ M1, M1 = sI M 768 0 (nI 0) := ⟨_, rfl⟩
  have hF1 : Fr aRe M M1 := by rw [hM1]; exact Fr.rf.sI rfl
  have e10 : M1.1 768 0 = nI 0 := by rw [hM1, sI_v, if_pos ⟨rfl, rfl⟩]
  rw [← hM1]
  have hw1 := hw.of hF1 (fun j _ => rfl)
  refine useC (upC (c137 (d := d) hw1 hb h2) (by omega)) fun vs N q => ?_
  obtain ⟨rfl, q⟩ := q
  have q := q.symm
  subst q
  rw [if_pos hl]
  refine e210_11 (useC (upC (c130f (d := d)) (by omega)) fun vs N q => ?_)
  obtain ⟨rfl, q⟩ := q
  have q := q.symm
  subst q
  refine e210_15 ⟨fun e => absurd rfl e, fun _ => ?_⟩
  refine useC (upC (c203 (d := d) h3) (by omega)) fun vs N q => ?_
  obtain ⟨rfl, q⟩ := q
  have q := q.symm
  subst q
  rw [if_neg h]
  refine e210_23 (useC (upC (c130t (d := d)) (by omega)) fun vs N q => ?_)
  obtain ⟨rfl, rfl⟩ := q
  exact e210_27 ⟨fun e => absurd e (by decide), fun _ => go_in (e210_30 ⟨rfl, rfl, hF1.sI rfl, by rw [sI_v, if_pos ⟨rfl, rfl⟩]⟩)⟩
theorem c213t (hw : MR w M) (hb : WB w) {l : Int} (h2 : i32 l) {n : Int} (h3 : i32 n) (h : ¬ (0 ≤ l ∧ l ≤ w 0)) : SC (d + 3) 213 [.ref 768, .int (iz l), .int (iz n)] M (fun vs N => vs = [.long (lz 0)] ∧ Fr aRe M N ∧ N.1 768 0 = nI 1) := by
  refine sC (by decide) rfl (go_in (e213_0 ?_))
  obtain ⟨M1, hM1⟩ : ∃ M1, M1 = sI M 768 0 (nI 0) := ⟨_, rfl⟩
  have hF1 : Fr aRe M M1 := by rw [hM1]; exact Fr.rf.sI rfl
  have e10 : M1.1 768 0 = nI 0 := by rw [hM1, sI_v, if_pos ⟨rfl, rfl⟩]
  rw [← hM1]
  have hw1 := hw.of hF1 (fun j _ => rfl)
  refine useC (upC (c137 (d := d) hw1 hb h2) (by omega)) fun vs N q => ?_
  obtain ⟨rfl, q⟩ := q
  have q := q.symm
  subst q
  rw [if_neg h]
  refine e213_11 (useC (upC (c130t (d := d)) (by omega)) fun vs N q => ?_)
  obtain ⟨rfl, rfl⟩ := q
  exact e213_15 ⟨fun _ => go_in (e213_41 ⟨rfl, rfl, hF1.sI rfl, by rw [sI_v, if_pos ⟨rfl, rfl⟩]⟩), fun e => absurd e (by decide)⟩
theorem c213u (hw : MR w M) (hb : WB w) {l : Int} (h2 : i32 l) {n : Int} (h3 : i32 n) (hl : 0 ≤ l ∧ l ≤ w 0) (h : ¬ (0 ≤ n ∧ n ≤ 20)) : SC (d + 3) 213 [.ref 768, .int (iz l), .int (iz n)] M (fun vs N => vs = [.long (lz 0)] ∧ Fr aRe M N ∧ N.1 768 0 = nI 2) := by
  refine sC (by decide) rfl (go_in (e213_0 ?_))
  obtain ⟨M1, hM1⟩ : ∃ M1, M1 = sI M 768 0 (nI 0) := ⟨_, rfl⟩
  have hF1 : Fr aRe M M1 := by rw [hM1]; exact Fr.rf.sI rfl
  have e10 : M1.1 768 0 = nI 0 := by rw [hM1, sI_v, if_pos ⟨rfl, rfl⟩]
  rw [← hM1]
  have hw1 := hw.of hF1 (fun j _ => rfl)
  refine useC (upC (c137 (d := d) hw1 hb h2) (by omega)) fun vs N q => ?_
  obtain ⟨rfl, q⟩ := q
  have q := q.symm
  subst q
  rw [if_pos hl]
  refine e213_11 (useC (upC (c130f (d := d)) (by omega)) fun vs N q => ?_)
  obtain ⟨rfl, q⟩ := q
  have q := q.symm
  subst q
  refine e213_15 ⟨fun e => absurd rfl e, fun _ => ?_⟩
  rw [iz_n 0, iz_n 20]
  refine useC (upC (c131 (d := d) h3 (i32_n (by omega)) (i32_n (by omega))) (by omega)) fun vs N q => ?_
  obtain ⟨rfl, q⟩ := q
  have q := q.symm
  subst q
  refine e213_26 ⟨fun e => absurd (b01.mpr (by omega)) e, fun _ => go_in (e213_34 (useC (upC (c130t (d := d)) (by omega)) fun vs N q => ?_))⟩
  obtain ⟨rfl, rfl⟩ := q
  exact e213_38 ⟨fun e => absurd e (by decide), fun _ => go_in (e213_41 ⟨rfl, rfl, hF1.sI rfl, by rw [sI_v, if_pos ⟨rfl, rfl⟩]⟩)⟩
theorem c216t (hw : MR w M) (hb : WB w) {l : Int} (h2 : i32 l) {n : Int} (h3 : i32 n) (h : ¬ (0 ≤ l ∧ l ≤ w 0)) : SC (d + 3) 216 [.ref 768, .int (iz l), .int (iz n)] M (fun vs N => vs = [.int (nI 0)] ∧ Fr aRe M N ∧ N.1 768 0 = nI 1) := by
  refine sC (by decide) rfl (go_in (e216_0 ?_))
  obtain ⟨M1, hM1⟩ : ∃ M1, M1 = sI M 768 0 (nI 0) := ⟨_, rfl⟩
  have hF1 : Fr aRe M M1 := by rw [hM1]; exact Fr.rf.sI rfl
  have e10 : M1.1 768 0 = nI 0 := by rw [hM1, sI_v, if_pos ⟨rfl, rfl⟩]
  rw [← hM1]
  have hw1 := hw.of hF1 (fun j _ => rfl)
  refine useC (upC (c137 (d := d) hw1 hb h2) (by omega)) fun vs N q => ?_
  obtain ⟨rfl, q⟩ := q
  have q := q.symm
  subst q
  rw [if_neg h]
  refine e216_11 (useC (upC (c130t (d := d)) (by omega)) fun vs N q => ?_)
  obtain ⟨rfl, rfl⟩ := q
  exact e216_15 ⟨fun _ => go_in (e216_41 ⟨rfl, rfl, hF1.sI rfl, by rw [sI_v, if_pos ⟨rfl, rfl⟩]⟩), fun e => absurd e (by decide)⟩
theorem c216u (hw : MR w M) (hb : WB w) {l : Int} (h2 : i32 l) {n : Int} (h3 : i32 n) (hl : 0 ≤ l ∧ l ≤ w 0) (h : ¬ (0 ≤ n ∧ n ≤ 12)) : SC (d + 3) 216 [.ref 768, .int (iz l), .int (iz n)] M (fun vs N => vs = [.int (nI 0)] ∧ Fr aRe M N ∧ N.1 768 0 = nI 2) := by
  refine sC (by decide) rfl (go_in (e216_0 ?_))
  obtain ⟨M1, hM1⟩ : ∃ M1, M1 = sI M 768 0 (nI 0) := ⟨_, rfl⟩
  have hF1 : Fr aRe M M1 := by rw [hM1]; exact Fr.rf.sI rfl
  have e10 : M1.1 768 0 = nI 0 := by rw [hM1, sI_v, if_pos ⟨rfl, rfl⟩]
  rw [← hM1]
  have hw1 := hw.of hF1 (fun j _ => rfl)
  refine useC (upC (c137 (d := d) hw1 hb h2) (by omega)) fun vs N q => ?_
  obtain ⟨rfl, q⟩ := q
  have q := q.symm
  subst q
  rw [if_pos hl]
  refine e216_11 (useC (upC (c130f (d := d)) (by omega)) fun vs N q => ?_)
  obtain ⟨rfl, q⟩ := q
  have q := q.symm
  subst q
  refine e216_15 ⟨fun e => absurd rfl e, fun _ => ?_⟩
  rw [iz_n 0, iz_n 12]
  refine useC (upC (c131 (d := d) h3 (i32_n (by omega)) (i32_n (by omega))) (by omega)) fun vs N q => ?_
  obtain ⟨rfl, q⟩ := q
  have q := q.symm
  subst q
  refine e216_26 ⟨fun e => absurd (b01.mpr (by omega)) e, fun _ => go_in (e216_34 (useC (upC (c130t (d := d)) (by omega)) fun vs N q => ?_))⟩
  obtain ⟨rfl, rfl⟩ := q
  exact e216_38 ⟨fun e => absurd e (by decide), fun _ => go_in (e216_41 ⟨rfl, rfl, hF1.sI rfl, by rw [sI_v, if_pos ⟨rfl, rfl⟩]⟩)⟩
end OR
