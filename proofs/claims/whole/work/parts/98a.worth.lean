/-! What the class's and the reference's own work may change; worth. -/
/-- the class's working objects -/
def aCl (k _ : Nat) : Bool := decide (k ≤ 2 ∨ k = 64 ∨ k = 128 ∨ k = 256 ∨ k = 320 ∨ k = 576 ∨ k = 640 ∨ (1024 ≤ k ∧ k < 1216) ∨ (5120 ≤ k ∧ k < 5184) ∨ (9216 ≤ k ∧ k < 9280) ∨ (17408 ≤ k ∧ k < 17472) ∨ (21504 ≤ k ∧ k < 21568) ∨ (37888 ≤ k ∧ k < 37952) ∨ (41984 ≤ k ∧ k < 42048))
theorem aCl_t {k j : Nat} : aCl k j = true ↔ (k ≤ 2 ∨ k = 64 ∨ k = 128 ∨ k = 256 ∨ k = 320 ∨ k = 576 ∨ k = 640 ∨ (1024 ≤ k ∧ k < 1216) ∨ (5120 ≤ k ∧ k < 5184) ∨ (9216 ≤ k ∧ k < 9280) ∨ (17408 ≤ k ∧ k < 17472) ∨ (21504 ≤ k ∧ k < 21568) ∨ (37888 ≤ k ∧ k < 37952) ∨ (41984 ≤ k ∧ k < 42048)) := decide_eq_true_iff
/-- the reference's working places -/
def aRe (k j : Nat) : Bool := decide ((k = 768 ∧ (j = 0 ∨ 16 ≤ j)) ∨ (50187 ≤ k ∧ k < 50240))
theorem aRe_t {k j : Nat} : aRe k j = true ↔ ((k = 768 ∧ (j = 0 ∨ 16 ≤ j)) ∨ (50187 ≤ k ∧ k < 50240)) := decide_eq_true_iff
theorem Fr.up {P P' : Nat → Nat → Bool} {M N : Mm} (h : Fr P M N) (hp : ∀ k j, P k j = true → P' k j = true) : Fr P' M N := h.le fun k j q => by
  cases h2 : P k j with
  | false => rfl
  | true => rw [hp k j h2] at q; cases q
theorem aYr_cl : ∀ k j, aYr k j = true → aCl k j = true := fun k j h => by
  unfold aYr inO at h
  simp only [Bool.or_eq_true, Bool.and_eq_true, Nat.beq_eq, Nat.ble_eq, Nat.blt_eq] at h
  exact aCl_t.mpr (by omega)
theorem aFo_cl {o : Nat} (ho : o < 3) : ∀ k j, aFo o k j = true → aCl k j = true := fun k j h => by
  unfold aFo aPumpBy aWish aPump at h
  simp only [Bool.or_eq_true, Bool.and_eq_true, Nat.beq_eq, Nat.ble_eq, Nat.blt_eq] at h
  exact aCl_t.mpr (by omega)
theorem aSe_cl {o : Nat} (ho : o < 3) : ∀ k j, aSe o k j = true → aCl k j = true := fun k j h => by
  unfold aSe at h
  simp only [Bool.or_eq_true, Bool.and_eq_true, Nat.beq_eq, Nat.ble_eq, Nat.blt_eq] at h
  exact aCl_t.mpr (by omega)
theorem aSof_cl {o f : Nat} (ho : o < 3) : ∀ k j, aSof o f k j = true → aCl k j = true := fun k j h => by
  unfold aSof at h
  simp only [Bool.or_eq_true, Bool.and_eq_true, Nat.beq_eq, Nat.ble_eq, Nat.blt_eq] at h
  exact aCl_t.mpr (by omega)
theorem aBD_re : ∀ k j, aBD k j = true → aRe k j = true := fun k j h => by
  unfold aBD aYB aSv aWant aVal aYearR at h
  simp only [Bool.or_eq_true, Bool.and_eq_true, Nat.beq_eq, Nat.ble_eq, Nat.blt_eq] at h
  exact aRe_t.mpr (by omega)
theorem cl_512 {k j : Nat} (h : inO 512 k = true) : aCl k j = false := by
  unfold inO at h
  simp only [Bool.or_eq_true, Bool.and_eq_true, Nat.beq_eq, Nat.ble_eq, Nat.blt_eq] at h
  exact decide_eq_false (by omega)
theorem cl_513 {k j : Nat} (h : inO 513 k = true) : aCl k j = false := by
  unfold inO at h
  simp only [Bool.or_eq_true, Bool.and_eq_true, Nat.beq_eq, Nat.ble_eq, Nat.blt_eq] at h
  exact decide_eq_false (by omega)
theorem wRf_no (w : Nat → Nat) (ta : Nat → Nat → Nat → Nat) (pd b : Nat) : wRf w ta (-1) pd b = waW w ta b := by
  funext l f
  exact if_pos (by omega)
/-- what a worth answers -/
def woF (w : Nat → Nat) (ta : Nat → Nat → Nat → Nat) (b f l : Nat) (g : Bool) : Int := frc (uWo w (w 10) (waW w ta b) f l) (4 * dtW w (w 10) (waW w ta b)) g
section WO
variable {d : Nat} {M : Mm} {w : Nat → Nat} {ta : Nat → Nat → Nat → Nat}
theorem uWo_bd (hb : WB w) {r : Nat} (hr : r < w 9) {V : Nat → Nat → Nat} (hV : ∀ l f, V l f ≤ 3) {f l : Nat} (hf : f < w 8) (hl : l < w 0 + 1) : bd 1253376000000000 (uWo w r V f l) := by
  obtain ⟨w0, -, -⟩ := wb_w hb
  have := crm_bd hb (loV w r V) (b := pyV w r V f) (X := 2448) (by omega) (fun i hi => gnW_bd hb hr hf (show i ≤ 7 by omega) (hV i)) hl
  exact this
theorem dtW_bd (hb : WB w) {r : Nat} {V : Nat → Nat → Nat} : 0 < dtW w r V ∧ dtW w r V ≤ 25600000000 := RSQ_det hb _
theorem c190 (hw : MR w M) (hb : WB w) (hD : DRel w ta M) (hp : NP M) {f l : Nat} {b g : Bool} (hf : f < w 8) (hl : l ≤ w 0) : SC (d + 9) 190 [.ref 768, .int (nI f), .int (nI l), .int (nI (cond b 1 0)), .int (nI (cond g 1 0))] M (fun vs N => vs = [.long (lz (woF w ta (cond b 1 0) f l g))] ∧ Fr aRe M N ∧ N.1 768 0 = nI 0) := by
  obtain ⟨w0, w8, w9⟩ := wb_w hb
  have hr10 : w 10 < w 9 := hb.2.2.2.1.2.2.1
  have hb1 : cond b 1 0 < 2 := by cases b <;> decide
  refine sC (by decide) rfl (go_in (e190_0 ?_))
  obtain ⟨M1, hM1⟩ : ∃ M1, M1 = sI M 768 0 (nI 0) := ⟨_, rfl⟩
  have hF1 : Fr aRe M M1 := by rw [hM1]; exact Fr.rf.sI rfl
  have e10 : M1.1 768 0 = nI 0 := by rw [hM1, sI_v, if_pos ⟨rfl, rfl⟩]
  rw [← hM1, iz_n f]
  have hw1 := hw.of hF1 (fun j _ => rfl)
  refine useC (upC (c138 (d := d) hw1 hb (a := (f : Int)) (i32_n (by omega))) (by omega)) fun vs N h => ?_
  obtain ⟨rfl, rfl⟩ := h
  rw [if_pos (by omega), ← iz_n f]
  refine e190_11 ⟨fun e => absurd rfl e, fun _ => ?_⟩
  rw [iz_n l]
  refine useC (upC (c137 (d := d) hw1 hb (a := (l : Int)) (i32_n (by omega))) (by omega)) fun vs N h => ?_
  obtain ⟨rfl, rfl⟩ := h
  rw [if_pos (by omega), ← iz_n l]
  refine e190_19 ⟨fun _ => go_in (e190_26 (go_in (e190_27 (useC (upC (c130f (d := d)) (by omega)) fun vs N h => ?_)))), fun e => absurd rfl e⟩
  obtain ⟨rfl, rfl⟩ := h
  refine e190_31 ⟨fun _ => go_in (e190_36 ?_), fun e => absurd rfl e⟩
  obtain ⟨pd, hpn⟩ := NP.pn (w := w) (hp.of hF1 rfl rfl)
  refine useC (c189 hw1 hb (hD.of hF1 (fun j => rfl)) hpn) fun vs N2 h => ?_
  obtain ⟨rfl, hF2, hB⟩ := h
  have hF : Fr aRe M N2 := hF1.tr (hF2.up aBD_re)
  have e0 : N2.1 768 0 = nI 0 := by rw [(hF2 768 0 rfl).1]; exact e10
  have tail : ∀ (o3 : Option Value) x, x = cond b 1 0 → WM (d + 8) 190 (fun vs N => vs = [.long (lz (woF w ta (cond b 1 0) f l g))] ∧ Fr aRe M N ∧ N.1 768 0 = nI 0) 49 [some (.ref 768), some (.int (nI f)), some (.int (nI l)), o3, some (.int (nI (cond g 1 0))), none] [.int (nI x)] N2 := by
    intro o3 x hx
    refine go_in (e190_49 (useC (upC (c188 (d := d)) (by omega)) fun vs N3 h => ?_))
    obtain ⟨rfl, rfl⟩ := h
    have hx2 : x < 2 := by omega
    obtain ⟨b1, b2⟩ := hB x f hx2 hf
    refine e190_63 ?_
    rw [nI_c (by omega), nI_c (by omega), b1 l (by omega), b2, wRf_no, lz_n 4, lz_mul]
    have hu := uWo_bd hb hr10 (V := waW w ta x) (fun l f => wbd_le) hf (show l < w 0 + 1 by omega)
    have hd := dtW_bd hb (r := w 10) (V := waW w ta x)
    refine ⟨nI_in2 (by omega) (by decide), nI_in2 (by omega) (by decide), useC (upC (c183 (d := d) (bd_le hu (by omega)) (b := 4 * dtW w (w 10) (waW w ta x)) ⟨by omega, by omega⟩ (by omega)) (by omega)) fun vs N4 h => ?_⟩
    obtain ⟨rfl, hN4⟩ := h
    have hF4 : Fr aRe M N4 := by rw [hN4]; exact (hF.sJ rfl).sJ rfl
    have e4 : N4.1 768 0 = nI 0 := by rw [hN4]; exact e0
    have e22 : N4.2.1 768 22 = lz (frc (uWo w (w 10) (waW w ta x) f l) (4 * dtW w (w 10) (waW w ta x)) false) := by rw [hN4, sJ_v, if_neg (by omega), sJ_v, if_pos ⟨rfl, rfl⟩]
    have e23 : N4.2.1 768 23 = lz (frc (uWo w (w 10) (waW w ta x) f l) (4 * dtW w (w 10) (waW w ta x)) true) := by rw [hN4, sJ_v, if_pos ⟨rfl, rfl⟩]
    refine e190_78 ⟨fun e => go_in (e190_90 (go_in (e190_94 ?_))), fun e => go_in (e190_94 ?_)⟩
    · have hg : g = false := by cases g <;> first | rfl | exact absurd e (by decide)
      rw [e22, hg, hx]
      exact ⟨rfl, rfl, hF4, e4⟩
    · have hg : g = true := by cases g <;> first | rfl | exact absurd rfl e
      rw [e23, hg, hx]
      exact ⟨rfl, rfl, hF4, e4⟩
  refine e190_40 ⟨fun e => go_in (e190_48 (tail _ 0 ?_)), fun e => tail _ 1 ?_⟩
  · cases b <;> first | rfl | exact absurd e (by decide)
  · cases b <;> first | rfl | exact absurd rfl e
theorem c190t (hw : MR w M) (hb : WB w) {f l : Int} (h1 : i32 f) (h2 : i32 l) {o3 o4 : Int32} (h : ¬ ((0 ≤ f ∧ f < w 8) ∧ (0 ≤ l ∧ l ≤ w 0))) : SC (d + 3) 190 [.ref 768, .int (iz f), .int (iz l), .int o3, .int o4] M (fun vs N => vs = [.long (lz 0)] ∧ Fr aRe M N ∧ N.1 768 0 = nI 1) := by
  refine sC (by decide) rfl (go_in (e190_0 ?_))
  obtain ⟨M1, hM1⟩ : ∃ M1, M1 = sI M 768 0 (nI 0) := ⟨_, rfl⟩
  have hF1 : Fr aRe M M1 := by rw [hM1]; exact Fr.rf.sI rfl
  rw [← hM1]
  have hw1 := hw.of hF1 (fun j _ => rfl)
  have fin : WM (d + 2) 190 (fun vs N => vs = [.long (lz 0)] ∧ Fr aRe M N ∧ N.1 768 0 = nI 1) 27 [some (.ref 768), some (.int (iz f)), some (.int (iz l)), some (.int o3), some (.int o4), none] [.int (nI 1), .ref 768] M1 := by
    refine go_in (e190_27 (useC (upC (c130t (d := d)) (by omega)) fun vs N h => ?_))
    obtain ⟨rfl, rfl⟩ := h
    exact e190_31 ⟨fun e => absurd e (by decide), fun _ => ⟨rfl, rfl, hF1.sI rfl, by rw [sI_v, if_pos ⟨rfl, rfl⟩]⟩⟩
  refine useC (upC (c138 (d := d) hw1 hb h1) (by omega)) fun vs N q => ?_
  obtain ⟨rfl, rfl⟩ := q
  refine e190_11 ⟨fun e => go_in (e190_22 fin), fun e => ?_⟩
  have hf : 0 ≤ f ∧ f < w 8 := by
    by_cases q : 0 ≤ f ∧ f < w 8
    · exact q
    · rw [if_neg q] at e; exact absurd e (by decide)
  refine useC (upC (c137 (d := d) hw1 hb h2) (by omega)) fun vs N q => ?_
  obtain ⟨rfl, rfl⟩ := q
  rw [if_neg (fun q => h ⟨hf, q⟩)]
  exact e190_19 ⟨fun e => absurd e (by decide), fun _ => go_in (e190_22 fin)⟩
end WO
