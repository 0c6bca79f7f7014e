/-! The class's face: what it needs; one year. -/
section CF
variable {d : Nat} {M : Mm} {w : Nat → Nat} {ta : Nat → Nat → Nat → Nat}
theorem c130f {c : Nat} : SC (d + 1) 130 [.ref 768, .int (nI 0), .int (nI c)] M (fun vs N => vs = [.int (nI 0)] ∧ N = M) := c130 (e := false)
theorem c130t {c : Nat} : SC (d + 1) 130 [.ref 768, .int (nI 1), .int (nI c)] M (fun vs N => vs = [.int (nI 1)] ∧ N = sI M 768 0 (nI c)) := c130 (e := true)
theorem c117 (hT : TR 512 w ta M) (hb : WB w) {a : Int} (ha : i32 a) (h : 0 ≤ a ∧ a < w 8) : SC (d + 2) 117 [.ref 704, .int (iz a)] M (fun vs N => vs = [] ∧ N = M) := by
  have w8 := (wb_w hb).2.1
  refine sC (by decide) rfl (go_in (e117_0 (Or.inl ?_)))
  rw [hT.1.2.1.1, iz_n]
  refine useC (c119 ha ⟨by omega, by omega⟩ h.1 h.2) fun vs N q => ?_
  obtain ⟨rfl, rfl⟩ := q
  exact e117_11 ⟨rfl, rfl, rfl⟩
theorem t117 (hT : TR 512 w ta M) (hb : WB w) {a : Int} (ha : i32 a) (h : ¬ (0 ≤ a ∧ a < w 8)) : ST (d + 2) 117 [.ref 704, .int (iz a)] M (fun E N => E = 1 ∧ N = M) := by
  have w8 := (wb_w hb).2.1
  refine sT (by decide) (by decide) (by decide +kernel) rfl (go_inE (e117_0 (Or.inr ?_)))
  show ST (d + 1) 119 _ _ _
  rw [hT.1.2.1.1, iz_n]
  exact useT (t119 ha ⟨by omega, by omega⟩ (by omega)) fun E N q => ⟨by omega, q⟩
theorem c118 (hT : TR 512 w ta M) (hb : WB w) {a : Int} (ha : i32 a) (h : 0 ≤ a ∧ a ≤ w 0) : SC (d + 2) 118 [.ref 704, .int (iz a)] M (fun vs N => vs = [] ∧ N = M) := by
  have w0 := (wb_w hb).1
  refine sC (by decide) rfl (go_in (e118_0 (Or.inl ?_)))
  rw [hT.1.1.1, nI_add, iz_n]
  refine useC (c119 ha ⟨by omega, by omega⟩ h.1 (by omega)) fun vs N q => ?_
  obtain ⟨rfl, rfl⟩ := q
  exact e118_13 ⟨rfl, rfl, rfl⟩
theorem t118 (hT : TR 512 w ta M) (hb : WB w) {a : Int} (ha : i32 a) (h : ¬ (0 ≤ a ∧ a ≤ w 0)) : ST (d + 2) 118 [.ref 704, .int (iz a)] M (fun E N => E = 1 ∧ N = M) := by
  have w0 := (wb_w hb).1
  refine sT (by decide) (by decide) (by decide +kernel) rfl (go_inE (e118_0 (Or.inr ?_)))
  show ST (d + 1) 119 _ _ _
  rw [hT.1.1.1, nI_add, iz_n]
  exact useT (t119 ha ⟨by omega, by omega⟩ (by omega)) fun E N q => ⟨by omega, q⟩
theorem int_nat {a : Int} (h : 0 ≤ a) : ∃ n : Nat, a = n := ⟨a.toNat, by omega⟩
/-- the year by the draws -/
theorem c122 (hT : TR 512 w ta M) (hb : WB w) {l : Nat} {b : Bool} (hl : l ≤ w 0) : SC (d + 5) 122 [.ref 704, .int (nI l), .int (nI (cond b 1 0))] M (fun vs N => vs = [] ∧ Fr aYr M N ∧ YO w ta (w 10) N ∧ WV (yW w (w 10)) (waW w ta (cond b 1 0) l) N ∧ PU (yW w (w 10)) (kW w) (waW w ta (cond b 1 0) l) l N) := by
  have w10 : w 10 < w 9 := hb.2.2.2.1.2.2.1
  refine sC (by decide) rfl (go_in (e122_0 (useC (c61 hT hb) fun vs N h => ?_)))
  obtain ⟨rfl, hF, hY⟩ := h
  have main : ∀ (x : Nat), x = cond b 1 0 → SC (d + 4) 68 [.ref 640, .int (nI l), .int (nI x)] N (fun vs N2 => vs = [] ∧ Fr aYr M N2 ∧ YO w ta (w 10) N2 ∧ WV (yW w (w 10)) (waW w ta (cond b 1 0) l) N2 ∧ PU (yW w (w 10)) (kW w) (waW w ta (cond b 1 0) l) l N2) := by
    intro x hx
    refine useC (upC (c68 (d := d) (b := x) hY.1 (yB_of hb w10) hY.2.2.2 (fun b l f => wbd_le) hl (by rw [hx]; cases b <;> decide)) (by omega)) fun vs N2 h => ?_
    obtain ⟨rfl, hF2, hv, hp⟩ := h
    rw [← hx]
    exact ⟨rfl, hF.tr (hF2.le aPumpBy_yr), ⟨hY.1.of hF2 (fun j hj => aP_640 j hj) (fun j => rfl), hY.2.1.of hF2 (fun j => rfl), hY.2.2.1.of hF2 (fun j => rfl), hY.2.2.2.of hF2 (fun j => rfl)⟩, hv, hp⟩
  refine e122_11 ⟨fun e => ?_, fun e => ?_⟩
  · have hx : 0 = cond b 1 0 := by cases b <;> first | rfl | exact absurd e (by decide)
    exact go_in (e122_24 (go_in (e122_25 (useC (main 0 hx) fun vs N2 h => by
      obtain ⟨rfl, h⟩ := h
      exact e122_28 ⟨rfl, rfl, h⟩))))
  · have hx : 1 = cond b 1 0 := by cases b <;> first | rfl | exact absurd rfl e
    exact go_in (e122_25 (useC (main 1 hx) fun vs N2 h => by
      obtain ⟨rfl, h⟩ := h
      exact e122_28 ⟨rfl, rfl, h⟩))
theorem c96 (hT : TR 512 w ta M) (hb : WB w) {f l : Nat} {b g : Bool} (hf : f < w 8) (hl : l ≤ w 0) : SC (d + 6) 96 [.ref 704, .int (nI f), .int (nI l), .int (nI (cond b 1 0)), .int (nI (cond g 1 0))] M (fun vs N => vs = [.int (nI (cond g (gt (waW w ta (cond b 1 0) l) (l - w (32 + 5 * w 10 + 1)) f) (waW w ta (cond b 1 0) l f)))] ∧ Fr aYr M N) := by
  obtain ⟨w0, w8, w9⟩ := wb_w hb
  refine sC (by decide) rfl (go_in (e96_0 (Or.inl ?_)))
  rw [iz_n f]
  refine useC (upC (c117 (d := d) hT hb ⟨by omega, by omega⟩ ⟨by omega, by omega⟩) (by omega)) fun vs N h => ?_
  obtain ⟨rfl, rfl⟩ := h
  refine e96_5 (Or.inl ?_)
  rw [iz_n l]
  refine useC (upC (c118 (d := d) hT hb ⟨by omega, by omega⟩ ⟨by omega, by omega⟩) (by omega)) fun vs N h => ?_
  obtain ⟨rfl, rfl⟩ := h
  refine e96_10 ?_
  rw [iz_nn]
  refine useC (c122 hT hb hl) fun vs N2 h => ?_
  obtain ⟨rfl, hF, hY, hv, hp⟩ := h
  rw [iz_nn]
  refine e96_16 ⟨fun e => ?_, fun e => ?_⟩
  · have hg : g = false := by cases g <;> first | rfl | exact absurd e (by decide)
    subst hg
    refine go_in (e96_33 ⟨nI_in2 (by omega) (by decide), ?_⟩)
    rw [nI_c (by omega), hv f hf]
    exact go_in (e96_42 ⟨rfl, rfl, hF⟩)
  · have hg : g = true := by cases g <;> first | rfl | exact absurd rfl e
    subst hg
    refine ⟨nI_in2 (by omega) (by decide), ?_⟩
    rw [nI_c (by omega), hp.1 f hf]
    exact go_in (e96_42 ⟨rfl, rfl, hF⟩)
end CF
