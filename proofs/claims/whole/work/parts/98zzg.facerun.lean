/-! The class's face: run. -/
section FT
variable {d : Nat} {M : Mm} {w : Nat → Nat} {ta : Nat → Nat → Nat → Nat}
theorem c116 (hT : TR 512 w ta M) (hb : WB w) {l n what : Nat} {sd : Int32} {tld : Bool} (hl : l ≤ w 0) (hn : n ≤ 100) (hwh : what ≤ 7) : SC (d + 5) 116 [.ref 704, .int (nI l), .int (nI n), .int sd, .int (nI (cond tld 1 0)), .int (nI what)] M (fun vs N => vs = [.int (iz (rnA w ta l n sd tld what))] ∧ Fr aCl M N) := by
  obtain ⟨w0, w8, w9⟩ := wb_w hb
  refine sC (by decide) rfl (go_in (e116_0 (Or.inl ?_)))
  rw [iz_n l]
  refine useC (upC (c118 (d := d) hT hb ⟨by omega, by omega⟩ ⟨by omega, by omega⟩) (by omega)) fun vs N h => ?_
  obtain ⟨rfl, h⟩ := h
  have h := h.symm
  subst h
  refine e116_5 (Or.inl ?_)
  rw [iz_n n, iz_n 0, iz_n 100]
  refine useC (upC (c120 (d := d) (x := (n : Int)) (i32_n (by omega)) (i32_n (by omega)) (i32_n (by omega)) (by omega) (by omega)) (by omega)) fun vs N h => ?_
  obtain ⟨rfl, h⟩ := h
  have h := h.symm
  subst h
  rw [iz_nn, iz_nn]
  refine e116_12 ⟨fun q => ?_, fun _ => ⟨fun _ => go_in (e116_35 ?_), fun q => ?_⟩⟩
  · rw [iz_n, iz_lt0 (i32_n (by omega))] at q
    omega
  · refine useC (upC (c61 (d := d) hT hb) (by omega)) fun vs N1 h => ?_
    obtain ⟨rfl, hF1, hY1⟩ := h
    have hT1 := hT.of hF1 (yr_told (Or.inl rfl))
    refine e116_46 (useC (upC (c55 (d := d) (w := w) (ta := ta) (l0 := l) (sd := sd) (tld := tld) hT1) (by omega)) fun vs N2 h => ?_)
    obtain ⟨rfl, hF2, hP2⟩ := h
    refine e116_57 ?_
    have loop : ∀ k y N (o1 o3 o4 : Option Value), y + k = n → Fr aTp N1 N → TRP w ta l sd tld y N → WM (d + 4) 116 (fun vs N => vs = [.int (iz (rnA w ta l n sd tld what))] ∧ Fr aCl M N) 60 [some (.ref 704), o1, some (.int (nI n)), o3, o4, some (.int (nI what)), some (.int (nI y))] [] N := by
      intro k
      induction k with
      | zero =>
        intro y N o1 o3 o4 hy hF hP
        have hy : y = n := by omega
        subst hy
        have hF' : Fr aCl M N := (hF1.up aYr_cl).tr (hF.up aTp_cl)
        refine go_in (e116_60 (br_t (nI_le (Nat.le_refl _) (by omega)) (go_in (e116_81 (useC (upC (c60 (d := d) (hT.of hF' (fun k j h => cl_512 h)) hb (show what < 8 by omega) hP) (by omega)) fun vs N3 h => ?_)))))
        obtain ⟨rfl, rfl⟩ := h
        exact e116_90 ⟨rfl, rfl, hF'⟩
      | succ k ih =>
        intro y N o1 o3 o4 hy hF hP
        have hF' : Fr aCl M N := (hF1.up aYr_cl).tr (hF.up aTp_cl)
        refine go_in (e116_60 (br_f (nI_ge (by omega) (by omega)) (useC (c56 (d := d) (hT.of hF' (fun k j h => cl_512 h)) hb (hY1.1.of hF aTp_640 (fun j => rfl)) (hY1.2.1.of hF (fun j => rfl)) (hY1.2.2.2.of hF (fun j => rfl)) hl (show y < 100 by omega) hP) fun vs N3 h => ?_)))
        obtain ⟨rfl, hF3, hP3⟩ := h
        refine e116_75 ?_
        rw [nI_s]
        exact ih (y + 1) N3 _ _ _ (by omega) (hF.tr hF3) hP3
    exact loop n 0 N2 _ _ _ (by omega) hF2 hP2
  · rw [nI_leI (by omega) (by decide)] at q
    omega
theorem t116 (hT : TR 512 w ta M) (hb : WB w) {l n what : Int} (h1 : i32 l) {o2 o3 o4 o5 : Int32} (h : ¬ (0 ≤ l ∧ l ≤ w 0)) : ST (d + 3) 116 [.ref 704, .int (iz l), .int o2, .int o3, .int o4, .int o5] M (fun E N => E = 1 ∧ N = M) := by
  refine sT (by decide) (by decide) (by decide +kernel) rfl ?_
  refine go_inE (e116_0 (Or.inr ?_))
  show ST (d + 2) 118 _ _ _
  exact useT (t118 hT hb h1 h) fun E N q => ⟨by omega, q⟩
theorem u116 (hT : TR 512 w ta M) (hb : WB w) {l n : Int} (h1 : i32 l) (h2 : i32 n) {o3 o4 o5 : Int32} (hl : 0 ≤ l ∧ l ≤ w 0) (h : ¬ (0 ≤ n ∧ n ≤ 100)) : ST (d + 3) 116 [.ref 704, .int (iz l), .int (iz n), .int o3, .int o4, .int o5] M (fun E N => E = 0 ∧ N = M) := by
  refine sT (by decide) (by decide) (by decide +kernel) rfl ?_
  refine go_inE (e116_0 (Or.inl (useC (c118 (d := d) hT hb h1 hl) fun vs N q => ?_)))
  obtain ⟨rfl, rfl⟩ := q
  refine e116_5 (Or.inr ?_)
  show ST (d + 2) 120 _ _ _
  rw [iz_n 0, iz_n 100]
  exact useT (t120 h2 (i32_n (by omega)) (i32_n (by omega)) (by omega)) fun E N q => ⟨by omega, q⟩
theorem v116 (hT : TR 512 w ta M) (hb : WB w) {l n what : Int} (h1 : i32 l) (h2 : i32 n) (h3 : i32 what) {o3 o4 : Int32} (hl : 0 ≤ l ∧ l ≤ w 0) (hn : 0 ≤ n ∧ n ≤ 100) (h : ¬ (0 ≤ what ∧ what ≤ 7)) : ST (d + 3) 116 [.ref 704, .int (iz l), .int (iz n), .int o3, .int o4, .int (iz what)] M (fun E N => E = 3 ∧ N = M) := by
  refine sT (by decide) (by decide) (by decide +kernel) rfl ?_
  refine go_inE (e116_0 (Or.inl (useC (c118 (d := d) hT hb h1 hl) fun vs N q => ?_)))
  obtain ⟨rfl, rfl⟩ := q
  refine e116_5 (Or.inl ?_)
  rw [iz_n 0, iz_n 100]
  refine useC (upC (c120 (d := d) h2 (i32_n (by omega)) (i32_n (by omega)) (by omega) (by omega)) (by omega)) fun vs N q => ?_
  obtain ⟨rfl, rfl⟩ := q
  refine e116_12 ⟨fun q => go_inE (e116_24 ⟨by decide, by decide, rfl, rfl⟩), fun q => ⟨fun q2 => ?_, fun q2 => go_inE (e116_24 ⟨by decide, by decide, rfl, rfl⟩)⟩⟩
  rw [iz_lt0 h3] at q
  rw [iz_n 7, iz_le h3 (i32_n (by omega))] at q2
  omega
end FT
