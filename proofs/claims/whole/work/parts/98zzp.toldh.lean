/-! The reference's farm, rule, force, by, broken. -/
theorem sI_j (M : Mm) {k j b : Nat} (v : Int32) (h : b ≠ j) : (sI M k j v).1 k b = M.1 k b := sI_ne M v (fun q => h q.2)
section TH
variable {d : Nat} {M : Mm} {w : Nat → Nat} {ta : Nat → Nat → Nat → Nat}
theorem c143 (hI : RI w ta M) (hb : WB w) (h8 : w 8 < 3) {a b c e : Nat} (h : a ≤ 99 ∧ b ≤ 99 ∧ c ≤ 99 ∧ e ≤ 9) : SC (d + 2) 143 [.ref 768, .int (iz a), .int (iz b), .int (iz c), .int (iz e)] M (fun vs N => vs = [.int (nI (w 8))] ∧ RI (fmW w a b c e) ta N ∧ Fr aWld M N ∧ N.1 768 0 = nI 0) := by
  have h1 := hI.z (nI 0)
  have hc : M.1 50177 8 = nI (w 8) := hI.1.n (by decide) rfl
  refine sC (by decide) rfl (go_in (e143_0 ?_))
  refine k131n ⟨by omega, by omega⟩ (by decide) (by decide) (by omega) ?_
  refine e143_13 ⟨fun q => absurd q (by decide), fun _ => ?_⟩
  refine k131n ⟨by omega, by omega⟩ (by decide) (by decide) (by omega) ?_
  refine e143_23 ⟨fun q => absurd q (by decide), fun _ => ?_⟩
  refine k131n ⟨by omega, by omega⟩ (by decide) (by decide) (by omega) ?_
  refine e143_33 ⟨fun q => absurd q (by decide), fun _ => ?_⟩
  refine k131n ⟨by omega, by omega⟩ (by decide) (by decide) (by omega) ?_
  refine e143_44 ⟨fun _ => go_in (e143_51 (go_in (e143_52 (k130 ?_)))), fun q => absurd q (by decide)⟩
  refine e143_56 ⟨fun q => absurd rfl q, fun _ => k135 h1.1 (e143_64 ?_)⟩
  rw [nI_q (by omega) (by decide)]
  refine ⟨fun _ => go_in (e143_72 (go_in (e143_73 (k130 (e143_77 ⟨fun _ => go_in (e143_82 (k135 h1.1 (e143_89 ?_))), fun q => absurd rfl q⟩))))), fun q => absurd q (by omega)⟩
  have hN : RI (fmW w a b c e) ta (sI (sI (sI (sI (sI (sI (sI M 768 0 (nI 0)) 50177 (17 + 5 * w 8) (iz a)) 50177 (18 + 5 * w 8) (iz b)) 50177 (19 + 5 * w 8) (iz c)) 50177 (20 + 5 * w 8) (iz e)) 50177 (21 + 5 * w 8) (-(nI 1))) 50177 8 (nI (w 8 + 1))) := (RI_c (RI_c (RI_c (RI_c (RI_c (RI_c h1 (i := 17 + 5 * w 8) (by omega) (by omega) (v := a) (by rw [wz_no (shf_no (by omega))])) (i := 18 + 5 * w 8) (by omega) (by omega) (v := b) (by rw [wz_no (shf_no (by omega))])) (i := 19 + 5 * w 8) (by omega) (by omega) (v := c) (by rw [wz_no (shf_no (by omega))])) (i := 20 + 5 * w 8) (by omega) (by omega) (v := e) (by rw [wz_no (shf_no (by omega))])) (i := 21 + 5 * w 8) (by omega) (by omega) (v := 0) (by rw [wz_s (shf_21 _ (by omega))]; rfl)) (i := 8) (by decide) (by decide) (v := w 8 + 1) (iz_n _))
  simp (disch := omega) only [sI_k, sI_j, sI_e, hc, nI_mul, nI_add, nI_c, nI_sub, Nat.add_sub_cancel, show 17 + 5 * w 8 + 1 = 18 + 5 * w 8 from by omega, show 17 + 5 * w 8 + 2 = 19 + 5 * w 8 from by omega, show 17 + 5 * w 8 + 3 = 20 + 5 * w 8 from by omega, show 17 + 5 * w 8 + 4 = 21 + 5 * w 8 from by omega, show 17 + w 8 * 5 = 17 + 5 * w 8 from by omega]
  refine ⟨nI_in2 (by omega) (by decide), nI_in2 (by omega) (by decide), nI_in2 (by omega) (by decide), nI_in2 (by omega) (by decide), nI_in2 (by omega) (by decide), nI_in2 (by decide) (by decide), nI_in2 (by decide) (by decide), k135 hN.1 (e143_157 ⟨rfl, ?_, hN, (((((((Fr.rf.sI rfl).sI rfl).sI rfl).sI rfl).sI rfl).sI rfl).sI rfl), rfl⟩)⟩
  rw [fmW_8, nI_sub (by omega), Nat.add_sub_cancel]
theorem c143u (hI : RI w ta M) (hb : WB w) (h8 : ¬ w 8 < 3) {a b c e : Nat} (h : a ≤ 99 ∧ b ≤ 99 ∧ c ≤ 99 ∧ e ≤ 9) : SC (d + 2) 143 [.ref 768, .int (iz a), .int (iz b), .int (iz c), .int (iz e)] M (fun vs N => vs = [.int (nI 0)] ∧ Fr a7 M N ∧ N.1 768 0 = nI 2) := by
  obtain ⟨w0, w8, w9⟩ := wb_w hb
  have h1 := hI.z (nI 0)
  have hc : M.1 50177 8 = nI (w 8) := hI.1.n (by decide) rfl
  refine sC (by decide) rfl (go_in (e143_0 ?_))
  refine k131n ⟨by omega, by omega⟩ (by decide) (by decide) (by omega) ?_
  refine e143_13 ⟨fun q => absurd q (by decide), fun _ => ?_⟩
  refine k131n ⟨by omega, by omega⟩ (by decide) (by decide) (by omega) ?_
  refine e143_23 ⟨fun q => absurd q (by decide), fun _ => ?_⟩
  refine k131n ⟨by omega, by omega⟩ (by decide) (by decide) (by omega) ?_
  refine e143_33 ⟨fun q => absurd q (by decide), fun _ => ?_⟩
  refine k131n ⟨by omega, by omega⟩ (by decide) (by decide) (by omega) ?_
  refine e143_44 ⟨fun _ => go_in (e143_51 (go_in (e143_52 (k130 ?_)))), fun q => absurd q (by decide)⟩
  refine e143_56 ⟨fun q => absurd rfl q, fun _ => k135 h1.1 (e143_64 ?_)⟩
  rw [nI_q (by omega) (by decide)]
  refine ⟨fun q => absurd (by omega) q, fun _ => go_in (e143_73 (f130 (e143_77 ⟨fun q => absurd q (by decide), fun _ => go_in (e143_80 ⟨rfl, rfl, (Fr.rf.sI rfl).sI rfl, rfl⟩)⟩)))⟩
theorem c143t {a b c e : Int} (ha : i32 a) (hb : i32 b) (hc : i32 c) (he : i32 e) (h : ¬ ((0 ≤ a ∧ a ≤ 99) ∧ (0 ≤ b ∧ b ≤ 99) ∧ (0 ≤ c ∧ c ≤ 99) ∧ (0 ≤ e ∧ e ≤ 9))) : SC (d + 2) 143 [.ref 768, .int (iz a), .int (iz b), .int (iz c), .int (iz e)] M (fun vs N => vs = [.int (nI 0)] ∧ Fr a7 M N ∧ N.1 768 0 = nI 1) := by
  by_cases g0 : 0 ≤ a ∧ a ≤ 99
  · by_cases g1 : 0 ≤ b ∧ b ≤ 99
    · by_cases g2 : 0 ≤ c ∧ c ≤ 99
      · by_cases g3 : 0 ≤ e ∧ e ≤ 9
        · exact absurd ⟨g0, g1, g2, g3⟩ h
        · refine sC (by decide) rfl (go_in (e143_0 ?_))
          refine k131n ha (by decide) (by decide) (by omega) ?_
          refine e143_13 ⟨fun q => absurd q (by decide), fun _ => ?_⟩
          refine k131n hb (by decide) (by decide) (by omega) ?_
          refine e143_23 ⟨fun q => absurd q (by decide), fun _ => ?_⟩
          refine k131n hc (by decide) (by decide) (by omega) ?_
          refine e143_33 ⟨fun q => absurd q (by decide), fun _ => ?_⟩
          refine f131n he (by decide) (by decide) (by omega) ?_
          refine e143_44 ⟨fun q => absurd rfl q, fun _ => go_in (e143_47 (go_in (e143_52 (f130 ?_))))⟩
          exact e143_56 ⟨fun _ => go_in (e143_80 ⟨rfl, rfl, (Fr.rf.sI rfl).sI rfl, rfl⟩), fun q => absurd q (by decide)⟩
      · refine sC (by decide) rfl (go_in (e143_0 ?_))
        refine k131n ha (by decide) (by decide) (by omega) ?_
        refine e143_13 ⟨fun q => absurd q (by decide), fun _ => ?_⟩
        refine k131n hb (by decide) (by decide) (by omega) ?_
        refine e143_23 ⟨fun q => absurd q (by decide), fun _ => ?_⟩
        refine f131n hc (by decide) (by decide) (by omega) ?_
        refine e143_33 ⟨fun _ => go_in (e143_47 (go_in (e143_52 (f130 ?_)))), fun q => absurd rfl q⟩
        exact e143_56 ⟨fun _ => go_in (e143_80 ⟨rfl, rfl, (Fr.rf.sI rfl).sI rfl, rfl⟩), fun q => absurd q (by decide)⟩
    · refine sC (by decide) rfl (go_in (e143_0 ?_))
      refine k131n ha (by decide) (by decide) (by omega) ?_
      refine e143_13 ⟨fun q => absurd q (by decide), fun _ => ?_⟩
      refine f131n hb (by decide) (by decide) (by omega) ?_
      refine e143_23 ⟨fun _ => go_in (e143_47 (go_in (e143_52 (f130 ?_)))), fun q => absurd rfl q⟩
      exact e143_56 ⟨fun _ => go_in (e143_80 ⟨rfl, rfl, (Fr.rf.sI rfl).sI rfl, rfl⟩), fun q => absurd q (by decide)⟩
  · refine sC (by decide) rfl (go_in (e143_0 ?_))
    refine f131n ha (by decide) (by decide) (by omega) ?_
    refine e143_13 ⟨fun _ => go_in (e143_47 (go_in (e143_52 (f130 ?_)))), fun q => absurd rfl q⟩
    exact e143_56 ⟨fun _ => go_in (e143_80 ⟨rfl, rfl, (Fr.rf.sI rfl).sI rfl, rfl⟩), fun q => absurd q (by decide)⟩
theorem c144 (hI : RI w ta M) (hb : WB w) (h8 : w 9 < 5) {a b c e f : Nat} (h : a ≤ 9 ∧ b ≤ 7 ∧ c ≤ 3 ∧ e ≤ 99 ∧ f ≤ 4) : SC (d + 2) 144 [.ref 768, .int (iz a), .int (iz b), .int (iz c), .int (iz e), .int (iz f)] M (fun vs N => vs = [.int (nI (w 9))] ∧ RI (ruW w a b c e f) ta N ∧ Fr aWld M N ∧ N.1 768 0 = nI 0) := by
  have h1 := hI.z (nI 0)
  have hc : M.1 50177 9 = nI (w 9) := hI.1.n (by decide) rfl
  refine sC (by decide) rfl (go_in (e144_0 ?_))
  refine k131n ⟨by omega, by omega⟩ (by decide) (by decide) (by omega) ?_
  refine e144_13 ⟨fun q => absurd q (by decide), fun _ => ?_⟩
  refine k131n ⟨by omega, by omega⟩ (by decide) (by decide) (by omega) ?_
  refine e144_23 ⟨fun q => absurd q (by decide), fun _ => ?_⟩
  refine k131n ⟨by omega, by omega⟩ (by decide) (by decide) (by omega) ?_
  refine e144_32 ⟨fun q => absurd q (by decide), fun _ => ?_⟩
  refine k131n ⟨by omega, by omega⟩ (by decide) (by decide) (by omega) ?_
  refine e144_43 ⟨fun q => absurd q (by decide), fun _ => ?_⟩
  refine k131n ⟨by omega, by omega⟩ (by decide) (by decide) (by omega) ?_
  refine e144_53 ⟨fun _ => go_in (e144_60 (go_in (e144_61 (k130 ?_)))), fun q => absurd q (by decide)⟩
  refine e144_65 ⟨fun q => absurd rfl q, fun _ => ⟨nI_in2 (by decide) (by decide), ?_⟩⟩
  rw [nI_c (by decide), sI_k _ _ (by decide), hc, nI_q (by omega) (by decide)]
  refine ⟨fun _ => go_in (e144_84 (go_in (e144_85 (k130 (e144_89 ⟨fun _ => go_in (e144_94 ?_), fun q => absurd rfl q⟩))))), fun q => absurd q (by omega)⟩
  have hN : RI (ruW w a b c e f) ta (sI (sI (sI (sI (sI (sI (sI M 768 0 (nI 0)) 50177 (32 + 5 * w 9 + 0) (iz a)) 50177 (32 + 5 * w 9 + 1) (iz b)) 50177 (32 + 5 * w 9 + 2) (iz c)) 50177 (32 + 5 * w 9 + 3) (iz e)) 50177 (32 + 5 * w 9 + 4) (iz f)) 50177 9 (nI (w 9 + 1))) := (RI_c (RI_c (RI_c (RI_c (RI_c (RI_c h1 (i := 32 + 5 * w 9 + 0) (by omega) (by omega) (v := a) (by rw [wz_no (shf_no (by omega))])) (i := 32 + 5 * w 9 + 1) (by omega) (by omega) (v := b) (by rw [wz_no (shf_no (by omega))])) (i := 32 + 5 * w 9 + 2) (by omega) (by omega) (v := c) (by rw [wz_no (shf_no (by omega))])) (i := 32 + 5 * w 9 + 3) (by omega) (by omega) (v := e) (by rw [wz_no (shf_no (by omega))])) (i := 32 + 5 * w 9 + 4) (by omega) (by omega) (v := f) (by rw [wz_no (shf_no (by omega))])) (i := 9) (by decide) (by decide) (v := w 9 + 1) (iz_n _))
  simp (disch := omega) only [sI_k, sI_j, sI_e, hc, nI_mul, nI_add, nI_c, nI_sub, Nat.add_sub_cancel]
  exact ⟨nI_in2 (by decide) (by decide), nI_in2 (by omega) (by decide), nI_in2 (by omega) (by decide), nI_in2 (by omega) (by decide), nI_in2 (by omega) (by decide), nI_in2 (by omega) (by decide), nI_in2 (by decide) (by decide), nI_in2 (by decide) (by decide), nI_in2 (by decide) (by decide), rfl, rfl, hN, (((((((Fr.rf.sI rfl).sI rfl).sI rfl).sI rfl).sI rfl).sI rfl).sI rfl), rfl⟩
theorem c144u (hI : RI w ta M) (hb : WB w) (h8 : ¬ w 9 < 5) {a b c e f : Nat} (h : a ≤ 9 ∧ b ≤ 7 ∧ c ≤ 3 ∧ e ≤ 99 ∧ f ≤ 4) : SC (d + 2) 144 [.ref 768, .int (iz a), .int (iz b), .int (iz c), .int (iz e), .int (iz f)] M (fun vs N => vs = [.int (nI 0)] ∧ Fr a7 M N ∧ N.1 768 0 = nI 2) := by
  obtain ⟨w0, w8, w9⟩ := wb_w hb
  have h1 := hI.z (nI 0)
  have hc : M.1 50177 9 = nI (w 9) := hI.1.n (by decide) rfl
  refine sC (by decide) rfl (go_in (e144_0 ?_))
  refine k131n ⟨by omega, by omega⟩ (by decide) (by decide) (by omega) ?_
  refine e144_13 ⟨fun q => absurd q (by decide), fun _ => ?_⟩
  refine k131n ⟨by omega, by omega⟩ (by decide) (by decide) (by omega) ?_
  refine e144_23 ⟨fun q => absurd q (by decide), fun _ => ?_⟩
  refine k131n ⟨by omega, by omega⟩ (by decide) (by decide) (by omega) ?_
  refine e144_32 ⟨fun q => absurd q (by decide), fun _ => ?_⟩
  refine k131n ⟨by omega, by omega⟩ (by decide) (by decide) (by omega) ?_
  refine e144_43 ⟨fun q => absurd q (by decide), fun _ => ?_⟩
  refine k131n ⟨by omega, by omega⟩ (by decide) (by decide) (by omega) ?_
  refine e144_53 ⟨fun _ => go_in (e144_60 (go_in (e144_61 (k130 ?_)))), fun q => absurd q (by decide)⟩
  refine e144_65 ⟨fun q => absurd rfl q, fun _ => ⟨nI_in2 (by decide) (by decide), ?_⟩⟩
  rw [nI_c (by decide), sI_k _ _ (by decide), hc, nI_q (by omega) (by decide)]
  refine ⟨fun q => absurd (by omega) q, fun _ => go_in (e144_85 (f130 (e144_89 ⟨fun q => absurd q (by decide), fun _ => go_in (e144_92 ⟨rfl, rfl, (Fr.rf.sI rfl).sI rfl, rfl⟩)⟩)))⟩
theorem c144t {a b c e f : Int} (ha : i32 a) (hb : i32 b) (hc : i32 c) (he : i32 e) (hf : i32 f) (h : ¬ ((0 ≤ a ∧ a ≤ 9) ∧ (0 ≤ b ∧ b ≤ 7) ∧ (0 ≤ c ∧ c ≤ 3) ∧ (0 ≤ e ∧ e ≤ 99) ∧ (0 ≤ f ∧ f ≤ 4))) : SC (d + 2) 144 [.ref 768, .int (iz a), .int (iz b), .int (iz c), .int (iz e), .int (iz f)] M (fun vs N => vs = [.int (nI 0)] ∧ Fr a7 M N ∧ N.1 768 0 = nI 1) := by
  by_cases g0 : 0 ≤ a ∧ a ≤ 9
  · by_cases g1 : 0 ≤ b ∧ b ≤ 7
    · by_cases g2 : 0 ≤ c ∧ c ≤ 3
      · by_cases g3 : 0 ≤ e ∧ e ≤ 99
        · by_cases g4 : 0 ≤ f ∧ f ≤ 4
          · exact absurd ⟨g0, g1, g2, g3, g4⟩ h
          · refine sC (by decide) rfl (go_in (e144_0 ?_))
            refine k131n ha (by decide) (by decide) (by omega) ?_
            refine e144_13 ⟨fun q => absurd q (by decide), fun _ => ?_⟩
            refine k131n hb (by decide) (by decide) (by omega) ?_
            refine e144_23 ⟨fun q => absurd q (by decide), fun _ => ?_⟩
            refine k131n hc (by decide) (by decide) (by omega) ?_
            refine e144_32 ⟨fun q => absurd q (by decide), fun _ => ?_⟩
            refine k131n he (by decide) (by decide) (by omega) ?_
            refine e144_43 ⟨fun q => absurd q (by decide), fun _ => ?_⟩
            refine f131n hf (by decide) (by decide) (by omega) ?_
            refine e144_53 ⟨fun q => absurd rfl q, fun _ => go_in (e144_56 (go_in (e144_61 (f130 ?_))))⟩
            exact e144_65 ⟨fun _ => go_in (e144_92 ⟨rfl, rfl, (Fr.rf.sI rfl).sI rfl, rfl⟩), fun q => absurd q (by decide)⟩
        · refine sC (by decide) rfl (go_in (e144_0 ?_))
          refine k131n ha (by decide) (by decide) (by omega) ?_
          refine e144_13 ⟨fun q => absurd q (by decide), fun _ => ?_⟩
          refine k131n hb (by decide) (by decide) (by omega) ?_
          refine e144_23 ⟨fun q => absurd q (by decide), fun _ => ?_⟩
          refine k131n hc (by decide) (by decide) (by omega) ?_
          refine e144_32 ⟨fun q => absurd q (by decide), fun _ => ?_⟩
          refine f131n he (by decide) (by decide) (by omega) ?_
          refine e144_43 ⟨fun _ => go_in (e144_56 (go_in (e144_61 (f130 ?_)))), fun q => absurd rfl q⟩
          exact e144_65 ⟨fun _ => go_in (e144_92 ⟨rfl, rfl, (Fr.rf.sI rfl).sI rfl, rfl⟩), fun q => absurd q (by decide)⟩
      · refine sC (by decide) rfl (go_in (e144_0 ?_))
        refine k131n ha (by decide) (by decide) (by omega) ?_
        refine e144_13 ⟨fun q => absurd q (by decide), fun _ => ?_⟩
        refine k131n hb (by decide) (by decide) (by omega) ?_
        refine e144_23 ⟨fun q => absurd q (by decide), fun _ => ?_⟩
        refine f131n hc (by decide) (by decide) (by omega) ?_
        refine e144_32 ⟨fun _ => go_in (e144_56 (go_in (e144_61 (f130 ?_)))), fun q => absurd rfl q⟩
        exact e144_65 ⟨fun _ => go_in (e144_92 ⟨rfl, rfl, (Fr.rf.sI rfl).sI rfl, rfl⟩), fun q => absurd q (by decide)⟩
    · refine sC (by decide) rfl (go_in (e144_0 ?_))
      refine k131n ha (by decide) (by decide) (by omega) ?_
      refine e144_13 ⟨fun q => absurd q (by decide), fun _ => ?_⟩
      refine f131n hb (by decide) (by decide) (by omega) ?_
      refine e144_23 ⟨fun _ => go_in (e144_56 (go_in (e144_61 (f130 ?_)))), fun q => absurd rfl q⟩
      exact e144_65 ⟨fun _ => go_in (e144_92 ⟨rfl, rfl, (Fr.rf.sI rfl).sI rfl, rfl⟩), fun q => absurd q (by decide)⟩
  · refine sC (by decide) rfl (go_in (e144_0 ?_))
    refine f131n ha (by decide) (by decide) (by omega) ?_
    refine e144_13 ⟨fun _ => go_in (e144_56 (go_in (e144_61 (f130 ?_)))), fun q => absurd rfl q⟩
    exact e144_65 ⟨fun _ => go_in (e144_92 ⟨rfl, rfl, (Fr.rf.sI rfl).sI rfl, rfl⟩), fun q => absurd q (by decide)⟩
theorem c220 (hI : RI w ta M) (hb : WB w) {a b c : Nat} (h : a ≤ 99 ∧ b < w 8 ∧ c ≤ 3) (h12 : w 12 < 6) : SC (d + 3) 220 [.ref 768, .int (iz a), .int (iz b), .int (iz c)] M (fun vs N => vs = [.int (nI (w 12 + 1))] ∧ RI (bkW w a b c) ta N ∧ Fr aWld M N ∧ N.1 768 0 = nI 0) := by
  obtain ⟨w0, w8, w9⟩ := wb_w hb
  have h1 := hI.z (nI 0)
  have hc : M.1 50177 12 = nI (w 12) := hI.1.n (by decide) rfl
  refine sC (by decide) rfl (go_in (e220_0 (k138 h1.1 hb (i32_n (by omega)) ⟨by omega, by omega⟩ (e220_11 (k130 (e220_15 ⟨fun q => absurd rfl q, fun _ => ?_⟩))))))
  refine k131n ⟨by omega, by omega⟩ (by decide) (by decide) (by omega) ?_
  refine e220_26 ⟨fun q => absurd q (by decide), fun _ => ?_⟩
  refine k131n ⟨by omega, by omega⟩ (by decide) (by decide) (by omega) ?_
  refine e220_35 ⟨fun _ => go_in (e220_42 (go_in (e220_43 (k130 ?_)))), fun q => absurd q (by decide)⟩
  refine e220_47 ⟨fun _ => go_in (e220_52 ⟨nI_in2 (by decide) (by decide), ?_⟩), fun q => absurd rfl q⟩
  rw [nI_c (by decide), sI_k _ _ (by decide), hc, nI_q (by omega) (by decide)]
  refine ⟨fun _ => go_in (e220_66 ?_), fun q => absurd q (by omega)⟩
  have hN : RI (bkW w a b c) ta (sI (sI (sI (sI (sI M 768 0 (nI 0)) 50177 (57 + 3 * w 12) (iz a)) 50177 (58 + 3 * w 12) (iz b)) 50177 (59 + 3 * w 12) (iz c)) 50177 12 (nI (w 12 + 1))) := (RI_c (RI_c (RI_c (RI_c h1 (i := 57 + 3 * w 12) (by omega) (by omega) (v := a) (by rw [wz_no (shf_no (by omega))])) (i := 58 + 3 * w 12) (by omega) (by omega) (v := b) (by rw [wz_no (shf_no (by omega))])) (i := 59 + 3 * w 12) (by omega) (by omega) (v := c) (by rw [wz_no (shf_no (by omega))])) (i := 12) (by decide) (by decide) (v := w 12 + 1) (iz_n _))
  simp (disch := omega) only [sI_k, sI_j, sI_e, hc, nI_mul, nI_add, nI_c, nI_sub, Nat.add_sub_cancel, show 57 + 3 * w 12 + 1 = 58 + 3 * w 12 from by omega, show 57 + 3 * w 12 + 2 = 59 + 3 * w 12 from by omega]
  exact ⟨nI_in2 (by decide) (by decide), nI_in2 (by omega) (by decide), nI_in2 (by omega) (by decide), nI_in2 (by omega) (by decide), nI_in2 (by decide) (by decide), nI_in2 (by decide) (by decide), nI_in2 (by decide) (by decide), rfl, rfl, hN, (((((Fr.rf.sI rfl).sI rfl).sI rfl).sI rfl).sI rfl), rfl⟩
theorem c220v (hI : RI w ta M) (hb : WB w) {a b c : Nat} (h : a ≤ 99 ∧ b < w 8 ∧ c ≤ 3) (h12 : ¬ w 12 < 6) : SC (d + 3) 220 [.ref 768, .int (iz a), .int (iz b), .int (iz c)] M (fun vs N => vs = [.int (iz (-1))] ∧ Fr a7 M N ∧ N.1 768 0 = nI 0) := by
  obtain ⟨w0, w8, w9⟩ := wb_w hb
  have w12 : w 12 ≤ 6 := hb.2.2.2.1.2.2.2.2.1
  have h1 := hI.z (nI 0)
  have hc : M.1 50177 12 = nI (w 12) := hI.1.n (by decide) rfl
  refine sC (by decide) rfl (go_in (e220_0 (k138 h1.1 hb (i32_n (by omega)) ⟨by omega, by omega⟩ (e220_11 (k130 (e220_15 ⟨fun q => absurd rfl q, fun _ => ?_⟩))))))
  refine k131n ⟨by omega, by omega⟩ (by decide) (by decide) (by omega) ?_
  refine e220_26 ⟨fun q => absurd q (by decide), fun _ => ?_⟩
  refine k131n ⟨by omega, by omega⟩ (by decide) (by decide) (by omega) ?_
  refine e220_35 ⟨fun _ => go_in (e220_42 (go_in (e220_43 (k130 ?_)))), fun q => absurd q (by decide)⟩
  refine e220_47 ⟨fun _ => go_in (e220_52 ⟨nI_in2 (by decide) (by decide), ?_⟩), fun q => absurd rfl q⟩
  rw [nI_c (by decide), sI_k _ _ (by decide), hc, nI_q (by omega) (by decide)]
  exact ⟨fun q => absurd (by omega) q, fun _ => ⟨rfl, rfl, Fr.rf.sI rfl, rfl⟩⟩
theorem c220t (hI : RI w ta M) (hb : WB w) {a b c : Int} (ha : i32 a) (hb2 : i32 b) (hc : i32 c) (h : ¬ (0 ≤ b ∧ b < w 8)) : SC (d + 3) 220 [.ref 768, .int (iz a), .int (iz b), .int (iz c)] M (fun vs N => vs = [.int (nI 0)] ∧ Fr a7 M N ∧ N.1 768 0 = nI 1) := by
  have h1 := hI.z (nI 0)
  exact sC (by decide) rfl (go_in (e220_0 (f138 h1.1 hb hb2 h (e220_11 (f130 (e220_15 ⟨fun _ => go_in (e220_50 ⟨rfl, rfl, (Fr.rf.sI rfl).sI rfl, rfl⟩), fun q => absurd q (by decide)⟩))))))
theorem c220u (hI : RI w ta M) (hb : WB w) {a b c : Int} (ha : i32 a) (hb2 : i32 b) (hc : i32 c) (h0 : 0 ≤ b ∧ b < w 8) (h : ¬ ((0 ≤ a ∧ a ≤ 99) ∧ (0 ≤ c ∧ c ≤ 3))) : SC (d + 3) 220 [.ref 768, .int (iz a), .int (iz b), .int (iz c)] M (fun vs N => vs = [.int (nI 0)] ∧ Fr a7 M N ∧ N.1 768 0 = nI 2) := by
  have h1 := hI.z (nI 0)
  by_cases g1 : 0 ≤ a ∧ a ≤ 99
  · by_cases g2 : 0 ≤ c ∧ c ≤ 3
    · exact absurd ⟨g1, g2⟩ h
    · refine sC (by decide) rfl (go_in (e220_0 (k138 h1.1 hb hb2 h0 (e220_11 (k130 (e220_15 ⟨fun q => absurd rfl q, fun _ => ?_⟩))))))
      refine k131n ha (by decide) (by decide) (by omega) ?_
      refine e220_26 ⟨fun q => absurd q (by decide), fun _ => ?_⟩
      refine f131n hc (by decide) (by decide) (by omega) ?_
      refine e220_35 ⟨fun q => absurd rfl q, fun _ => go_in (e220_38 (go_in (e220_43 (f130 ?_))))⟩
      exact e220_47 ⟨fun q => absurd q (by decide), fun _ => go_in (e220_50 ⟨rfl, rfl, (Fr.rf.sI rfl).sI rfl, rfl⟩)⟩
  · refine sC (by decide) rfl (go_in (e220_0 (k138 h1.1 hb hb2 h0 (e220_11 (k130 (e220_15 ⟨fun q => absurd rfl q, fun _ => ?_⟩))))))
    refine f131n ha (by decide) (by decide) (by omega) ?_
    refine e220_26 ⟨fun _ => go_in (e220_38 (go_in (e220_43 (f130 ?_)))), fun q => absurd rfl q⟩
    exact e220_47 ⟨fun q => absurd q (by decide), fun _ => go_in (e220_50 ⟨rfl, rfl, (Fr.rf.sI rfl).sI rfl, rfl⟩)⟩
theorem c145 (hI : RI w ta M) (hb : WB w) {r : Nat} (h : r < w 9) : SC (d + 2) 145 [.ref 768, .int (iz r)] M (fun vs N => vs = [.int (nI (if w 10 = r then 0 else 1))] ∧ RI (up w 10 r) ta N ∧ Fr aWld M N ∧ N.1 768 0 = nI 0) := by
  obtain ⟨w0, w8, w9⟩ := wb_w hb
  have w10 : w 10 < w 9 := hb.2.2.2.1.2.2.1
  have hc : M.1 50177 9 = nI (w 9) := hI.1.n (by decide) rfl
  have hc2 : M.1 50177 10 = nI (w 10) := hI.1.n (by decide) rfl
  have h1 := hI.z (nI 0)
  refine sC (by decide) rfl (go_in (e145_0 ⟨nI_in2 (by decide) (by decide), ?_⟩))
  rw [nI_c (by decide), sI_k _ _ (by decide), hc, iz_n (w 9), iz_n 0, iz_n 1, iz_sub]
  refine k131 (i32_n (by omega)) ⟨by decide, by decide⟩ ⟨by omega, by omega⟩ ⟨by omega, by omega⟩ (e145_20 ⟨fun _ => go_in (e145_27 (go_in (e145_28 (k130 (e145_32 ⟨fun q => absurd rfl q, fun _ => ⟨nI_in2 (by decide) (by decide), ?_⟩⟩))))), fun q => absurd q (by decide)⟩)
  rw [nI_c (by decide), sI_k _ _ (by decide), hc2, iz_n (w 10), iz_eq (i32_n (by omega)) (i32_n (by omega))]
  have hN : RI (up w 10 r) ta (sI (sI M 768 0 (nI 0)) 50177 10 (iz r)) := RI_c h1 (by decide) (by decide) rfl
  refine ⟨fun e => go_in (e145_48 ⟨nI_in2 (by decide) (by decide), Or.inr rfl, rfl, ?_, hN, (Fr.rf.sI rfl).sI rfl, rfl⟩), fun e => go_in (e145_46 ⟨Or.inl rfl, rfl, ?_, ?_, Fr.rf.sI rfl, rfl⟩)⟩
  · rw [if_neg (by omega)]
  · rw [if_pos (by omega)]
  · have e2 : up w 10 r = w := funext fun j => by
      by_cases hj : j = 10
      · subst hj
        rw [up_e]
        omega
      · rw [up_n hj]
    rw [e2]
    exact h1
theorem c145t (hI : RI w ta M) (hb : WB w) {r : Int} (hr : i32 r) (h : ¬ (0 ≤ r ∧ r < w 9)) : SC (d + 2) 145 [.ref 768, .int (iz r)] M (fun vs N => vs = [.int (nI 0)] ∧ Fr a7 M N ∧ N.1 768 0 = nI 1) := by
  obtain ⟨w0, w8, w9⟩ := wb_w hb
  have hc : M.1 50177 9 = nI (w 9) := hI.1.n (by decide) rfl
  refine sC (by decide) rfl (go_in (e145_0 ⟨nI_in2 (by decide) (by decide), ?_⟩))
  rw [nI_c (by decide), sI_k _ _ (by decide), hc, iz_n (w 9), iz_n 0, iz_n 1, iz_sub]
  exact f131 hr ⟨by decide, by decide⟩ ⟨by omega, by omega⟩ (by omega) (e145_20 ⟨fun q => absurd rfl q, fun _ => go_in (e145_28 (f130 (e145_32 ⟨fun _ => go_in (e145_46 ⟨Or.inl rfl, rfl, rfl, (Fr.rf.sI rfl).sI rfl, rfl⟩), fun q => absurd q (by decide)⟩)))⟩)
theorem up_same {i v : Nat} (h : w i = v) : up w i v = w := funext fun j => by
  by_cases hj : j = i
  · subst hj
    rw [up_e]
    omega
  · rw [up_n hj]
theorem c168 (hI : RI w ta M) (hb : WB w) {f v : Nat} (hf : f < w 8) (hv : v ≤ w 11) : SC (d + 3) 168 [.ref 768, .int (iz f), .int (iz ((v : Int) - 1))] M (fun vs N => vs = [.int (nI (if w (21 + 5 * f) = v then 0 else 1))] ∧ RI (up w (21 + 5 * f) v) ta N ∧ Fr aWld M N ∧ N.1 768 0 = nI 0) := by
  obtain ⟨w0, w8, w9⟩ := wb_w hb
  have w11 : w 11 ≤ 6 := hb.2.2.2.1.2.2.2.1
  have h1 := hI.z (nI 0)
  have hfv := hb.2.2.2.2.2.1 f hf
  have hB : M.1 50177 (21 + 5 * f) = iz ((w (21 + 5 * f) : Int) - 1) := hI.1.s (by omega) (shf_21 f (by omega))
  have hN : RI (up w (21 + 5 * f) v) ta (sI (sI M 768 0 (nI 0)) 50177 (21 + 5 * f) (iz ((v : Int) - 1))) := RI_c h1 (i := 21 + 5 * f) (by omega) (by omega) (by rw [wz_s (shf_21 f (by omega))])
  have fin : WM (d + 2) 168 (fun vs N => vs = [.int (nI (if w (21 + 5 * f) = v then 0 else 1))] ∧ RI (up w (21 + 5 * f) v) ta N ∧ Fr aWld M N ∧ N.1 768 0 = nI 0) 31 [some (.ref 768), some (.int (iz f)), some (.int (iz ((v : Int) - 1))), none] [.ref 768] (sI M 768 0 (nI 0)) := by
    refine go_in (e168_31 (go_in (e168_32 (k130 (e168_36 ⟨fun _ => go_in (e168_41 ?_), fun q => absurd rfl q⟩)))))
    rw [iz_nn f]
    simp only [nI_mul, nI_add]
    rw [show 17 + 5 * f + 4 = 21 + 5 * f by omega]
    refine ⟨nI_in2 (by omega) (by decide), ?_⟩
    rw [nI_c (by omega), sI_k _ _ (by decide), hB, iz_eq ⟨by omega, by omega⟩ ⟨by omega, by omega⟩]
    refine ⟨fun e => go_in (e168_62 ⟨nI_in2 (by omega) (by decide), Or.inr rfl, rfl, ?_⟩), fun e => ⟨Or.inl rfl, rfl, ?_, ?_, Fr.rf.sI rfl, rfl⟩⟩
    · rw [nI_c (by omega)]
      exact ⟨by rw [if_neg (by omega)], hN, (Fr.rf.sI rfl).sI rfl, rfl⟩
    · rw [if_pos (by omega)]
    · rw [up_same (by omega)]
      exact h1
  refine sC (by decide) rfl (go_in (e168_0 (k138 h1.1 hb (i32_n (by omega)) ⟨by omega, by omega⟩ (e168_11 ⟨fun q => absurd rfl q, fun _ => ?_⟩))))
  rw [nI_neg1, iz_eq ⟨by omega, by omega⟩ ⟨by decide, by decide⟩]
  exact ⟨fun e => fin, fun e => k139 h1.1 hb ⟨by omega, by omega⟩ ⟨by omega, by omega⟩ (e168_24 ⟨fun _ => fin, fun q => absurd rfl q⟩)⟩
theorem c168t (hI : RI w ta M) (hb : WB w) {f v : Int} (hf : i32 f) (hv : i32 v) (h : ¬ ((0 ≤ f ∧ f < w 8) ∧ (-1 ≤ v ∧ v < w 11))) : SC (d + 3) 168 [.ref 768, .int (iz f), .int (iz v)] M (fun vs N => vs = [.int (nI 0)] ∧ Fr a7 M N ∧ N.1 768 0 = nI 1) := by
  have w11 : w 11 ≤ 6 := hb.2.2.2.1.2.2.2.1
  have h1 := hI.z (nI 0)
  by_cases g0 : 0 ≤ f ∧ f < w 8
  · refine sC (by decide) rfl (go_in (e168_0 (k138 h1.1 hb hf g0 (e168_11 ⟨fun q => absurd rfl q, fun _ => ?_⟩))))
    rw [nI_neg1, iz_eq hv ⟨by decide, by decide⟩]
    exact ⟨fun e => absurd ⟨g0, by omega, by omega⟩ h, fun e => f139 h1.1 hb hv (by omega) (e168_24 ⟨fun q => absurd q (by decide), fun _ => go_in (e168_27 (go_in (e168_32 (f130 (e168_36 ⟨fun q => absurd q (by decide), fun _ => ⟨Or.inl rfl, rfl, rfl, (Fr.rf.sI rfl).sI rfl, rfl⟩⟩)))))⟩)⟩
  · exact sC (by decide) rfl (go_in (e168_0 (f138 h1.1 hb hf g0 (e168_11 ⟨fun _ => go_in (e168_27 (go_in (e168_32 (f130 (e168_36 ⟨fun q => absurd q (by decide), fun _ => ⟨Or.inl rfl, rfl, rfl, (Fr.rf.sI rfl).sI rfl, rfl⟩⟩))))), fun q => absurd q (by decide)⟩))))
end TH
