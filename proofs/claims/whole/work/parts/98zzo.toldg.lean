/-! The class's farm, rule, broken, force, by. -/
section TG
variable {d : Nat} {M : Mm} {w : Nat → Nat} {ta : Nat → Nat → Nat → Nat}
theorem nI_q {a b : Nat} (ha : a < 2147483648) (hb : b < 2147483648) : nI a = nI b ↔ a = b := by
  rw [iz_n, iz_n, iz_eq (i32_n ha) (i32_n hb)]
  omega
theorem c84 (hI : TI w ta M) (hb : WB w) (h8 : w 8 < 3) {a b c e : Nat} (h : a ≤ 99 ∧ b ≤ 99 ∧ c ≤ 99 ∧ e ≤ 9) : SC (d + 2) 84 [.ref 704, .int (iz a), .int (iz b), .int (iz c), .int (iz e)] M (fun vs N => vs = [.int (nI (w 8))] ∧ TI (fmW w a b c e) ta N ∧ Fr aTold M N) := by
  have hc : M.1 512 5 = nI (w 8) := (hI.tr hb).1.2.1.1
  refine sC (by decide) rfl (go_in (e84_0 (Or.inl ?_)))
  refine k120n ⟨by omega, by omega⟩ (by decide) (by decide) (by omega) ?_
  refine e84_7 (Or.inl ?_)
  refine k120n ⟨by omega, by omega⟩ (by decide) (by decide) (by omega) ?_
  refine e84_14 (Or.inl ?_)
  refine k120n ⟨by omega, by omega⟩ (by decide) (by decide) (by omega) ?_
  refine e84_21 (Or.inl ?_)
  refine k120n ⟨by omega, by omega⟩ (by decide) (by decide) (by omega) ?_
  refine e84_29 (Or.inl ?_)
  rw [hc]
  refine k121 (by omega) (by decide) h8 ?_
  refine e84_40 (useC (upC (c48 (d := d) hI hb h8) (by omega)) fun vs N q => ?_)
  obtain ⟨rfl, q1, q2⟩ := q
  exact e84_52 ⟨rfl, rfl, q1, q2⟩
theorem u84 (hI : TI w ta M) (hb : WB w) (h8 : ¬ w 8 < 3) {a b c e : Nat} (h : a ≤ 99 ∧ b ≤ 99 ∧ c ≤ 99 ∧ e ≤ 9) : ST (d + 2) 84 [.ref 704, .int (iz a), .int (iz b), .int (iz c), .int (iz e)] M (fun E N => E = 2 ∧ N = M) := by
  obtain ⟨w0, w8, w9⟩ := wb_w hb
  have hc : M.1 512 5 = nI (w 8) := (hI.tr hb).1.2.1.1
  refine sT (by decide) (by decide) (by decide +kernel) rfl (go_inE (e84_0 (Or.inl ?_)))
  refine k120n ⟨by omega, by omega⟩ (by decide) (by decide) (by omega) ?_
  refine e84_7 (Or.inl ?_)
  refine k120n ⟨by omega, by omega⟩ (by decide) (by decide) (by omega) ?_
  refine e84_14 (Or.inl ?_)
  refine k120n ⟨by omega, by omega⟩ (by decide) (by decide) (by omega) ?_
  refine e84_21 (Or.inl ?_)
  refine k120n ⟨by omega, by omega⟩ (by decide) (by decide) (by omega) ?_
  refine e84_29 (Or.inr ?_)
  show ST _ 121 _ _ _
  rw [hc]
  exact f121 (by omega) (by decide) h8
theorem t84 {a b c e : Int} (ha : i32 a) (hb : i32 b) (hc : i32 c) (he : i32 e) (h : ¬ ((0 ≤ a ∧ a ≤ 99) ∧ (0 ≤ b ∧ b ≤ 99) ∧ (0 ≤ c ∧ c ≤ 99) ∧ (0 ≤ e ∧ e ≤ 9))) : ST (d + 2) 84 [.ref 704, .int (iz a), .int (iz b), .int (iz c), .int (iz e)] M (fun E N => E = 0 ∧ N = M) := by
  by_cases g0 : 0 ≤ a ∧ a ≤ 99
  · by_cases g1 : 0 ≤ b ∧ b ≤ 99
    · by_cases g2 : 0 ≤ c ∧ c ≤ 99
      · by_cases g3 : 0 ≤ e ∧ e ≤ 9
        · exact absurd ⟨g0, g1, g2, g3⟩ h
        · refine sT (by decide) (by decide) (by decide +kernel) rfl (go_inE (e84_0 (Or.inl ?_)))
          refine k120n ha (by decide) (by decide) (by omega) ?_
          refine e84_7 (Or.inl ?_)
          refine k120n hb (by decide) (by decide) (by omega) ?_
          refine e84_14 (Or.inl ?_)
          refine k120n hc (by decide) (by decide) (by omega) ?_
          refine e84_21 (Or.inr ?_)
          show ST _ 120 _ _ _
          exact f120n he (by decide) (by decide) (by omega)
      · refine sT (by decide) (by decide) (by decide +kernel) rfl (go_inE (e84_0 (Or.inl ?_)))
        refine k120n ha (by decide) (by decide) (by omega) ?_
        refine e84_7 (Or.inl ?_)
        refine k120n hb (by decide) (by decide) (by omega) ?_
        refine e84_14 (Or.inr ?_)
        show ST _ 120 _ _ _
        exact f120n hc (by decide) (by decide) (by omega)
    · refine sT (by decide) (by decide) (by decide +kernel) rfl (go_inE (e84_0 (Or.inl ?_)))
      refine k120n ha (by decide) (by decide) (by omega) ?_
      refine e84_7 (Or.inr ?_)
      show ST _ 120 _ _ _
      exact f120n hb (by decide) (by decide) (by omega)
  · refine sT (by decide) (by decide) (by decide +kernel) rfl (go_inE (e84_0 (Or.inr ?_)))
    show ST _ 120 _ _ _
    exact f120n ha (by decide) (by decide) (by omega)
theorem c85 (hI : TI w ta M) (hb : WB w) (h8 : w 9 < 5) {a b c e f : Nat} (h : a ≤ 9 ∧ b ≤ 7 ∧ c ≤ 3 ∧ e ≤ 99 ∧ f ≤ 4) : SC (d + 2) 85 [.ref 704, .int (iz a), .int (iz b), .int (iz c), .int (iz e), .int (iz f)] M (fun vs N => vs = [.int (nI (w 9))] ∧ TI (ruW w a b c e f) ta N ∧ Fr aTold M N) := by
  have hc : M.1 512 9 = nI (w 9) := (hI.tr hb).1.2.1.2.1
  refine sC (by decide) rfl (go_in (e85_0 (Or.inl ?_)))
  refine k120n ⟨by omega, by omega⟩ (by decide) (by decide) (by omega) ?_
  refine e85_7 (Or.inl ?_)
  refine k120n ⟨by omega, by omega⟩ (by decide) (by decide) (by omega) ?_
  refine e85_14 (Or.inl ?_)
  refine k120n ⟨by omega, by omega⟩ (by decide) (by decide) (by omega) ?_
  refine e85_20 (Or.inl ?_)
  refine k120n ⟨by omega, by omega⟩ (by decide) (by decide) (by omega) ?_
  refine e85_28 (Or.inl ?_)
  refine k120n ⟨by omega, by omega⟩ (by decide) (by decide) (by omega) ?_
  refine e85_35 (Or.inl ?_)
  rw [hc]
  refine k121 (by omega) (by decide) h8 ?_
  refine e85_46 (useC (upC (c49 (d := d) hI hb h8) (by omega)) fun vs N q => ?_)
  obtain ⟨rfl, q1, q2⟩ := q
  exact e85_60 ⟨rfl, rfl, q1, q2⟩
theorem u85 (hI : TI w ta M) (hb : WB w) (h8 : ¬ w 9 < 5) {a b c e f : Nat} (h : a ≤ 9 ∧ b ≤ 7 ∧ c ≤ 3 ∧ e ≤ 99 ∧ f ≤ 4) : ST (d + 2) 85 [.ref 704, .int (iz a), .int (iz b), .int (iz c), .int (iz e), .int (iz f)] M (fun E N => E = 2 ∧ N = M) := by
  obtain ⟨w0, w8, w9⟩ := wb_w hb
  have hc : M.1 512 9 = nI (w 9) := (hI.tr hb).1.2.1.2.1
  refine sT (by decide) (by decide) (by decide +kernel) rfl (go_inE (e85_0 (Or.inl ?_)))
  refine k120n ⟨by omega, by omega⟩ (by decide) (by decide) (by omega) ?_
  refine e85_7 (Or.inl ?_)
  refine k120n ⟨by omega, by omega⟩ (by decide) (by decide) (by omega) ?_
  refine e85_14 (Or.inl ?_)
  refine k120n ⟨by omega, by omega⟩ (by decide) (by decide) (by omega) ?_
  refine e85_20 (Or.inl ?_)
  refine k120n ⟨by omega, by omega⟩ (by decide) (by decide) (by omega) ?_
  refine e85_28 (Or.inl ?_)
  refine k120n ⟨by omega, by omega⟩ (by decide) (by decide) (by omega) ?_
  refine e85_35 (Or.inr ?_)
  show ST _ 121 _ _ _
  rw [hc]
  exact f121 (by omega) (by decide) h8
theorem t85 {a b c e f : Int} (ha : i32 a) (hb : i32 b) (hc : i32 c) (he : i32 e) (hf : i32 f) (h : ¬ ((0 ≤ a ∧ a ≤ 9) ∧ (0 ≤ b ∧ b ≤ 7) ∧ (0 ≤ c ∧ c ≤ 3) ∧ (0 ≤ e ∧ e ≤ 99) ∧ (0 ≤ f ∧ f ≤ 4))) : ST (d + 2) 85 [.ref 704, .int (iz a), .int (iz b), .int (iz c), .int (iz e), .int (iz f)] M (fun E N => E = 0 ∧ N = M) := by
  by_cases g0 : 0 ≤ a ∧ a ≤ 9
  · by_cases g1 : 0 ≤ b ∧ b ≤ 7
    · by_cases g2 : 0 ≤ c ∧ c ≤ 3
      · by_cases g3 : 0 ≤ e ∧ e ≤ 99
        · by_cases g4 : 0 ≤ f ∧ f ≤ 4
          · exact absurd ⟨g0, g1, g2, g3, g4⟩ h
          · refine sT (by decide) (by decide) (by decide +kernel) rfl (go_inE (e85_0 (Or.inl ?_)))
            refine k120n ha (by decide) (by decide) (by omega) ?_
            refine e85_7 (Or.inl ?_)
            refine k120n hb (by decide) (by decide) (by omega) ?_
            refine e85_14 (Or.inl ?_)
            refine k120n hc (by decide) (by decide) (by omega) ?_
            refine e85_20 (Or.inl ?_)
            refine k120n he (by decide) (by decide) (by omega) ?_
            refine e85_28 (Or.inr ?_)
            show ST _ 120 _ _ _
            exact f120n hf (by decide) (by decide) (by omega)
        · refine sT (by decide) (by decide) (by decide +kernel) rfl (go_inE (e85_0 (Or.inl ?_)))
          refine k120n ha (by decide) (by decide) (by omega) ?_
          refine e85_7 (Or.inl ?_)
          refine k120n hb (by decide) (by decide) (by omega) ?_
          refine e85_14 (Or.inl ?_)
          refine k120n hc (by decide) (by decide) (by omega) ?_
          refine e85_20 (Or.inr ?_)
          show ST _ 120 _ _ _
          exact f120n he (by decide) (by decide) (by omega)
      · refine sT (by decide) (by decide) (by decide +kernel) rfl (go_inE (e85_0 (Or.inl ?_)))
        refine k120n ha (by decide) (by decide) (by omega) ?_
        refine e85_7 (Or.inl ?_)
        refine k120n hb (by decide) (by decide) (by omega) ?_
        refine e85_14 (Or.inr ?_)
        show ST _ 120 _ _ _
        exact f120n hc (by decide) (by decide) (by omega)
    · refine sT (by decide) (by decide) (by decide +kernel) rfl (go_inE (e85_0 (Or.inl ?_)))
      refine k120n ha (by decide) (by decide) (by omega) ?_
      refine e85_7 (Or.inr ?_)
      show ST _ 120 _ _ _
      exact f120n hb (by decide) (by decide) (by omega)
  · refine sT (by decide) (by decide) (by decide +kernel) rfl (go_inE (e85_0 (Or.inr ?_)))
    show ST _ 120 _ _ _
    exact f120n ha (by decide) (by decide) (by omega)
theorem c90 (hI : TI w ta M) (hb : WB w) {a b c : Nat} (h : a ≤ 99 ∧ b < w 8 ∧ c ≤ 3) (h12 : w 12 < 6) : SC (d + 3) 90 [.ref 704, .int (iz a), .int (iz b), .int (iz c)] M (fun vs N => vs = [.int (nI (w 12 + 1))] ∧ TI (bkW w a b c) ta N ∧ Fr aTold M N) := by
  obtain ⟨w0, w8, w9⟩ := wb_w hb
  refine sC (by decide) rfl (go_in (e90_0 (Or.inl ?_)))
  refine k117 (hI.tr hb) hb ⟨by omega, by omega⟩ (by omega) ?_
  refine e90_5 (Or.inl ?_)
  refine k120n ⟨by omega, by omega⟩ (by decide) (by decide) (by omega) ?_
  refine e90_12 (Or.inl ?_)
  refine k120n ⟨by omega, by omega⟩ (by decide) (by decide) (by omega) ?_
  refine e90_18 ?_
  rw [(hI.tr hb).1.2.2.2.1]
  refine br_t ((nI_ltI (by omega) (by decide)).mpr h12) (go_in (e90_32 (useC (upC (c51 (d := d) hI hb h12) (by omega)) fun vs N q => ?_)))
  obtain ⟨rfl, q1, q2⟩ := q
  exact e90_42 ⟨rfl, rfl, q1, q2⟩
theorem v90 (hI : TI w ta M) (hb : WB w) {a b c : Nat} (h : a ≤ 99 ∧ b < w 8 ∧ c ≤ 3) (h12 : ¬ w 12 < 6) : SC (d + 3) 90 [.ref 704, .int (iz a), .int (iz b), .int (iz c)] M (fun vs N => vs = [.int (iz (-1))] ∧ N = M) := by
  obtain ⟨w0, w8, w9⟩ := wb_w hb
  have w12 : w 12 ≤ 6 := hb.2.2.2.1.2.2.2.2.1
  refine sC (by decide) rfl (go_in (e90_0 (Or.inl ?_)))
  refine k117 (hI.tr hb) hb ⟨by omega, by omega⟩ (by omega) ?_
  refine e90_5 (Or.inl ?_)
  refine k120n ⟨by omega, by omega⟩ (by decide) (by decide) (by omega) ?_
  refine e90_12 (Or.inl ?_)
  refine k120n ⟨by omega, by omega⟩ (by decide) (by decide) (by omega) ?_
  refine e90_18 ?_
  rw [(hI.tr hb).1.2.2.2.1]
  exact ⟨fun q => absurd ((nI_ltI (by omega) (by decide)).mp q) h12, fun _ => ⟨rfl, rfl, rfl⟩⟩
theorem t90 (hI : TI w ta M) (hb : WB w) {a b c : Int} (ha : i32 a) (hb2 : i32 b) (hc : i32 c) (h : ¬ (0 ≤ b ∧ b < w 8)) : ST (d + 3) 90 [.ref 704, .int (iz a), .int (iz b), .int (iz c)] M (fun E N => E = 1 ∧ N = M) := by
  refine sT (by decide) (by decide) (by decide +kernel) rfl (go_inE (e90_0 (Or.inr ?_)))
  show ST _ 117 _ _ _
  exact f117 (hI.tr hb) hb hb2 (by omega)
theorem u90 (hI : TI w ta M) (hb : WB w) {a b c : Int} (ha : i32 a) (hb2 : i32 b) (hc : i32 c) (h0 : 0 ≤ b ∧ b < w 8) (h : ¬ ((0 ≤ a ∧ a ≤ 99) ∧ (0 ≤ c ∧ c ≤ 3))) : ST (d + 3) 90 [.ref 704, .int (iz a), .int (iz b), .int (iz c)] M (fun E N => E = 0 ∧ N = M) := by
  by_cases g1 : 0 ≤ a ∧ a ≤ 99
  · by_cases g2 : 0 ≤ c ∧ c ≤ 3
    · exact absurd ⟨g1, g2⟩ h
    · refine sT (by decide) (by decide) (by decide +kernel) rfl (go_inE (e90_0 (Or.inl ?_)))
      refine k117 (hI.tr hb) hb hb2 (by omega) ?_
      refine e90_5 (Or.inl ?_)
      refine k120n ha (by decide) (by decide) (by omega) ?_
      refine e90_12 (Or.inr ?_)
      show ST _ 120 _ _ _
      exact f120n hc (by decide) (by decide) (by omega)
  · refine sT (by decide) (by decide) (by decide +kernel) rfl (go_inE (e90_0 (Or.inl ?_)))
    refine k117 (hI.tr hb) hb hb2 (by omega) ?_
    refine e90_5 (Or.inr ?_)
    show ST _ 120 _ _ _
    exact f120n ha (by decide) (by decide) (by omega)
theorem c86 (hI : TI w ta M) (hb : WB w) {r : Nat} (h : r < w 9) : SC (d + 2) 86 [.ref 704, .int (iz r)] M (fun vs N => vs = [.int (nI (if w 10 = r then 0 else 1))] ∧ TI (up w 10 r) ta N ∧ Fr aTold M N) := by
  obtain ⟨w0, w8, w9⟩ := wb_w hb
  have w10 : w 10 < w 9 := hb.2.2.2.1.2.2.1
  have hc : M.1 512 9 = nI (w 9) := (hI.tr hb).1.2.1.2.1
  have hc2 : M.1 512 10 = nI (w 10) := (hI.tr hb).1.2.1.2.2
  refine sC (by decide) rfl (go_in (e86_0 (Or.inl ?_)))
  rw [hc, iz_n (w 9)]
  refine k119 (i32_n (by omega)) (i32_n (by omega)) ⟨by omega, by omega⟩ (e86_11 ?_)
  rw [hc2, iz_n (w 10), iz_eq (i32_n (by omega)) (i32_n (by omega))]
  refine ⟨fun e => go_in (e86_26 (go_in (e86_27 ⟨Or.inl rfl, rfl, ?_, TI_c hI (i := 10) (by decide) (by decide) rfl rfl, Fr.rf.sI rfl⟩))), fun e => go_in (e86_27 ⟨Or.inr rfl, rfl, ?_, TI_c hI (i := 10) (by decide) (by decide) rfl rfl, Fr.rf.sI rfl⟩)⟩
  · rw [if_pos (by omega)]
  · rw [if_neg (by omega)]
theorem t86 (hI : TI w ta M) (hb : WB w) {r : Int} (hr : i32 r) (h : ¬ (0 ≤ r ∧ r < w 9)) : ST (d + 2) 86 [.ref 704, .int (iz r)] M (fun E N => E = 1 ∧ N = M) := by
  obtain ⟨w0, w8, w9⟩ := wb_w hb
  have hc : M.1 512 9 = nI (w 9) := (hI.tr hb).1.2.1.2.1
  refine sT (by decide) (by decide) (by decide +kernel) rfl (go_inE (e86_0 (Or.inr ?_)))
  show ST _ 119 _ _ _
  rw [hc, iz_n (w 9)]
  exact f119 hr (i32_n (by omega)) h
theorem c89 (hI : TI w ta M) (hb : WB w) {f v : Nat} (hf : f < w 8) (hv : v ≤ w 11) : SC (d + 3) 89 [.ref 704, .int (iz f), .int (iz ((v : Int) - 1))] M (fun vs N => vs = [.int (nI (if w (21 + 5 * f) = v then 0 else 1))] ∧ TI (up w (21 + 5 * f) v) ta N ∧ Fr aTold M N) := by
  obtain ⟨w0, w8, w9⟩ := wb_w hb
  have w11 : w 11 ≤ 6 := hb.2.2.2.1.2.2.2.1
  have hc : M.1 512 12 = nI (w 11) := (hI.tr hb).1.2.2.1
  have hfv := hb.2.2.2.2.2.1 f hf
  have hB : M.1 33800 f = iz ((w (21 + 5 * f) : Int) - 1) := ((hI.tr hb).2.2.2.1 f hf).2
  have hp := (pl_20 f (by omega)).2
  have hN : TI (up w (21 + 5 * f) v) ta (sI M 33800 f (iz ((v : Int) - 1))) := TI_c hI (i := 21 + 5 * f) (by omega) ⟨by omega, by omega, by omega, by omega, by omega⟩ hp (by rw [wz_s (shf_21 f (by omega))])
  refine sC (by decide) rfl (go_in (e89_0 (Or.inl (k117 (hI.tr hb) hb (i32_n (by omega)) ⟨by omega, by omega⟩ (e89_5 ?_)))))
  rw [nI_neg1, iz_eq ⟨by omega, by omega⟩ ⟨by decide, by decide⟩, hc, iz_nn f, iz_n (w 11)]
  refine ⟨fun e => go_in (e89_21 ⟨nI_in2 (by omega) (by decide), ?_⟩), fun e => Or.inl (k119 ⟨by omega, by omega⟩ (i32_n (by omega)) ⟨by omega, by omega⟩ (e89_21 ⟨nI_in2 (by omega) (by decide), ?_⟩))⟩
  · rw [nI_c (by omega), hB, iz_eq ⟨by omega, by omega⟩ ⟨by omega, by omega⟩]
    refine ⟨fun e => go_in (e89_38 (go_in (e89_39 ⟨nI_in2 (by omega) (by decide), Or.inl rfl, rfl, ?_, ?_⟩))), fun e => go_in (e89_39 ⟨nI_in2 (by omega) (by decide), Or.inr rfl, rfl, ?_, ?_⟩)⟩
    · rw [if_pos (by omega)]
    · rw [nI_c (by omega)]
      exact ⟨hN, Fr.rf.sI rfl⟩
    · rw [if_neg (by omega)]
    · rw [nI_c (by omega)]
      exact ⟨hN, Fr.rf.sI rfl⟩
  · rw [nI_c (by omega), hB, iz_eq ⟨by omega, by omega⟩ ⟨by omega, by omega⟩]
    refine ⟨fun e => go_in (e89_38 (go_in (e89_39 ⟨nI_in2 (by omega) (by decide), Or.inl rfl, rfl, ?_, ?_⟩))), fun e => go_in (e89_39 ⟨nI_in2 (by omega) (by decide), Or.inr rfl, rfl, ?_, ?_⟩)⟩
    · rw [if_pos (by omega)]
    · rw [nI_c (by omega)]
      exact ⟨hN, Fr.rf.sI rfl⟩
    · rw [if_neg (by omega)]
    · rw [nI_c (by omega)]
      exact ⟨hN, Fr.rf.sI rfl⟩
theorem t89 (hI : TI w ta M) (hb : WB w) {f v : Int} (hf : i32 f) (hv : i32 v) (h : ¬ ((0 ≤ f ∧ f < w 8) ∧ (-1 ≤ v ∧ v < w 11))) : ST (d + 3) 89 [.ref 704, .int (iz f), .int (iz v)] M (fun E N => E = 1 ∧ N = M) := by
  obtain ⟨w0, w8, w9⟩ := wb_w hb
  have w11 : w 11 ≤ 6 := hb.2.2.2.1.2.2.2.1
  have hc : M.1 512 12 = nI (w 11) := (hI.tr hb).1.2.2.1
  by_cases g0 : 0 ≤ f ∧ f < w 8
  · refine sT (by decide) (by decide) (by decide +kernel) rfl (go_inE (e89_0 (Or.inl (k117 (hI.tr hb) hb hf g0 (e89_5 ?_)))))
    rw [nI_neg1, iz_eq hv ⟨by decide, by decide⟩, hc, iz_n (w 11)]
    refine ⟨fun e => absurd ⟨g0, by omega, by omega⟩ h, fun e => Or.inr ?_⟩
    show ST _ 119 _ _ _
    exact upT (f119 (d := d) hv (i32_n (by omega)) (by omega)) (by omega)
  · refine sT (by decide) (by decide) (by decide +kernel) rfl (go_inE (e89_0 (Or.inr ?_)))
    show ST _ 117 _ _ _
    exact f117 (hI.tr hb) hb hf g0
end TG
