/-! The reference is told of well, rain, years, beside. -/
section TR1
variable {d : Nat} {M : Mm} {w : Nat → Nat} {ta : Nat → Nat → Nat → Nat}
theorem c140 (hI : RI w ta M) {a b : Nat} (h : 1 ≤ a ∧ a ≤ 7) (h2 : b ≤ 8) : SC (d + 2) 140 [.ref 768, .int (iz (a : Int)), .int (iz ((b : Int) - 1))] M (fun vs N => vs = [] ∧ RI (up (up w 0 a) 1 b) ta N ∧ Fr aWld M N ∧ N.1 768 0 = nI 0) := by
  refine sC (by decide) rfl (go_in (e140_0 ?_))
  refine k131n ⟨by omega, by omega⟩ (by decide) (by decide) (by omega) ?_
  refine e140_13 ⟨fun q => absurd q (by decide), fun _ => ?_⟩
  refine k131m ⟨by omega, by omega⟩ (by decide) (by omega) ?_
  refine e140_23 ⟨fun _ => go_in (e140_30 (go_in (e140_31 (k130 ?_)))), fun q => absurd q (by decide)⟩
  refine e140_35 ⟨fun _ => go_in ?_, fun q => absurd rfl q⟩
  exact e140_39 ⟨nI_in2 (by decide) (by decide), nI_in2 (by decide) (by decide), rfl, rfl, RI_c (RI_c (hI.z _) (i := 0) (by decide) (by decide) (v := a) rfl) (i := 1) (by decide) (by decide) rfl, ((Fr.rf.sI rfl).sI rfl).sI rfl, rfl⟩
theorem c140t {a b : Int} (ha : i32 a) (hb : i32 b) (h : ¬ ((1 ≤ a ∧ a ≤ 7) ∧ (-1 ≤ b ∧ b ≤ 7))) : SC (d + 2) 140 [.ref 768, .int (iz a), .int (iz b)] M (fun vs N => vs = [] ∧ Fr a7 M N ∧ N.1 768 0 = nI 1) := by
  by_cases g0 : 1 ≤ a ∧ a ≤ 7
  · by_cases g1 : -1 ≤ b ∧ b ≤ 7
    · exact absurd ⟨g0, g1⟩ h
    · refine sC (by decide) rfl (go_in (e140_0 ?_))
      refine k131n ha (by decide) (by decide) (by omega) ?_
      refine e140_13 ⟨fun q => absurd q (by decide), fun _ => ?_⟩
      refine f131m hb (by decide) (by omega) ?_
      refine e140_23 ⟨fun q => absurd rfl q, fun _ => go_in (e140_26 (go_in (e140_31 (f130 ?_))))⟩
      exact e140_35 ⟨fun q => absurd q (by decide), fun _ => ⟨rfl, rfl, (Fr.rf.sI rfl).sI rfl, rfl⟩⟩
  · refine sC (by decide) rfl (go_in (e140_0 ?_))
    refine f131n ha (by decide) (by decide) (by omega) ?_
    refine e140_13 ⟨fun _ => go_in (e140_26 (go_in (e140_31 (f130 ?_)))), fun q => absurd rfl q⟩
    exact e140_35 ⟨fun q => absurd q (by decide), fun _ => ⟨rfl, rfl, (Fr.rf.sI rfl).sI rfl, rfl⟩⟩
theorem c141 (hI : RI w ta M) {a b c e : Nat} (h : a ≤ 4 ∧ b ≤ 4 ∧ c ≤ 4 ∧ e ≤ 4) (h2 : 1 ≤ a + b + c + e ∧ a + b + c + e ≤ 4) : SC (d + 2) 141 [.ref 768, .int (iz (a : Int)), .int (iz (b : Int)), .int (iz (c : Int)), .int (iz (e : Int))] M (fun vs N => vs = [] ∧ RI (up (up (up (up w 2 a) 3 b) 4 c) 5 e) ta N ∧ Fr aWld M N ∧ N.1 768 0 = nI 0) := by
  refine sC (by decide) rfl (go_in (e141_0 ?_))
  refine k131n ⟨by omega, by omega⟩ (by decide) (by decide) (by omega) ?_
  refine e141_12 ⟨fun q => absurd q (by decide), fun _ => ?_⟩
  refine k131n ⟨by omega, by omega⟩ (by decide) (by decide) (by omega) ?_
  refine e141_21 ⟨fun q => absurd q (by decide), fun _ => ?_⟩
  refine k131n ⟨by omega, by omega⟩ (by decide) (by decide) (by omega) ?_
  refine e141_30 ⟨fun q => absurd q (by decide), fun _ => ?_⟩
  refine k131n ⟨by omega, by omega⟩ (by decide) (by decide) (by omega) ?_
  refine e141_40 ⟨fun q => absurd q (by decide), fun _ => ?_⟩
  rw [iz_add, iz_add, iz_add]
  refine k131n ⟨by omega, by omega⟩ (by decide) (by decide) (by omega) ?_
  refine e141_56 ⟨fun _ => go_in (e141_63 (go_in (e141_64 (k130 ?_)))), fun q => absurd q (by decide)⟩
  refine e141_68 ⟨fun _ => go_in ?_, fun q => absurd rfl q⟩
  exact e141_72 ⟨nI_in2 (by decide) (by decide), nI_in2 (by decide) (by decide), nI_in2 (by decide) (by decide), nI_in2 (by decide) (by decide), rfl, rfl, RI_c (RI_c (RI_c (RI_c (hI.z _) (i := 2) (by decide) (by decide) (v := a) rfl) (i := 3) (by decide) (by decide) (v := b) rfl) (i := 4) (by decide) (by decide) (v := c) rfl) (i := 5) (by decide) (by decide) rfl, ((((Fr.rf.sI rfl).sI rfl).sI rfl).sI rfl).sI rfl, rfl⟩
theorem c141t {a b c e : Int} (ha : i32 a) (hb : i32 b) (hc : i32 c) (he : i32 e) (h : ¬ ((0 ≤ a ∧ a ≤ 4) ∧ (0 ≤ b ∧ b ≤ 4) ∧ (0 ≤ c ∧ c ≤ 4) ∧ (0 ≤ e ∧ e ≤ 4) ∧ (1 ≤ a + b + c + e ∧ a + b + c + e ≤ 4))) : SC (d + 2) 141 [.ref 768, .int (iz a), .int (iz b), .int (iz c), .int (iz e)] M (fun vs N => vs = [] ∧ Fr a7 M N ∧ N.1 768 0 = nI 1) := by
  by_cases g0 : 0 ≤ a ∧ a ≤ 4
  · by_cases g1 : 0 ≤ b ∧ b ≤ 4
    · by_cases g2 : 0 ≤ c ∧ c ≤ 4
      · by_cases g3 : 0 ≤ e ∧ e ≤ 4
        · by_cases g4 : 1 ≤ a + b + c + e ∧ a + b + c + e ≤ 4
          · exact absurd ⟨g0, g1, g2, g3, g4⟩ h
          · refine sC (by decide) rfl (go_in (e141_0 ?_))
            refine k131n ha (by decide) (by decide) (by omega) ?_
            refine e141_12 ⟨fun q => absurd q (by decide), fun _ => ?_⟩
            refine k131n hb (by decide) (by decide) (by omega) ?_
            refine e141_21 ⟨fun q => absurd q (by decide), fun _ => ?_⟩
            refine k131n hc (by decide) (by decide) (by omega) ?_
            refine e141_30 ⟨fun q => absurd q (by decide), fun _ => ?_⟩
            refine k131n he (by decide) (by decide) (by omega) ?_
            refine e141_40 ⟨fun q => absurd q (by decide), fun _ => ?_⟩
            rw [iz_add, iz_add, iz_add]
            refine f131n ⟨by omega, by omega⟩ (by decide) (by decide) (by omega) ?_
            refine e141_56 ⟨fun q => absurd rfl q, fun _ => go_in (e141_59 (go_in (e141_64 (f130 ?_))))⟩
            exact e141_68 ⟨fun q => absurd q (by decide), fun _ => ⟨rfl, rfl, (Fr.rf.sI rfl).sI rfl, rfl⟩⟩
        · refine sC (by decide) rfl (go_in (e141_0 ?_))
          refine k131n ha (by decide) (by decide) (by omega) ?_
          refine e141_12 ⟨fun q => absurd q (by decide), fun _ => ?_⟩
          refine k131n hb (by decide) (by decide) (by omega) ?_
          refine e141_21 ⟨fun q => absurd q (by decide), fun _ => ?_⟩
          refine k131n hc (by decide) (by decide) (by omega) ?_
          refine e141_30 ⟨fun q => absurd q (by decide), fun _ => ?_⟩
          refine f131n he (by decide) (by decide) (by omega) ?_
          refine e141_40 ⟨fun _ => go_in (e141_59 (go_in (e141_64 (f130 ?_)))), fun q => absurd rfl q⟩
          exact e141_68 ⟨fun q => absurd q (by decide), fun _ => ⟨rfl, rfl, (Fr.rf.sI rfl).sI rfl, rfl⟩⟩
      · refine sC (by decide) rfl (go_in (e141_0 ?_))
        refine k131n ha (by decide) (by decide) (by omega) ?_
        refine e141_12 ⟨fun q => absurd q (by decide), fun _ => ?_⟩
        refine k131n hb (by decide) (by decide) (by omega) ?_
        refine e141_21 ⟨fun q => absurd q (by decide), fun _ => ?_⟩
        refine f131n hc (by decide) (by decide) (by omega) ?_
        refine e141_30 ⟨fun _ => go_in (e141_59 (go_in (e141_64 (f130 ?_)))), fun q => absurd rfl q⟩
        exact e141_68 ⟨fun q => absurd q (by decide), fun _ => ⟨rfl, rfl, (Fr.rf.sI rfl).sI rfl, rfl⟩⟩
    · refine sC (by decide) rfl (go_in (e141_0 ?_))
      refine k131n ha (by decide) (by decide) (by omega) ?_
      refine e141_12 ⟨fun q => absurd q (by decide), fun _ => ?_⟩
      refine f131n hb (by decide) (by decide) (by omega) ?_
      refine e141_21 ⟨fun _ => go_in (e141_59 (go_in (e141_64 (f130 ?_)))), fun q => absurd rfl q⟩
      exact e141_68 ⟨fun q => absurd q (by decide), fun _ => ⟨rfl, rfl, (Fr.rf.sI rfl).sI rfl, rfl⟩⟩
  · refine sC (by decide) rfl (go_in (e141_0 ?_))
    refine f131n ha (by decide) (by decide) (by omega) ?_
    refine e141_12 ⟨fun _ => go_in (e141_59 (go_in (e141_64 (f130 ?_)))), fun q => absurd rfl q⟩
    exact e141_68 ⟨fun q => absurd q (by decide), fun _ => ⟨rfl, rfl, (Fr.rf.sI rfl).sI rfl, rfl⟩⟩
theorem c142 (hI : RI w ta M) {a b : Nat} (h : 1 ≤ a ∧ a < b ∧ b ≤ 5) : SC (d + 2) 142 [.ref 768, .int (iz (a : Int)), .int (iz (b : Int))] M (fun vs N => vs = [] ∧ RI (up (up w 6 a) 7 b) ta N ∧ Fr aWld M N ∧ N.1 768 0 = nI 0) := by
  refine sC (by decide) rfl (go_in (e142_0 ?_))
  refine k131n ⟨by omega, by omega⟩ (by decide) (by decide) (by omega) ?_
  refine e142_12 ⟨fun q => absurd q (by decide), fun _ => ?_⟩
  rw [iz_n 1, iz_sub]
  refine k131 ⟨by omega, by omega⟩ ⟨by decide, by decide⟩ ⟨by omega, by omega⟩ (by omega) ?_
  refine e142_23 ⟨fun _ => go_in (e142_30 (go_in (e142_31 (k130 ?_)))), fun q => absurd q (by decide)⟩
  refine e142_35 ⟨fun _ => go_in ?_, fun q => absurd rfl q⟩
  exact e142_39 ⟨nI_in2 (by decide) (by decide), nI_in2 (by decide) (by decide), rfl, rfl, RI_c (RI_c (hI.z _) (i := 6) (by decide) (by decide) (v := a) rfl) (i := 7) (by decide) (by decide) rfl, ((Fr.rf.sI rfl).sI rfl).sI rfl, rfl⟩
theorem c142t {a b : Int} (ha : i32 a) (hb : i32 b) (h : ¬ ((2 ≤ b ∧ b ≤ 5) ∧ (1 ≤ a ∧ a ≤ b - 1))) : SC (d + 2) 142 [.ref 768, .int (iz a), .int (iz b)] M (fun vs N => vs = [] ∧ Fr a7 M N ∧ N.1 768 0 = nI 1) := by
  by_cases g0 : 2 ≤ b ∧ b ≤ 5
  · by_cases g1 : 1 ≤ a ∧ a ≤ b - 1
    · exact absurd ⟨g0, g1⟩ h
    · refine sC (by decide) rfl (go_in (e142_0 ?_))
      refine k131n hb (by decide) (by decide) (by omega) ?_
      refine e142_12 ⟨fun q => absurd q (by decide), fun _ => ?_⟩
      rw [iz_n 1, iz_sub]
      refine f131 ha ⟨by decide, by decide⟩ ⟨by omega, by omega⟩ (by omega) ?_
      refine e142_23 ⟨fun q => absurd rfl q, fun _ => go_in (e142_26 (go_in (e142_31 (f130 ?_))))⟩
      exact e142_35 ⟨fun q => absurd q (by decide), fun _ => ⟨rfl, rfl, (Fr.rf.sI rfl).sI rfl, rfl⟩⟩
  · refine sC (by decide) rfl (go_in (e142_0 ?_))
    refine f131n hb (by decide) (by decide) (by omega) ?_
    refine e142_12 ⟨fun _ => go_in (e142_26 (go_in (e142_31 (f130 ?_)))), fun q => absurd rfl q⟩
    exact e142_35 ⟨fun q => absurd q (by decide), fun _ => ⟨rfl, rfl, (Fr.rf.sI rfl).sI rfl, rfl⟩⟩
theorem c219 (hI : RI w ta M) {a b c : Nat} (h : 1 ≤ a ∧ a ≤ 7) (h2 : b ≤ a) (h3 : c ≤ 3) : SC (d + 2) 219 [.ref 768, .int (iz (a : Int)), .int (iz (b : Int)), .int (iz (c : Int))] M (fun vs N => vs = [] ∧ RI (up (up (up w 14 a) 15 b) 16 c) ta N ∧ Fr aWld M N ∧ N.1 768 0 = nI 0) := by
  refine sC (by decide) rfl (go_in (e219_0 ?_))
  refine k131n ⟨by omega, by omega⟩ (by decide) (by decide) (by omega) ?_
  refine e219_13 ⟨fun q => absurd q (by decide), fun _ => ?_⟩
  rw [iz_n 0]
  refine k131 ⟨by omega, by omega⟩ ⟨by decide, by decide⟩ ⟨by omega, by omega⟩ (by omega) ?_
  refine e219_22 ⟨fun q => absurd q (by decide), fun _ => ?_⟩
  refine k131n ⟨by omega, by omega⟩ (by decide) (by decide) (by omega) ?_
  refine e219_31 ⟨fun _ => go_in (e219_38 (go_in (e219_39 (k130 ?_)))), fun q => absurd q (by decide)⟩
  refine e219_43 ⟨fun _ => go_in ?_, fun q => absurd rfl q⟩
  exact e219_47 ⟨nI_in2 (by decide) (by decide), nI_in2 (by decide) (by decide), nI_in2 (by decide) (by decide), rfl, rfl, RI_c (RI_c (RI_c (hI.z _) (i := 14) (by decide) (by decide) (v := a) rfl) (i := 15) (by decide) (by decide) (v := b) rfl) (i := 16) (by decide) (by decide) rfl, (((Fr.rf.sI rfl).sI rfl).sI rfl).sI rfl, rfl⟩
theorem c219t {a b c : Int} (ha : i32 a) (hb : i32 b) (hc : i32 c) (h : ¬ ((1 ≤ a ∧ a ≤ 7) ∧ (0 ≤ b ∧ b ≤ a) ∧ (0 ≤ c ∧ c ≤ 3))) : SC (d + 2) 219 [.ref 768, .int (iz a), .int (iz b), .int (iz c)] M (fun vs N => vs = [] ∧ Fr a7 M N ∧ N.1 768 0 = nI 1) := by
  by_cases g0 : 1 ≤ a ∧ a ≤ 7
  · by_cases g1 : 0 ≤ b ∧ b ≤ a
    · by_cases g2 : 0 ≤ c ∧ c ≤ 3
      · exact absurd ⟨g0, g1, g2⟩ h
      · refine sC (by decide) rfl (go_in (e219_0 ?_))
        refine k131n ha (by decide) (by decide) (by omega) ?_
        refine e219_13 ⟨fun q => absurd q (by decide), fun _ => ?_⟩
        rw [iz_n 0]
        refine k131 hb ⟨by decide, by decide⟩ ha (by omega) ?_
        refine e219_22 ⟨fun q => absurd q (by decide), fun _ => ?_⟩
        refine f131n hc (by decide) (by decide) (by omega) ?_
        refine e219_31 ⟨fun q => absurd rfl q, fun _ => go_in (e219_34 (go_in (e219_39 (f130 ?_))))⟩
        exact e219_43 ⟨fun q => absurd q (by decide), fun _ => ⟨rfl, rfl, (Fr.rf.sI rfl).sI rfl, rfl⟩⟩
    · refine sC (by decide) rfl (go_in (e219_0 ?_))
      refine k131n ha (by decide) (by decide) (by omega) ?_
      refine e219_13 ⟨fun q => absurd q (by decide), fun _ => ?_⟩
      rw [iz_n 0]
      refine f131 hb ⟨by decide, by decide⟩ ha (by omega) ?_
      refine e219_22 ⟨fun _ => go_in (e219_34 (go_in (e219_39 (f130 ?_)))), fun q => absurd rfl q⟩
      exact e219_43 ⟨fun q => absurd q (by decide), fun _ => ⟨rfl, rfl, (Fr.rf.sI rfl).sI rfl, rfl⟩⟩
  · refine sC (by decide) rfl (go_in (e219_0 ?_))
    refine f131n ha (by decide) (by decide) (by omega) ?_
    refine e219_13 ⟨fun _ => go_in (e219_34 (go_in (e219_39 (f130 ?_)))), fun q => absurd rfl q⟩
    exact e219_43 ⟨fun q => absurd q (by decide), fun _ => ⟨rfl, rfl, (Fr.rf.sI rfl).sI rfl, rfl⟩⟩
end TR1
