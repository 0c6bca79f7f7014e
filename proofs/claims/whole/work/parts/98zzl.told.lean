/-! The class is told of well, rain, years, beside. -/
section TC
variable {d : Nat} {M : Mm} {w : Nat → Nat} {ta : Nat → Nat → Nat → Nat}
theorem c81 (hI : TI w ta M) {a b : Nat} (h : 1 ≤ a ∧ a ≤ 7) (h2 : b ≤ 8) : SC (d + 2) 81 [.ref 704, .int (iz (a : Int)), .int (iz ((b : Int) - 1))] M (fun vs N => vs = [] ∧ TI (up (up w 0 a) 1 b) ta N ∧ Fr aTold M N) := by
  refine sC (by decide) rfl (go_in (e81_0 (Or.inl ?_)))
  refine k120n ⟨by omega, by omega⟩ (by decide) (by decide) (by omega) ?_
  refine e81_7 (Or.inl ?_)
  refine k120m ⟨by omega, by omega⟩ (by decide) (by omega) ?_
  exact e81_14 ⟨rfl, rfl, TI_c (TI_c hI (i := 0) (by decide) (by decide) rfl (v := a) rfl) (by decide) (by decide) rfl rfl, (Fr.rf.sI rfl).sI rfl⟩
theorem t81 {a b : Int} (ha : i32 a) (hb : i32 b) (h : ¬ ((1 ≤ a ∧ a ≤ 7) ∧ (-1 ≤ b ∧ b ≤ 7))) : ST (d + 2) 81 [.ref 704, .int (iz a), .int (iz b)] M (fun E N => E = 0 ∧ N = M) := by
  by_cases g0 : 1 ≤ a ∧ a ≤ 7
  · by_cases g1 : -1 ≤ b ∧ b ≤ 7
    · exact absurd ⟨g0, g1⟩ h
    · refine sT (by decide) (by decide) (by decide +kernel) rfl (go_inE (e81_0 (Or.inl ?_)))
      refine k120n ha (by decide) (by decide) (by omega) ?_
      refine e81_7 (Or.inr ?_)
      show ST _ 120 _ _ _
      exact f120m hb (by decide) (by omega)
  · refine sT (by decide) (by decide) (by decide +kernel) rfl (go_inE (e81_0 (Or.inr ?_)))
    show ST _ 120 _ _ _
    exact f120n ha (by decide) (by decide) (by omega)
theorem c82 (hI : TI w ta M) {a b c e : Nat} (h : a ≤ 4 ∧ b ≤ 4 ∧ c ≤ 4 ∧ e ≤ 4) (h2 : 1 ≤ a + b + c + e ∧ a + b + c + e ≤ 4) : SC (d + 2) 82 [.ref 704, .int (iz (a : Int)), .int (iz (b : Int)), .int (iz (c : Int)), .int (iz (e : Int))] M (fun vs N => vs = [] ∧ TI (up (up (up (up w 2 a) 3 b) 4 c) 5 e) ta N ∧ Fr aTold M N) := by
  refine sC (by decide) rfl (go_in (e82_0 (Or.inl ?_)))
  refine k120n ⟨by omega, by omega⟩ (by decide) (by decide) (by omega) ?_
  refine e82_6 (Or.inl ?_)
  refine k120n ⟨by omega, by omega⟩ (by decide) (by decide) (by omega) ?_
  refine e82_12 (Or.inl ?_)
  refine k120n ⟨by omega, by omega⟩ (by decide) (by decide) (by omega) ?_
  refine e82_18 (Or.inl ?_)
  refine k120n ⟨by omega, by omega⟩ (by decide) (by decide) (by omega) ?_
  refine e82_25 (Or.inl ?_)
  rw [iz_add, iz_add, iz_add]
  refine k120n ⟨by omega, by omega⟩ (by decide) (by decide) (by omega) ?_
  exact e82_38 ⟨nI_in2 (by decide) (by decide), nI_in2 (by decide) (by decide), nI_in2 (by decide) (by decide), nI_in2 (by decide) (by decide), rfl, rfl, TI_c (TI_c (TI_c (TI_c hI (i := 2) (by decide) (by decide) rfl (v := a) rfl) (i := 3) (by decide) (by decide) rfl (v := b) rfl) (i := 4) (by decide) (by decide) rfl (v := c) rfl) (i := 5) (by decide) (by decide) rfl rfl, (((Fr.rf.sI rfl).sI rfl).sI rfl).sI rfl⟩
theorem t82 {a b c e : Int} (ha : i32 a) (hb : i32 b) (hc : i32 c) (he : i32 e) (h : ¬ ((0 ≤ a ∧ a ≤ 4) ∧ (0 ≤ b ∧ b ≤ 4) ∧ (0 ≤ c ∧ c ≤ 4) ∧ (0 ≤ e ∧ e ≤ 4) ∧ (1 ≤ a + b + c + e ∧ a + b + c + e ≤ 4))) : ST (d + 2) 82 [.ref 704, .int (iz a), .int (iz b), .int (iz c), .int (iz e)] M (fun E N => E = 0 ∧ N = M) := by
  by_cases g0 : 0 ≤ a ∧ a ≤ 4
  · by_cases g1 : 0 ≤ b ∧ b ≤ 4
    · by_cases g2 : 0 ≤ c ∧ c ≤ 4
      · by_cases g3 : 0 ≤ e ∧ e ≤ 4
        · by_cases g4 : 1 ≤ a + b + c + e ∧ a + b + c + e ≤ 4
          · exact absurd ⟨g0, g1, g2, g3, g4⟩ h
          · refine sT (by decide) (by decide) (by decide +kernel) rfl (go_inE (e82_0 (Or.inl ?_)))
            refine k120n ha (by decide) (by decide) (by omega) ?_
            refine e82_6 (Or.inl ?_)
            refine k120n hb (by decide) (by decide) (by omega) ?_
            refine e82_12 (Or.inl ?_)
            refine k120n hc (by decide) (by decide) (by omega) ?_
            refine e82_18 (Or.inl ?_)
            refine k120n he (by decide) (by decide) (by omega) ?_
            refine e82_25 (Or.inr ?_)
            show ST _ 120 _ _ _
            rw [iz_add, iz_add, iz_add]
            exact f120n ⟨by omega, by omega⟩ (by decide) (by decide) (by omega)
        · refine sT (by decide) (by decide) (by decide +kernel) rfl (go_inE (e82_0 (Or.inl ?_)))
          refine k120n ha (by decide) (by decide) (by omega) ?_
          refine e82_6 (Or.inl ?_)
          refine k120n hb (by decide) (by decide) (by omega) ?_
          refine e82_12 (Or.inl ?_)
          refine k120n hc (by decide) (by decide) (by omega) ?_
          refine e82_18 (Or.inr ?_)
          show ST _ 120 _ _ _
          exact f120n he (by decide) (by decide) (by omega)
      · refine sT (by decide) (by decide) (by decide +kernel) rfl (go_inE (e82_0 (Or.inl ?_)))
        refine k120n ha (by decide) (by decide) (by omega) ?_
        refine e82_6 (Or.inl ?_)
        refine k120n hb (by decide) (by decide) (by omega) ?_
        refine e82_12 (Or.inr ?_)
        show ST _ 120 _ _ _
        exact f120n hc (by decide) (by decide) (by omega)
    · refine sT (by decide) (by decide) (by decide +kernel) rfl (go_inE (e82_0 (Or.inl ?_)))
      refine k120n ha (by decide) (by decide) (by omega) ?_
      refine e82_6 (Or.inr ?_)
      show ST _ 120 _ _ _
      exact f120n hb (by decide) (by decide) (by omega)
  · refine sT (by decide) (by decide) (by decide +kernel) rfl (go_inE (e82_0 (Or.inr ?_)))
    show ST _ 120 _ _ _
    exact f120n ha (by decide) (by decide) (by omega)
theorem c83 (hI : TI w ta M) {a b : Nat} (h : 1 ≤ a ∧ a < b ∧ b ≤ 5) : SC (d + 2) 83 [.ref 704, .int (iz (a : Int)), .int (iz (b : Int))] M (fun vs N => vs = [] ∧ TI (up (up w 6 a) 7 b) ta N ∧ Fr aTold M N) := by
  refine sC (by decide) rfl (go_in (e83_0 (Or.inl ?_)))
  refine k120n ⟨by omega, by omega⟩ (by decide) (by decide) (by omega) ?_
  refine e83_6 (Or.inl ?_)
  rw [iz_n 1, iz_sub]
  refine k120 ⟨by omega, by omega⟩ ⟨by decide, by decide⟩ ⟨by omega, by omega⟩ (by omega) ?_
  exact e83_14 ⟨rfl, rfl, TI_c (TI_c hI (i := 6) (by decide) (by decide) rfl (v := a) rfl) (i := 7) (by decide) (by decide) rfl rfl, (Fr.rf.sI rfl).sI rfl⟩
theorem t83 {a b : Int} (ha : i32 a) (hb : i32 b) (h : ¬ ((2 ≤ b ∧ b ≤ 5) ∧ (1 ≤ a ∧ a ≤ b - 1))) : ST (d + 2) 83 [.ref 704, .int (iz a), .int (iz b)] M (fun E N => E = 0 ∧ N = M) := by
  by_cases g0 : 2 ≤ b ∧ b ≤ 5
  · by_cases g1 : 1 ≤ a ∧ a ≤ b - 1
    · exact absurd ⟨g0, g1⟩ h
    · refine sT (by decide) (by decide) (by decide +kernel) rfl (go_inE (e83_0 (Or.inl ?_)))
      refine k120n hb (by decide) (by decide) (by omega) ?_
      refine e83_6 (Or.inr ?_)
      show ST _ 120 _ _ _
      rw [iz_n 1, iz_sub]
      exact f120 ha ⟨by decide, by decide⟩ ⟨by omega, by omega⟩ (by omega)
  · refine sT (by decide) (by decide) (by decide +kernel) rfl (go_inE (e83_0 (Or.inr ?_)))
    show ST _ 120 _ _ _
    exact f120n hb (by decide) (by decide) (by omega)
theorem c92 (hI : TI w ta M) {a b c : Nat} (h : 1 ≤ a ∧ a ≤ 7) (h2 : b ≤ a) (h3 : c ≤ 3) : SC (d + 2) 92 [.ref 704, .int (iz (a : Int)), .int (iz (b : Int)), .int (iz (c : Int))] M (fun vs N => vs = [] ∧ TI (up (up (up w 14 a) 15 b) 16 c) ta N ∧ Fr aTold M N) := by
  refine sC (by decide) rfl (go_in (e92_0 (Or.inl ?_)))
  refine k120n ⟨by omega, by omega⟩ (by decide) (by decide) (by omega) ?_
  refine e92_7 (Or.inl ?_)
  rw [iz_n 0]
  refine k120 ⟨by omega, by omega⟩ ⟨by decide, by decide⟩ ⟨by omega, by omega⟩ (by omega) ?_
  refine e92_13 (Or.inl ?_)
  refine k120n ⟨by omega, by omega⟩ (by decide) (by decide) (by omega) ?_
  exact e92_19 ⟨nI_in2 (by decide) (by decide), nI_in2 (by decide) (by decide), nI_in2 (by decide) (by decide), rfl, rfl, TI_c (TI_c (TI_c hI (i := 14) (by decide) (by decide) rfl (v := a) rfl) (i := 15) (by decide) (by decide) rfl (v := b) rfl) (i := 16) (by decide) (by decide) rfl rfl, ((Fr.rf.sI rfl).sI rfl).sI rfl⟩
theorem t92 {a b c : Int} (ha : i32 a) (hb : i32 b) (hc : i32 c) (h : ¬ ((1 ≤ a ∧ a ≤ 7) ∧ (0 ≤ b ∧ b ≤ a) ∧ (0 ≤ c ∧ c ≤ 3))) : ST (d + 2) 92 [.ref 704, .int (iz a), .int (iz b), .int (iz c)] M (fun E N => E = 0 ∧ N = M) := by
  by_cases g0 : 1 ≤ a ∧ a ≤ 7
  · by_cases g1 : 0 ≤ b ∧ b ≤ a
    · by_cases g2 : 0 ≤ c ∧ c ≤ 3
      · exact absurd ⟨g0, g1, g2⟩ h
      · refine sT (by decide) (by decide) (by decide +kernel) rfl (go_inE (e92_0 (Or.inl ?_)))
        refine k120n ha (by decide) (by decide) (by omega) ?_
        refine e92_7 (Or.inl ?_)
        rw [iz_n 0]
        refine k120 hb ⟨by decide, by decide⟩ ha (by omega) ?_
        refine e92_13 (Or.inr ?_)
        show ST _ 120 _ _ _
        exact f120n hc (by decide) (by decide) (by omega)
    · refine sT (by decide) (by decide) (by decide +kernel) rfl (go_inE (e92_0 (Or.inl ?_)))
      refine k120n ha (by decide) (by decide) (by omega) ?_
      refine e92_7 (Or.inr ?_)
      show ST _ 120 _ _ _
      rw [iz_n 0]
      exact f120 hb ⟨by decide, by decide⟩ ha (by omega)
  · refine sT (by decide) (by decide) (by decide +kernel) rfl (go_inE (e92_0 (Or.inr ?_)))
    show ST _ 120 _ _ _
    exact f120n ha (by decide) (by decide) (by omega)
end TC
