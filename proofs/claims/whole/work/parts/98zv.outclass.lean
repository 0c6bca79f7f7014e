/-! Out of range: the class. -/
section OC
variable {d : Nat} {M : Mm} {w : Nat → Nat} {ta : Nat → Nat → Nat → Nat}
theorem t103 (hT : TR 512 w ta M) (hb : WB w) {f : Int} (h1 : i32 f) {l : Int} (h2 : i32 l) (h : ¬ ((0 ≤ f ∧ f < w 8) ∧ (0 ≤ l ∧ l ≤ w 0))) : ST (d + 3) 103 [.ref 704, .int (iz f), .int (iz l)] M (fun E N => E = 1 ∧ N = M) := by
  refine sT (by decide) (by decide) (by decide +kernel) rfl ?_
  by_cases hf : 0 ≤ f ∧ f < w 8
  · refine go_inE (e103_0 (Or.inl (useC (c117 (d := d) hT hb h1 hf) fun vs N q => ?_)))
    obtain ⟨rfl, rfl⟩ := q
    refine e103_5 (Or.inr ?_)
    show ST (d + 2) 118 _ _ _
    exact useT (t118 hT hb h2 (fun q => h ⟨hf, q⟩)) fun E N q => ⟨by omega, q⟩
  · refine go_inE (e103_0 (Or.inr ?_))
    show ST (d + 2) 117 _ _ _
    exact useT (t117 hT hb h1 hf) fun E N q => ⟨by omega, q⟩
theorem t104 (hT : TR 512 w ta M) (hb : WB w) {f : Int} (h1 : i32 f) {l : Int} (h2 : i32 l) (h : ¬ ((0 ≤ f ∧ f < w 8) ∧ (0 ≤ l ∧ l ≤ w 0))) : ST (d + 3) 104 [.ref 704, .int (iz f), .int (iz l)] M (fun E N => E = 1 ∧ N = M) := by
  refine sT (by decide) (by decide) (by decide +kernel) rfl ?_
  by_cases hf : 0 ≤ f ∧ f < w 8
  · refine go_inE (e104_0 (Or.inl (useC (c117 (d := d) hT hb h1 hf) fun vs N q => ?_)))
    obtain ⟨rfl, rfl⟩ := q
    refine e104_5 (Or.inr ?_)
    show ST (d + 2) 118 _ _ _
    exact useT (t118 hT hb h2 (fun q => h ⟨hf, q⟩)) fun E N q => ⟨by omega, q⟩
  · refine go_inE (e104_0 (Or.inr ?_))
    show ST (d + 2) 117 _ _ _
    exact useT (t117 hT hb h1 hf) fun E N q => ⟨by omega, q⟩
theorem t105 (hT : TR 512 w ta M) (hb : WB w) {f : Int} (h1 : i32 f) {l : Int} (h2 : i32 l) (h : ¬ ((0 ≤ f ∧ f < w 8) ∧ (0 ≤ l ∧ l ≤ w 0))) : ST (d + 3) 105 [.ref 704, .int (iz f), .int (iz l)] M (fun E N => E = 1 ∧ N = M) := by
  refine sT (by decide) (by decide) (by decide +kernel) rfl ?_
  by_cases hf : 0 ≤ f ∧ f < w 8
  · refine go_inE (e105_0 (Or.inl (useC (c117 (d := d) hT hb h1 hf) fun vs N q => ?_)))
    obtain ⟨rfl, rfl⟩ := q
    refine e105_5 (Or.inr ?_)
    show ST (d + 2) 118 _ _ _
    exact useT (t118 hT hb h2 (fun q => h ⟨hf, q⟩)) fun E N q => ⟨by omega, q⟩
  · refine go_inE (e105_0 (Or.inr ?_))
    show ST (d + 2) 117 _ _ _
    exact useT (t117 hT hb h1 hf) fun E N q => ⟨by omega, q⟩
theorem t108 (hT : TR 512 w ta M) (hb : WB w) {f : Int} (h1 : i32 f) {l : Int} (h2 : i32 l) {n : Int} (h3 : i32 n) (h : ¬ ((0 ≤ f ∧ f < w 8) ∧ (0 ≤ l ∧ l ≤ w 0))) : ST (d + 3) 108 [.ref 704, .int (iz f), .int (iz l), .int (iz n)] M (fun E N => E = 1 ∧ N = M) := by
  refine sT (by decide) (by decide) (by decide +kernel) rfl ?_
  by_cases hf : 0 ≤ f ∧ f < w 8
  · refine go_inE (e108_0 (Or.inl (useC (c117 (d := d) hT hb h1 hf) fun vs N q => ?_)))
    obtain ⟨rfl, rfl⟩ := q
    refine e108_5 (Or.inr ?_)
    show ST (d + 2) 118 _ _ _
    exact useT (t118 hT hb h2 (fun q => h ⟨hf, q⟩)) fun E N q => ⟨by omega, q⟩
  · refine go_inE (e108_0 (Or.inr ?_))
    show ST (d + 2) 117 _ _ _
    exact useT (t117 hT hb h1 hf) fun E N q => ⟨by omega, q⟩
theorem u108 (hT : TR 512 w ta M) (hb : WB w) {f : Int} (h1 : i32 f) {l : Int} (h2 : i32 l) {n : Int} (h3 : i32 n) (hf : 0 ≤ f ∧ f < w 8) (hl : 0 ≤ l ∧ l ≤ w 0) (h : ¬ (1 ≤ n ∧ n ≤ 8)) : ST (d + 3) 108 [.ref 704, .int (iz f), .int (iz l), .int (iz n)] M (fun E N => E = 0 ∧ N = M) := by
  refine sT (by decide) (by decide) (by decide +kernel) rfl ?_
  refine go_inE (e108_0 (Or.inl (useC (c117 (d := d) hT hb h1 hf) fun vs N q => ?_)))
  obtain ⟨rfl, rfl⟩ := q
  refine e108_5 (Or.inl (useC (c118 (d := d) hT hb h2 hl) fun vs N q => ?_))
  obtain ⟨rfl, rfl⟩ := q
  refine e108_10 (Or.inr ?_)
  show ST (d + 2) 120 _ _ _
  rw [iz_n 1, iz_n 8]
  exact useT (t120 h3 (i32_n (by omega)) (i32_n (by omega)) (by omega)) fun E N q => ⟨by omega, q⟩
theorem t109 (hT : TR 512 w ta M) (hb : WB w) {f : Int} (h1 : i32 f) {l : Int} (h2 : i32 l) {n : Int} (h3 : i32 n) (h : ¬ ((0 ≤ f ∧ f < w 8) ∧ (0 ≤ l ∧ l ≤ w 0))) : ST (d + 3) 109 [.ref 704, .int (iz f), .int (iz l), .int (iz n)] M (fun E N => E = 1 ∧ N = M) := by
  refine sT (by decide) (by decide) (by decide +kernel) rfl ?_
  by_cases hf : 0 ≤ f ∧ f < w 8
  · refine go_inE (e109_0 (Or.inl (useC (c117 (d := d) hT hb h1 hf) fun vs N q => ?_)))
    obtain ⟨rfl, rfl⟩ := q
    refine e109_5 (Or.inr ?_)
    show ST (d + 2) 118 _ _ _
    exact useT (t118 hT hb h2 (fun q => h ⟨hf, q⟩)) fun E N q => ⟨by omega, q⟩
  · refine go_inE (e109_0 (Or.inr ?_))
    show ST (d + 2) 117 _ _ _
    exact useT (t117 hT hb h1 hf) fun E N q => ⟨by omega, q⟩
theorem u109 (hT : TR 512 w ta M) (hb : WB w) {f : Int} (h1 : i32 f) {l : Int} (h2 : i32 l) {n : Int} (h3 : i32 n) (hf : 0 ≤ f ∧ f < w 8) (hl : 0 ≤ l ∧ l ≤ w 0) (h : ¬ (1 ≤ n ∧ n ≤ 8)) : ST (d + 3) 109 [.ref 704, .int (iz f), .int (iz l), .int (iz n)] M (fun E N => E = 0 ∧ N = M) := by
  refine sT (by decide) (by decide) (by decide +kernel) rfl ?_
  refine go_inE (e109_0 (Or.inl (useC (c117 (d := d) hT hb h1 hf) fun vs N q => ?_)))
  obtain ⟨rfl, rfl⟩ := q
  refine e109_5 (Or.inl (useC (c118 (d := d) hT hb h2 hl) fun vs N q => ?_))
  obtain ⟨rfl, rfl⟩ := q
  refine e109_10 (Or.inr ?_)
  show ST (d + 2) 120 _ _ _
  rw [iz_n 1, iz_n 8]
  exact useT (t120 h3 (i32_n (by omega)) (i32_n (by omega)) (by omega)) fun E N q => ⟨by omega, q⟩
theorem t110 (hT : TR 512 w ta M) (hb : WB w) {f : Int} (h1 : i32 f) {l : Int} (h2 : i32 l) {n : Int} (h3 : i32 n) {o0 : Int32} (h : ¬ ((0 ≤ f ∧ f < w 8) ∧ (0 ≤ l ∧ l ≤ w 0))) : ST (d + 3) 110 [.ref 704, .int (iz f), .int (iz l), .int (iz n), .int o0] M (fun E N => E = 1 ∧ N = M) := by
  refine sT (by decide) (by decide) (by decide +kernel) rfl ?_
  by_cases hf : 0 ≤ f ∧ f < w 8
  · refine go_inE (e110_0 (Or.inl (useC (c117 (d := d) hT hb h1 hf) fun vs N q => ?_)))
    obtain ⟨rfl, rfl⟩ := q
    refine e110_5 (Or.inr ?_)
    show ST (d + 2) 118 _ _ _
    exact useT (t118 hT hb h2 (fun q => h ⟨hf, q⟩)) fun E N q => ⟨by omega, q⟩
  · refine go_inE (e110_0 (Or.inr ?_))
    show ST (d + 2) 117 _ _ _
    exact useT (t117 hT hb h1 hf) fun E N q => ⟨by omega, q⟩
theorem u110 (hT : TR 512 w ta M) (hb : WB w) {f : Int} (h1 : i32 f) {l : Int} (h2 : i32 l) {n : Int} (h3 : i32 n) {o0 : Int32} (hf : 0 ≤ f ∧ f < w 8) (hl : 0 ≤ l ∧ l ≤ w 0) (h : ¬ (1 ≤ n ∧ n ≤ 8)) : ST (d + 3) 110 [.ref 704, .int (iz f), .int (iz l), .int (iz n), .int o0] M (fun E N => E = 0 ∧ N = M) := by
  refine sT (by decide) (by decide) (by decide +kernel) rfl ?_
  refine go_inE (e110_0 (Or.inl (useC (c117 (d := d) hT hb h1 hf) fun vs N q => ?_)))
  obtain ⟨rfl, rfl⟩ := q
  refine e110_5 (Or.inl (useC (c118 (d := d) hT hb h2 hl) fun vs N q => ?_))
  obtain ⟨rfl, rfl⟩ := q
  refine e110_10 (Or.inr ?_)
  show ST (d + 2) 120 _ _ _
  rw [iz_n 1, iz_n 8]
  exact useT (t120 h3 (i32_n (by omega)) (i32_n (by omega)) (by omega)) fun E N q => ⟨by omega, q⟩
theorem t113 (hT : TR 512 w ta M) (hb : WB w) {f : Int} (h1 : i32 f) {l : Int} (h2 : i32 l) {n : Int} (h3 : i32 n) (h : ¬ ((0 ≤ f ∧ f < w 8) ∧ (0 ≤ l ∧ l ≤ w 0))) : ST (d + 3) 113 [.ref 704, .int (iz f), .int (iz l), .int (iz n)] M (fun E N => E = 1 ∧ N = M) := by
  refine sT (by decide) (by decide) (by decide +kernel) rfl ?_
  by_cases hf : 0 ≤ f ∧ f < w 8
  · refine go_inE (e113_0 (Or.inl (useC (c117 (d := d) hT hb h1 hf) fun vs N q => ?_)))
    obtain ⟨rfl, rfl⟩ := q
    refine e113_5 (Or.inr ?_)
    show ST (d + 2) 118 _ _ _
    exact useT (t118 hT hb h2 (fun q => h ⟨hf, q⟩)) fun E N q => ⟨by omega, q⟩
  · refine go_inE (e113_0 (Or.inr ?_))
    show ST (d + 2) 117 _ _ _
    exact useT (t117 hT hb h1 hf) fun E N q => ⟨by omega, q⟩
theorem u113 (hT : TR 512 w ta M) (hb : WB w) {f : Int} (h1 : i32 f) {l : Int} (h2 : i32 l) {n : Int} (h3 : i32 n) (hf : 0 ≤ f ∧ f < w 8) (hl : 0 ≤ l ∧ l ≤ w 0) (h : ¬ (0 ≤ n ∧ n ≤ 12)) : ST (d + 3) 113 [.ref 704, .int (iz f), .int (iz l), .int (iz n)] M (fun E N => E = 0 ∧ N = M) := by
  refine sT (by decide) (by decide) (by decide +kernel) rfl ?_
  refine go_inE (e113_0 (Or.inl (useC (c117 (d := d) hT hb h1 hf) fun vs N q => ?_)))
  obtain ⟨rfl, rfl⟩ := q
  refine e113_5 (Or.inl (useC (c118 (d := d) hT hb h2 hl) fun vs N q => ?_))
  obtain ⟨rfl, rfl⟩ := q
  refine e113_10 (Or.inr ?_)
  show ST (d + 2) 120 _ _ _
  rw [iz_n 0, iz_n 12]
  exact useT (t120 h3 (i32_n (by omega)) (i32_n (by omega)) (by omega)) fun E N q => ⟨by omega, q⟩
theorem t106 (hT : TR 512 w ta M) (hb : WB w) {l : Int} (h2 : i32 l) {o0 : Int32} (h : ¬ (0 ≤ l ∧ l ≤ w 0)) : ST (d + 3) 106 [.ref 704, .int (iz l), .int o0] M (fun E N => E = 1 ∧ N = M) := by
  refine sT (by decide) (by decide) (by decide +kernel) rfl ?_
  refine go_inE (e106_0 (Or.inr ?_))
  show ST (d + 2) 118 _ _ _
  exact useT (t118 hT hb h2 h) fun E N q => ⟨by omega, q⟩
theorem t107 (hT : TR 512 w ta M) (hb : WB w) {l : Int} (h2 : i32 l) (h : ¬ (0 ≤ l ∧ l ≤ w 0)) : ST (d + 3) 107 [.ref 704, .int (iz l)] M (fun E N => E = 1 ∧ N = M) := by
  refine sT (by decide) (by decide) (by decide +kernel) rfl ?_
  refine go_inE (e107_0 (Or.inr ?_))
  show ST (d + 2) 118 _ _ _
  exact useT (t118 hT hb h2 h) fun E N q => ⟨by omega, q⟩
theorem t115 (hT : TR 512 w ta M) (hb : WB w) {l : Int} (h2 : i32 l) (h : ¬ (0 ≤ l ∧ l ≤ w 0)) : ST (d + 3) 115 [.ref 704, .int (iz l)] M (fun E N => E = 1 ∧ N = M) := by
  refine sT (by decide) (by decide) (by decide +kernel) rfl ?_
  refine go_inE (e115_0 (Or.inr ?_))
  show ST (d + 2) 118 _ _ _
  exact useT (t118 hT hb h2 h) fun E N q => ⟨by omega, q⟩
theorem t111 (hT : TR 512 w ta M) (hb : WB w) {l : Int} (h2 : i32 l) {n : Int} (h3 : i32 n) (h : ¬ (0 ≤ l ∧ l ≤ w 0)) : ST (d + 3) 111 [.ref 704, .int (iz l), .int (iz n)] M (fun E N => E = 1 ∧ N = M) := by
  refine sT (by decide) (by decide) (by decide +kernel) rfl ?_
  refine go_inE (e111_0 (Or.inr ?_))
  show ST (d + 2) 118 _ _ _
  exact useT (t118 hT hb h2 h) fun E N q => ⟨by omega, q⟩
theorem u111 (hT : TR 512 w ta M) (hb : WB w) {l : Int} (h2 : i32 l) {n : Int} (h3 : i32 n) (hl : 0 ≤ l ∧ l ≤ w 0) (h : ¬ (1 ≤ n ∧ n ≤ 8)) : ST (d + 3) 111 [.ref 704, .int (iz l), .int (iz n)] M (fun E N => E = 0 ∧ N = M) := by
  refine sT (by decide) (by decide) (by decide +kernel) rfl ?_
  refine go_inE (e111_0 (Or.inl (useC (c118 (d := d) hT hb h2 hl) fun vs N q => ?_)))
  obtain ⟨rfl, rfl⟩ := q
  refine e111_5 (Or.inr ?_)
  show ST (d + 2) 120 _ _ _
  rw [iz_n 1, iz_n 8]
  exact useT (t120 h3 (i32_n (by omega)) (i32_n (by omega)) (by omega)) fun E N q => ⟨by omega, q⟩
theorem t112 (hT : TR 512 w ta M) (hb : WB w) {l : Int} (h2 : i32 l) {n : Int} (h3 : i32 n) (h : ¬ (0 ≤ l ∧ l ≤ w 0)) : ST (d + 3) 112 [.ref 704, .int (iz l), .int (iz n)] M (fun E N => E = 1 ∧ N = M) := by
  refine sT (by decide) (by decide) (by decide +kernel) rfl ?_
  refine go_inE (e112_0 (Or.inr ?_))
  show ST (d + 2) 118 _ _ _
  exact useT (t118 hT hb h2 h) fun E N q => ⟨by omega, q⟩
theorem u112 (hT : TR 512 w ta M) (hb : WB w) {l : Int} (h2 : i32 l) {n : Int} (h3 : i32 n) (hl : 0 ≤ l ∧ l ≤ w 0) (h : ¬ (0 ≤ n ∧ n ≤ 20)) : ST (d + 3) 112 [.ref 704, .int (iz l), .int (iz n)] M (fun E N => E = 0 ∧ N = M) := by
  refine sT (by decide) (by decide) (by decide +kernel) rfl ?_
  refine go_inE (e112_0 (Or.inl (useC (c118 (d := d) hT hb h2 hl) fun vs N q => ?_)))
  obtain ⟨rfl, rfl⟩ := q
  refine e112_5 (Or.inr ?_)
  show ST (d + 2) 120 _ _ _
  rw [iz_n 0, iz_n 20]
  exact useT (t120 h3 (i32_n (by omega)) (i32_n (by omega)) (by omega)) fun E N q => ⟨by omega, q⟩
theorem t114 (hT : TR 512 w ta M) (hb : WB w) {l : Int} (h2 : i32 l) {n : Int} (h3 : i32 n) (h : ¬ (0 ≤ l ∧ l ≤ w 0)) : ST (d + 3) 114 [.ref 704, .int (iz l), .int (iz n)] M (fun E N => E = 1 ∧ N = M) := by
  refine sT (by decide) (by decide) (by decide +kernel) rfl ?_
  refine go_inE (e114_0 (Or.inr ?_))
  show ST (d + 2) 118 _ _ _
  exact useT (t118 hT hb h2 h) fun E N q => ⟨by omega, q⟩
theorem u114 (hT : TR 512 w ta M) (hb : WB w) {l : Int} (h2 : i32 l) {n : Int} (h3 : i32 n) (hl : 0 ≤ l ∧ l ≤ w 0) (h : ¬ (0 ≤ n ∧ n ≤ 12)) : ST (d + 3) 114 [.ref 704, .int (iz l), .int (iz n)] M (fun E N => E = 0 ∧ N = M) := by
  refine sT (by decide) (by decide) (by decide +kernel) rfl ?_
  refine go_inE (e114_0 (Or.inl (useC (c118 (d := d) hT hb h2 hl) fun vs N q => ?_)))
  obtain ⟨rfl, rfl⟩ := q
  refine e114_5 (Or.inr ?_)
  show ST (d + 2) 120 _ _ _
  rw [iz_n 0, iz_n 12]
  exact useT (t120 h3 (i32_n (by omega)) (i32_n (by omega)) (by omega)) fun E N q => ⟨by omega, q⟩
end OC
