/-! The JDK's own. -/
def fJ (M : Mm) (x n : Nat) (v : Int64) : Mm := (M.1, fun a b => if a = x ∧ b < n then v else M.2.1 a b, M.2.2)
def fI (M : Mm) (x n : Nat) (v : Int32) : Mm := (fun a b => if a = x ∧ b < n then v else M.1 a b, M.2.1, M.2.2)
theorem fJ_0 {M : Mm} {x : Nat} {v : Int64} : fJ M x 0 v = M := by
  unfold fJ
  simp
theorem fI_0 {M : Mm} {x : Nat} {v : Int32} : fI M x 0 v = M := by
  unfold fI
  simp
theorem fJ_s {M : Mm} {x i : Nat} {v : Int64} : sJ (fJ M x i v) x i v = fJ M x (i + 1) v := by
  unfold fJ sJ
  refine congrArg (fun f => (M.1, f, M.2.2)) (funext fun a => funext fun b => ?_)
  dsimp only
  by_cases h : a = x
  · subst h
    by_cases h2 : b = i
    · subst h2; simp
    · by_cases h3 : b < i
      · simp [h2, h3]; intro h4; omega
      · simp [h2, h3]; intro h4; omega
  · simp [h]
theorem fI_s {M : Mm} {x i : Nat} {v : Int32} : sI (fI M x i v) x i v = fI M x (i + 1) v := by
  unfold fI sI
  refine congrArg (fun f => (f, M.2.1, M.2.2)) (funext fun a => funext fun b => ?_)
  dsimp only
  by_cases h : a = x
  · subst h
    by_cases h2 : b = i
    · subst h2; simp
    · by_cases h3 : b < i
      · simp [h2, h3]; intro h4; omega
      · simp [h2, h3]; intro h4; omega
  · simp [h]
section JD
variable {d : Nat} {M : Mm}
theorem c232 {x : Nat} {v : Int64} (ha : isAr x = true) (ht : typ x = 2) (hl : len x < 2147483648) : SC (d + 1) 232 [.ref x, .long v] M (fun vs N => vs = [] ∧ N = fJ M x (len x) v) := by
  refine sC (by decide) rfl (go_in (e232_0 ⟨ha, ?_⟩))
  have loop : ∀ k i N, i + k = len x → N = fJ M x i v → Wp (SC d) (ST d) (RP (fun vs N => vs = [] ∧ N = fJ M x (len x) v)) hdN (txOf 232) 0 6 [some (.ref x), some (.long v), none, some (.int (nI i)), some (.int (nI (len x)))] [] N := by
    intro k
    induction k with
    | zero =>
      intro i N hi hN
      have hi : i = len x := by omega
      subst hi
      exact go_in (e232_6 ⟨fun _ => go_in (e232_22 ⟨rfl, rfl, hN⟩), fun q => absurd ((nI_leI hl hl).mpr (Nat.le_refl _)) q⟩)
    | succ k ih =>
      intro i N hi hN
      refine go_in (e232_6 ⟨fun q => absurd ((nI_leI hl (by omega)).mp q) (by omega), fun _ => ⟨⟨ha, ht, nI_in2 (by omega) hl⟩, ?_⟩⟩)
      rw [nI_s, nI_c (by omega)]
      exact ih (i + 1) _ (by omega) (by rw [hN, fJ_s])
  exact loop (len x) 0 M (by omega) fJ_0.symm
theorem c233 {x : Nat} {v : Int32} (ha : isAr x = true) (ht : typ x = 1) (hl : len x < 2147483648) : SC (d + 1) 233 [.ref x, .int v] M (fun vs N => vs = [] ∧ N = fI M x (len x) v) := by
  refine sC (by decide) rfl (go_in (e233_0 ⟨ha, ?_⟩))
  have loop : ∀ k i N, i + k = len x → N = fI M x i v → Wp (SC d) (ST d) (RP (fun vs N => vs = [] ∧ N = fI M x (len x) v)) hdN (txOf 233) 0 5 [some (.ref x), some (.int v), some (.int (nI i)), some (.int (nI (len x)))] [] N := by
    intro k
    induction k with
    | zero =>
      intro i N hi hN
      have hi : i = len x := by omega
      subst hi
      exact go_in (e233_5 ⟨fun _ => go_in (e233_20 ⟨rfl, rfl, hN⟩), fun q => absurd ((nI_leI hl hl).mpr (Nat.le_refl _)) q⟩)
    | succ k ih =>
      intro i N hi hN
      refine go_in (e233_5 ⟨fun q => absurd ((nI_leI hl (by omega)).mp q) (by omega), fun _ => ⟨⟨ha, ht, nI_in2 (by omega) hl⟩, ?_⟩⟩)
      rw [nI_s, nI_c (by omega)]
      exact ih (i + 1) _ (by omega) (by rw [hN, fI_s])
  exact loop (len x) 0 M (by omega) fI_0.symm
theorem c230 {a b : Int} (ha : i32 a) (hb : i32 b) : SC (d + 1) 230 [.int (iz a), .int (iz b)] M (fun vs N => vs = [.int (iz (max a b))] ∧ N = M) := by
  refine sC (by decide) rfl (go_in (e230_0 ⟨fun q => ?_, fun q => ?_⟩))
  · rw [iz_lt ha hb] at q
    rw [show max a b = b by omega]
    exact go_in (e230_9 (go_in (e230_10 ⟨rfl, rfl, rfl⟩)))
  · rw [iz_lt ha hb] at q
    rw [show max a b = a by omega]
    exact go_in (e230_10 ⟨rfl, rfl, rfl⟩)
theorem c231 {a b : Int} (ha : i32 a) (hb : i32 b) : SC (d + 1) 231 [.int (iz a), .int (iz b)] M (fun vs N => vs = [.int (iz (min a b))] ∧ N = M) := by
  refine sC (by decide) rfl (go_in (e231_0 ⟨fun q => ?_, fun q => ?_⟩))
  · rw [iz_lt hb ha] at q
    rw [show min a b = b by omega]
    exact go_in (e231_9 (go_in (e231_10 ⟨rfl, rfl, rfl⟩)))
  · rw [iz_lt hb ha] at q
    rw [show min a b = a by omega]
    exact go_in (e231_10 ⟨rfl, rfl, rfl⟩)
theorem c228 {a : Int} (ha : i32 a) : SC (d + 1) 228 [.int (iz a)] M (fun vs N => vs = [.int (iz (max a (-a)))] ∧ N = M) := by
  refine sC (by decide) rfl (go_in (e228_0 ⟨fun q => ?_, fun q => ?_⟩))
  · rw [iz_0, iz_le i32_0 ha] at q
    rw [show max a (-a) = a by omega]
    exact go_in (e228_9 (go_in (e228_10 ⟨rfl, rfl, rfl⟩)))
  · rw [iz_0, iz_le i32_0 ha] at q
    rw [show max a (-a) = -a by omega, iz_neg]
    exact go_in (e228_10 ⟨rfl, rfl, rfl⟩)
theorem c229 {a : Int} (ha : i64 a) : SC (d + 1) 229 [.long (lz a)] M (fun vs N => vs = [.long (lz (max a (-a)))] ∧ N = M) := by
  refine sC (by decide) rfl (go_in (e229_0 ⟨fun q => ?_, fun q => ?_⟩))
  · rw [cmp_ge, lz_0, lz_le i64_0 ha] at q
    rw [show max a (-a) = a by omega]
    exact go_in (e229_11 (go_in (e229_12 ⟨rfl, rfl, rfl⟩)))
  · rw [cmp_ge, lz_0, lz_le i64_0 ha] at q
    rw [show max a (-a) = -a by omega, lz_neg]
    exact go_in (e229_12 ⟨rfl, rfl, rfl⟩)
theorem lz_div {a b : Int} (ha : i64 a) (hb : i64 b) (h0 : 0 < b) : lz a / lz b = lz (a.tdiv b) := by
  refine Int64.toInt_inj.mp ?_
  rw [Int64.toInt_div_of_ne_right _ _ (fun e => ?_), lz_toInt ha.1 ha.2, lz_toInt hb.1 hb.2]
  · have h1 : (a.tdiv b).natAbs ≤ a.natAbs := Int.natAbs_tdiv_le_natAbs a b
    obtain ⟨a1, a2⟩ := ha
    by_cases hneg : a = -9223372036854775808
    · have h3 : a.tdiv b ≤ 0 := by
        rw [hneg, Int.neg_tdiv]
        have := Int.tdiv_nonneg (a := 9223372036854775808) (b := b) (by decide) (by omega)
        omega
      exact (lz_toInt (by omega) (by omega)).symm
    · exact (lz_toInt (by omega) (by omega)).symm
  · have := congrArg Int64.toInt e
    rw [lz_toInt hb.1 hb.2] at this
    have h2 : (-1 : Int64).toInt = -1 := by decide
    omega
theorem lz_rem {a b : Int} (ha : i64 a) (hb : i64 b) (h0 : 0 < b) : lz a - lz a / lz b * lz b = lz (a.tmod b) := by
  rw [lz_div ha hb h0, lz_mul, lz_sub]
  congr 1
  have := Int.tmod_add_mul_tdiv a b
  rw [Int.mul_comm] at this
  omega
theorem xor_neg {a b : Int} (ha : i64 a) (hb : i64 b) : lg_cmp (lz a ^^^ lz b) (lN 0) < 0 ↔ ((a < 0) ↔ ¬ (b < 0)) := by
  rw [cmp_lt, lz_0, Int64.lt_iff_toInt_lt, lz_toInt (z := 0) (by decide) (by decide)]
  have e : ∀ x : Int64, x.toInt < 0 ↔ x.toBitVec.msb = true := fun x => by
    rw [BitVec.msb_eq_toInt]
    exact decide_eq_true_iff.symm
  rw [e, Int64.toBitVec_xor, BitVec.msb_xor]
  have e1 : (lz a).toBitVec.msb = decide (a < 0) := by
    by_cases h : a < 0
    · rw [decide_eq_true h]; exact (e _).mp (by rw [lz_toInt ha.1 ha.2]; exact h)
    · rw [decide_eq_false h]
      cases hm : (lz a).toBitVec.msb with
      | false => rfl
      | true => exact absurd ((e _).mpr hm) (by rw [lz_toInt ha.1 ha.2]; exact h)
  have e2 : (lz b).toBitVec.msb = decide (b < 0) := by
    by_cases h : b < 0
    · rw [decide_eq_true h]; exact (e _).mp (by rw [lz_toInt hb.1 hb.2]; exact h)
    · rw [decide_eq_false h]
      cases hm : (lz b).toBitVec.msb with
      | false => rfl
      | true => exact absurd ((e _).mpr hm) (by rw [lz_toInt hb.1 hb.2]; exact h)
  rw [e1, e2]
  by_cases h1 : a < 0 <;> by_cases h2 : b < 0 <;> simp [h1, h2]
theorem tdiv_floor {a b : Int} (h0 : 0 < b) : (0 ≤ a ∨ a.tdiv b * b = a → a / b = a.tdiv b) ∧ (a < 0 → a.tdiv b * b ≠ a → a / b = a.tdiv b - 1) := by
  have h1 := Int.tmod_add_mul_tdiv a b
  have h3 : a.tmod b < b := by have := Int.tmod_lt_of_pos a h0; omega
  refine ⟨fun h => ?_, fun h h2 => ?_⟩
  · have h4 : 0 ≤ a.tmod b := by
      rcases h with h | h
      · exact Int.tmod_nonneg b h
      · rw [Int.mul_comm] at h; omega
    exact ((Int.ediv_emod_unique h0).mpr ⟨by rw [Int.mul_comm] at h1 ⊢; omega, h4, h3⟩).1
  · have h4 : a.tmod b ≤ 0 := by
      have := Int.tmod_nonneg b (show 0 ≤ -a by omega)
      rw [Int.neg_tmod] at this
      omega
    have h5 : -b < a.tmod b := by
      have := Int.tmod_lt_of_pos (-a) h0
      rw [Int.neg_tmod] at this
      omega
    have h6 : a.tmod b ≠ 0 := fun z => h2 (by rw [Int.mul_comm]; omega)
    refine ((Int.ediv_emod_unique (r := a.tmod b + b) h0).mpr ⟨?_, by omega, by omega⟩).1
    rw [Int.mul_sub, Int.mul_one]
    omega
theorem c226 {a b : Int} (ha : i64 a) (hb : i64 b) (h0 : 0 < b) : SC (d + 1) 226 [.long (lz a), .long (lz b)] M (fun vs N => vs = [.long (lz (a / b))] ∧ N = M) := by
  have hne : ¬ lz b = 0 := fun e => by
    rw [show (0 : Int64) = lz 0 from rfl, lz_eq hb i64_0] at e
    omega
  have ht := tdiv_floor (a := a) h0
  have hfin : ∀ q, a / b = q → Wp (SC d) (ST d) (RP (fun vs N => vs = [.long (lz (a / b))] ∧ N = M)) hdN (txOf 226) 0 27 [some (.long (lz a)), none, some (.long (lz b)), none, some (.long (lz q)), none] [] M := fun q hq => go_in (e226_27 ⟨rfl, by rw [hq], rfl⟩)
  have hb64 : i64 (a.tdiv b * b) := by
    have h1 := Int.tmod_add_mul_tdiv a b
    rw [Int.mul_comm] at h1
    obtain ⟨a1, a2⟩ := ha
    by_cases hs : 0 ≤ a
    · have := Int.tmod_nonneg b hs
      have h4 := Int.tdiv_nonneg hs (show 0 ≤ b by omega)
      have h5 := Int.mul_nonneg h4 (show 0 ≤ b by omega)
      exact ⟨by omega, by omega⟩
    · have := Int.tmod_nonneg b (show 0 ≤ -a by omega)
      rw [Int.neg_tmod] at this
      have h4 := Int.tdiv_nonneg (show 0 ≤ -a by omega) (show 0 ≤ b by omega)
      rw [Int.neg_tdiv] at h4
      have h5 := Int.mul_nonneg h4 (show 0 ≤ b by omega)
      rw [Int.neg_mul] at h5
      exact ⟨by omega, by omega⟩
  refine sC (by decide) rfl (go_in (e226_0 ⟨hne, fun q => ?_, fun q => ⟨fun q2 => ?_, fun q2 => ?_⟩⟩))
  · rw [lz_div ha hb h0]
    refine hfin _ (ht.1 (Or.inl ?_))
    have hx := xor_neg ha hb
    have h0c : (0 : Int32).toInt = 0 := by decide
    rw [Int32.lt_iff_toInt_lt] at hx
    rw [Int32.le_iff_toInt_le] at q
    by_cases h : a < 0
    · exact absurd (hx.mpr ⟨fun _ => by omega, fun _ => h⟩) (by omega)
    · omega
  · rw [cmp_eq, lz_div ha hb h0, lz_mul, lz_eq hb64 ha] at q2
    rw [lz_div ha hb h0]
    exact hfin _ (ht.1 (Or.inr q2))
  · rw [cmp_eq, lz_div ha hb h0, lz_mul, lz_eq hb64 ha] at q2
    rw [lz_div ha hb h0, show lN 1 = lz 1 from rfl, lz_sub]
    refine ⟨rfl, ?_, rfl⟩
    have : a < 0 := by
      have hx := xor_neg ha hb
      have h0c : (0 : Int32).toInt = 0 := by decide
      rw [Int32.lt_iff_toInt_lt] at hx
      rw [Int32.le_iff_toInt_le] at q
      by_cases h : a < 0
      · exact h
      · exfalso
        have := hx.mp (by omega)
        omega
    rw [ht.2 this q2]
end JD
