/-! The law. -/
abbrev WL (g pc : Nat) (l : Lo) (st : List Value) (M : Mm) : Prop := Wp (SC 40) (ST 40) RLW hdN tx_900 g pc l st M
abbrev LO (i : Nat) : Lo := [some (.ref 70001), some (.ref 704), some (.ref 768), some (.ref 70000), some (.int (nI i)), none, none, none]
abbrev LO5 (i v : Nat) : Lo := [some (.ref 70001), some (.ref 704), some (.ref 768), some (.ref 70000), some (.int (nI i)), some (.int (nI v)), none, none]
abbrev rd (M : Mm) (i k : Nat) : Int32 := M.1 70001 (nI i + nI k).toNatClampNeg
def nz (x : Int32) : Bool := !(x == 0)
theorem br_b {x : Int32} {A B : Prop} {F : Int32 → Prop} (h : F (nI (cond (nz x) 1 0))) (h0 : F (nI 0) → A) (h1 : F (nI 1) → B) : (x = 0 → A) ∧ (¬ x = 0 → B) := by
  constructor
  · intro e
    subst e
    exact h0 h
  · intro e
    have hz : nz x = true := by
      unfold nz
      rw [beq_false_of_ne e]
      rfl
    rw [hz] at h
    exact h1 h
theorem thr_s {g : Nat} {P : Nat → Prop} (h : P g) : thr (g + 1) P := h
theorem v_0 {v : Nat} (h : v < 10) (hz : nI v = 0) : v = 0 := by
  have h2 : iz v = iz 0 := by rw [← iz_n]; exact hz
  have := (iz_eq (a := v) (b := 0) ⟨by omega, by omega⟩ ⟨by decide, by decide⟩).mp h2
  omega
theorem INV.inn {L i : Nat} {M : Mm} (h : INV L M) (hi : i + 6 ≤ L) (hL : L ≤ 3072) (k : Nat) (hk : k < 6) : vp_in (nI i + nI k) (M.1 70001 4000).toNatClampNeg := by
  obtain ⟨w, ta, tl, tp, fw, im, w2, ta2, X⟩ := h
  rw [X.1, nI_c (by omega), nI_add]
  exact nI_in2 (by omega) (by omega)
theorem INV.len {L : Nat} {M : Mm} (h : INV L M) : M.1 70001 4000 = nI L := by
  obtain ⟨w, ta, tl, tp, fw, im, w2, ta2, X⟩ := h
  exact X.1
section LW
variable {L g i : Nat} {M : Mm}
theorem w_0 (hI : INV L M) (hi : i + 6 ≤ L) (hL : L ≤ 3072) (hk : ∀ N, INV L N → WL g 2686 (LO i) [] N) : WL g 208 (LO i) [] M := by
  have hv := hI.inn hi hL
  refine go_in (e900_208 ?_)
  refine ⟨hv 1 (by decide), hv 2 (by decide), hv 3 (by decide), hv 4 (by decide), hv 5 (by decide), useC (p79 hI) fun vs N q => ?_⟩
  obtain ⟨y, rfl, hN, q⟩ := q
  refine e900_242 ?_
  simp only [hN]
  refine ⟨hv 1 (by decide), hv 2 (by decide), hv 3 (by decide), hv 4 (by decide), hv 5 (by decide), useC q fun us O q => ?_⟩
  obtain ⟨rfl, hJ⟩ := q
  exact e900_276 ⟨fun _ => hk _ hJ, fun hn => absurd rfl hn⟩
theorem w_1 (hI : INV L M) (hi : i + 6 ≤ L) (hL : L ≤ 3072) (hk : ∀ N, INV L N → WL g 2686 (LO i) [] N) : WL g 281 (LO i) [] M := by
  have hv := hI.inn hi hL
  refine go_in (e900_281 ?_)
  refine ⟨hv 1 (by decide), useC (p80 hI) fun vs N q => ?_⟩
  obtain ⟨y, rfl, hN, q⟩ := q
  refine e900_291 ?_
  simp only [hN]
  refine ⟨hv 1 (by decide), useC q fun us O q => ?_⟩
  obtain ⟨rfl, hJ⟩ := q
  exact e900_301 ⟨fun _ => hk _ hJ, fun hn => absurd rfl hn⟩
theorem w_2 (hI : INV L M) (hi : i + 6 ≤ L) (hL : L ≤ 3072) (hk : ∀ N, INV L N → WL g 2686 (LO i) [] N) : WL (g + 1) 306 (LO i) [] M := by
  have hv := hI.inn hi hL
  refine go_in (e900_306 ?_)
  refine ⟨hv 1 (by decide), hv 2 (by decide), thr_s (useC (p234 hI) fun vs N q => ?_)⟩
  obtain ⟨v, hv9, rfl, hN, q⟩ := q
  refine e900_322 ?_
  simp only [hN]
  refine ⟨hv 1 (by decide), hv 2 (by decide), useC q fun us O q => ?_⟩
  obtain ⟨rfl, h0, hJ⟩ := q
  refine e900_340 (useC (upC (c129 (d := 0)) (by decide)) fun ws Z q => ?_)
  obtain ⟨rfl, rfl⟩ := q
  exact e900_344 ⟨fun _ => go_in (e900_351 (hk _ hJ)), fun hn => absurd h0 hn⟩
theorem w_3 (hI : INV L M) (hi : i + 6 ≤ L) (hL : L ≤ 3072) (hk : ∀ N, INV L N → WL g 2686 (LO i) [] N) : WL (g + 1) 354 (LO i) [] M := by
  have hv := hI.inn hi hL
  refine go_in (e900_354 ?_)
  refine ⟨hv 1 (by decide), hv 2 (by decide), hv 3 (by decide), hv 4 (by decide), thr_s (useC (p235 hI) fun vs N q => ?_)⟩
  obtain ⟨v, hv9, rfl, hN, q⟩ := q
  refine e900_382 ?_
  simp only [hN]
  refine ⟨hv 1 (by decide), hv 2 (by decide), hv 3 (by decide), hv 4 (by decide), useC q fun us O q => ?_⟩
  obtain ⟨rfl, h0, hJ⟩ := q
  refine e900_412 (useC (upC (c129 (d := 0)) (by decide)) fun ws Z q => ?_)
  obtain ⟨rfl, rfl⟩ := q
  exact e900_416 ⟨fun _ => go_in (e900_423 (hk _ hJ)), fun hn => absurd h0 hn⟩
theorem w_4 (hI : INV L M) (hi : i + 6 ≤ L) (hL : L ≤ 3072) (hk : ∀ N, INV L N → WL g 2686 (LO i) [] N) : WL (g + 1) 426 (LO i) [] M := by
  have hv := hI.inn hi hL
  refine go_in (e900_426 ?_)
  refine ⟨hv 1 (by decide), hv 2 (by decide), thr_s (useC (p236 hI) fun vs N q => ?_)⟩
  obtain ⟨v, hv9, rfl, hN, q⟩ := q
  refine e900_442 ?_
  simp only [hN]
  refine ⟨hv 1 (by decide), hv 2 (by decide), useC q fun us O q => ?_⟩
  obtain ⟨rfl, h0, hJ⟩ := q
  refine e900_460 (useC (upC (c129 (d := 0)) (by decide)) fun ws Z q => ?_)
  obtain ⟨rfl, rfl⟩ := q
  exact e900_464 ⟨fun _ => go_in (e900_471 (hk _ hJ)), fun hn => absurd h0 hn⟩
theorem w_5 (hI : INV L M) (hi : i + 6 ≤ L) (hL : L ≤ 3072) (hk : ∀ N, INV L N → WL g 2686 (LO i) [] N) : WL (g + 1) 474 (LO i) [] M := by
  have hv := hI.inn hi hL
  refine go_in (e900_474 ?_)
  refine ⟨hv 1 (by decide), hv 2 (by decide), hv 3 (by decide), hv 4 (by decide), thr_s (useC (p237 hI) fun vs N q => ?_)⟩
  obtain ⟨v, hv9, rfl, hN, q⟩ := q
  refine e900_503 ?_
  simp only [hN]
  refine ⟨hv 1 (by decide), hv 2 (by decide), hv 3 (by decide), hv 4 (by decide), useC q fun us O q => ?_⟩
  obtain ⟨y, rfl, hy, h0, hJ⟩ := q
  refine e900_533 (useC (upC (c129 (d := 0)) (by decide)) fun ws Z q => ?_)
  obtain ⟨rfl, rfl⟩ := q
  exact e900_539 ⟨fun _ => go_in (e900_546 ⟨fun _ => go_in (e900_563 (hk _ hJ)), fun hz => ⟨nI_in2 (by decide) (by decide), fun _ => go_in (e900_563 (hk _ hJ)), fun hn => absurd (cmp_eq.mpr (hy (v_0 hv9 hz))) hn⟩⟩), fun hn => absurd h0 hn⟩
theorem w_6 (hI : INV L M) (hi : i + 6 ≤ L) (hL : L ≤ 3072) (hk : ∀ N, INV L N → WL g 2686 (LO i) [] N) : WL (g + 1) 566 (LO i) [] M := by
  have hv := hI.inn hi hL
  refine go_in (e900_566 ?_)
  refine ⟨hv 1 (by decide), hv 2 (by decide), hv 3 (by decide), hv 4 (by decide), hv 5 (by decide), thr_s (useC (p238 hI) fun vs N q => ?_)⟩
  obtain ⟨v, hv9, rfl, hN, q⟩ := q
  refine e900_601 ?_
  simp only [hN]
  refine ⟨hv 1 (by decide), hv 2 (by decide), hv 3 (by decide), hv 4 (by decide), hv 5 (by decide), useC q fun us O q => ?_⟩
  obtain ⟨y, rfl, hy, h0, hJ⟩ := q
  refine e900_637 (useC (upC (c129 (d := 0)) (by decide)) fun ws Z q => ?_)
  obtain ⟨rfl, rfl⟩ := q
  exact e900_643 ⟨fun _ => go_in (e900_650 ⟨fun _ => go_in (e900_667 (hk _ hJ)), fun hz => ⟨nI_in2 (by decide) (by decide), fun _ => go_in (e900_667 (hk _ hJ)), fun hn => absurd (cmp_eq.mpr (hy (v_0 hv9 hz))) hn⟩⟩), fun hn => absurd h0 hn⟩
theorem w_7 (hI : INV L M) (hi : i + 6 ≤ L) (hL : L ≤ 3072) (hk : ∀ N, INV L N → WL g 2686 (LO i) [] N) : WL (g + 1) 670 (LO i) [] M := by
  have hv := hI.inn hi hL
  refine go_in (e900_670 ?_)
  refine ⟨hv 1 (by decide), thr_s (useC (p239 hI) fun vs N q => ?_)⟩
  obtain ⟨v, hv9, rfl, hN, q⟩ := q
  refine e900_681 ?_
  simp only [hN]
  refine ⟨hv 1 (by decide), useC q fun us O q => ?_⟩
  obtain ⟨b, rfl, hy, h0, hJ⟩ := q
  refine e900_693 (useC (upC (c129 (d := 0)) (by decide)) fun ws Z q => ?_)
  obtain ⟨rfl, rfl⟩ := q
  cases b with
  | false => exact e900_699 ⟨fun _ => go_in (e900_706 ⟨fun _ => go_in (e900_730 (hk _ hJ)), fun hz => ⟨nI_in2 (by decide) (by decide), fun _ => go_in (e900_723 (go_in (e900_724 ⟨fun _ => go_in (e900_730 (hk _ hJ)), fun hn => absurd (cmp_eq.mpr (hy (v_0 hv9 hz))) hn⟩))), fun z => absurd rfl z⟩⟩), fun hn => absurd h0 hn⟩
  | true => exact e900_699 ⟨fun _ => go_in (e900_706 ⟨fun _ => go_in (e900_730 (hk _ hJ)), fun hz => ⟨nI_in2 (by decide) (by decide), fun z => absurd z (by decide), fun _ => go_in (e900_724 ⟨fun _ => go_in (e900_730 (hk _ hJ)), fun hn => absurd (cmp_eq.mpr (hy (v_0 hv9 hz))) hn⟩)⟩⟩), fun hn => absurd h0 hn⟩
theorem w_8 (hI : INV L M) (hi : i + 6 ≤ L) (hL : L ≤ 3072) (hk : ∀ N, INV L N → WL g 2686 (LO i) [] N) : WL (g + 1) 733 (LO i) [] M := by
  have hv := hI.inn hi hL
  refine go_in (e900_733 ?_)
  refine thr_s (useC (p240 hI) fun vs N q => ?_)
  obtain ⟨v, hv9, rfl, hN, q⟩ := q
  refine e900_738 ?_
  refine useC q fun us O q => ?_
  obtain ⟨y, rfl, hy, h0, hJ⟩ := q
  refine e900_744 (useC (upC (c129 (d := 0)) (by decide)) fun ws Z q => ?_)
  obtain ⟨rfl, rfl⟩ := q
  exact e900_750 ⟨fun _ => go_in (e900_757 ⟨fun _ => go_in (e900_774 (hk _ hJ)), fun hz => ⟨nI_in2 (by decide) (by decide), fun _ => go_in (e900_774 (hk _ hJ)), fun hn => absurd (cmp_eq.mpr (hy (v_0 hv9 hz))) hn⟩⟩), fun hn => absurd h0 hn⟩
theorem w_9 (hI : INV L M) (hi : i + 6 ≤ L) (hL : L ≤ 3072) (hk : ∀ N, INV L N → WL g 2686 (LO i) [] N) : WL g 777 (LO i) [] M := by
  have hv := hI.inn hi hL
  refine go_in (e900_777 ?_)
  refine useC (p88 hI) fun vs N q => ?_
  obtain ⟨y, rfl, hN, q⟩ := q
  refine e900_781 ?_
  refine useC q fun us O q => ?_
  obtain ⟨rfl, hJ⟩ := q
  exact e900_785 ⟨fun _ => hk _ hJ, fun hn => absurd rfl hn⟩
theorem w_10 (hI : INV L M) (hi : i + 6 ≤ L) (hL : L ≤ 3072) (hk : ∀ N, INV L N → WL g 2686 (LO i) [] N) : WL (g + 1) 790 (LO i) [] M := by
  have hv := hI.inn hi hL
  refine go_in (e900_790 ?_)
  refine ⟨hv 1 (by decide), hv 2 (by decide), thr_s (useC (p241 hI) fun vs N q => ?_)⟩
  obtain ⟨v, hv9, rfl, hN, q⟩ := q
  refine e900_807 ?_
  simp only [hN]
  refine ⟨hv 1 (by decide), hv 2 (by decide), useC q fun us O q => ?_⟩
  obtain ⟨b, rfl, hy, h0, hJ⟩ := q
  refine e900_825 (useC (upC (c129 (d := 0)) (by decide)) fun ws Z q => ?_)
  obtain ⟨rfl, rfl⟩ := q
  cases b with
  | false => exact e900_831 ⟨fun _ => go_in (e900_838 ⟨fun _ => go_in (e900_862 (hk _ hJ)), fun hz => ⟨nI_in2 (by decide) (by decide), fun _ => go_in (e900_855 (go_in (e900_856 ⟨fun _ => go_in (e900_862 (hk _ hJ)), fun hn => absurd (cmp_eq.mpr (hy (v_0 hv9 hz))) hn⟩))), fun z => absurd rfl z⟩⟩), fun hn => absurd h0 hn⟩
  | true => exact e900_831 ⟨fun _ => go_in (e900_838 ⟨fun _ => go_in (e900_862 (hk _ hJ)), fun hz => ⟨nI_in2 (by decide) (by decide), fun z => absurd z (by decide), fun _ => go_in (e900_856 ⟨fun _ => go_in (e900_862 (hk _ hJ)), fun hn => absurd (cmp_eq.mpr (hy (v_0 hv9 hz))) hn⟩)⟩⟩), fun hn => absurd h0 hn⟩
theorem w_11 (hI : INV L M) (hi : i + 6 ≤ L) (hL : L ≤ 3072) (hk : ∀ N, INV L N → WL g 2686 (LO i) [] N) : WL (g + 1) 865 (LO i) [] M := by
  have hv := hI.inn hi hL
  refine go_in (e900_865 ?_)
  refine ⟨hv 1 (by decide), hv 2 (by decide), hv 3 (by decide), br_b (F := fun x => WL (g + 1) 892 (LO i) [.int x, .int (rd M i 2), .int (rd M i 1), .ref 704] M) ?_ (fun q => go_in (e900_891 q)) fun q => q⟩
  refine go_in (e900_892 ?_)
  refine ⟨hv 4 (by decide), br_b (F := fun x => WL (g + 1) 906 (LO i) [.int x, .int (nI (cond (nz (rd M i 3)) 1 0)), .int (rd M i 2), .int (rd M i 1), .ref 704] M) ?_ (fun q => go_in (e900_905 q)) fun q => q⟩
  refine go_in (e900_906 ?_)
  refine thr_s (useC (p242 hI) fun vs N q => ?_)
  obtain ⟨v, hv9, rfl, hN, q⟩ := q
  refine e900_910 ?_
  simp only [hN]
  refine ⟨hv 1 (by decide), hv 2 (by decide), hv 3 (by decide), br_b (F := fun x => WL g 939 (LO5 i v) [.int x, .int (rd M i 2), .int (rd M i 1), .ref 768] N) ?_ (fun q => go_in (e900_938 q)) fun q => q⟩
  refine go_in (e900_939 ?_)
  simp only [hN]
  refine ⟨hv 4 (by decide), br_b (F := fun x => WL g 953 (LO5 i v) [.int x, .int (nI (cond (nz (rd M i 3)) 1 0)), .int (rd M i 2), .int (rd M i 1), .ref 768] N) ?_ (fun q => go_in (e900_952 q)) fun q => q⟩
  refine go_in (e900_953 ?_)
  refine useC q fun us O q => ?_
  obtain ⟨y, rfl, hy, h0, hJ⟩ := q
  refine e900_956 (useC (upC (c129 (d := 0)) (by decide)) fun ws Z q => ?_)
  obtain ⟨rfl, rfl⟩ := q
  exact e900_962 ⟨fun _ => go_in (e900_969 ⟨fun _ => go_in (e900_986 (hk _ hJ)), fun hz => ⟨nI_in2 (by decide) (by decide), fun _ => go_in (e900_986 (hk _ hJ)), fun hn => absurd (cmp_eq.mpr (hy (v_0 hv9 hz))) hn⟩⟩), fun hn => absurd h0 hn⟩
theorem w_12 (hI : INV L M) (hi : i + 6 ≤ L) (hL : L ≤ 3072) (hk : ∀ N, INV L N → WL g 2686 (LO i) [] N) : WL (g + 1) 989 (LO i) [] M := by
  have hv := hI.inn hi hL
  refine go_in (e900_989 ?_)
  refine ⟨hv 1 (by decide), hv 2 (by decide), hv 3 (by decide), br_b (F := fun x => WL (g + 1) 1016 (LO i) [.int x, .int (rd M i 2), .int (rd M i 1), .ref 704] M) ?_ (fun q => go_in (e900_1015 q)) fun q => q⟩
  refine go_in (e900_1016 ?_)
  refine thr_s (useC (p243 hI) fun vs N q => ?_)
  obtain ⟨v, hv9, rfl, hN, q⟩ := q
  refine e900_1020 ?_
  simp only [hN]
  refine ⟨hv 1 (by decide), hv 2 (by decide), hv 3 (by decide), br_b (F := fun x => WL g 1049 (LO5 i v) [.int x, .int (rd M i 2), .int (rd M i 1), .ref 768] N) ?_ (fun q => go_in (e900_1048 q)) fun q => q⟩
  refine go_in (e900_1049 ?_)
  refine useC q fun us O q => ?_
  obtain ⟨y, rfl, hy, h0, hJ⟩ := q
  refine e900_1052 (useC (upC (c129 (d := 0)) (by decide)) fun ws Z q => ?_)
  obtain ⟨rfl, rfl⟩ := q
  exact e900_1058 ⟨fun _ => go_in (e900_1065 ⟨fun _ => go_in (e900_1082 (hk _ hJ)), fun hz => ⟨nI_in2 (by decide) (by decide), fun _ => go_in (e900_1082 (hk _ hJ)), fun hn => absurd (cmp_eq.mpr (hy (v_0 hv9 hz))) hn⟩⟩), fun hn => absurd h0 hn⟩
theorem w_13 (hI : INV L M) (hi : i + 6 ≤ L) (hL : L ≤ 3072) (hk : ∀ N, INV L N → WL g 2686 (LO i) [] N) : WL (g + 1) 1085 (LO i) [] M := by
  have hv := hI.inn hi hL
  refine go_in (e900_1085 ?_)
  refine ⟨hv 1 (by decide), hv 2 (by decide), br_b (F := fun x => WL (g + 1) 1106 (LO i) [.int x, .int (rd M i 1), .ref 704] M) ?_ (fun q => go_in (e900_1105 q)) fun q => q⟩
  refine go_in (e900_1106 ?_)
  refine ⟨hv 3 (by decide), thr_s (useC (p244 hI) fun vs N q => ?_)⟩
  obtain ⟨v, hv9, rfl, hN, q⟩ := q
  refine e900_1116 ?_
  simp only [hN]
  refine ⟨hv 1 (by decide), hv 2 (by decide), br_b (F := fun x => WL g 1139 (LO5 i v) [.int x, .int (rd M i 1), .ref 768] N) ?_ (fun q => go_in (e900_1138 q)) fun q => q⟩
  refine go_in (e900_1139 ?_)
  simp only [hN]
  refine ⟨hv 3 (by decide), useC q fun us O q => ?_⟩
  obtain ⟨y, rfl, hy, h0, hJ⟩ := q
  refine e900_1148 (useC (upC (c129 (d := 0)) (by decide)) fun ws Z q => ?_)
  obtain ⟨rfl, rfl⟩ := q
  exact e900_1154 ⟨fun _ => go_in (e900_1161 ⟨fun _ => go_in (e900_1178 (hk _ hJ)), fun hz => ⟨nI_in2 (by decide) (by decide), fun _ => go_in (e900_1178 (hk _ hJ)), fun hn => absurd (cmp_eq.mpr (hy (v_0 hv9 hz))) hn⟩⟩), fun hn => absurd h0 hn⟩
theorem w_14 (hI : INV L M) (hi : i + 6 ≤ L) (hL : L ≤ 3072) (hk : ∀ N, INV L N → WL g 2686 (LO i) [] N) : WL (g + 1) 1181 (LO i) [] M := by
  have hv := hI.inn hi hL
  refine go_in (e900_1181 ?_)
  refine ⟨hv 1 (by decide), hv 2 (by decide), hv 3 (by decide), br_b (F := fun x => WL (g + 1) 1208 (LO i) [.int x, .int (rd M i 2), .int (rd M i 1), .ref 704] M) ?_ (fun q => go_in (e900_1207 q)) fun q => q⟩
  refine go_in (e900_1208 ?_)
  refine ⟨hv 4 (by decide), br_b (F := fun x => WL (g + 1) 1222 (LO i) [.int x, .int (nI (cond (nz (rd M i 3)) 1 0)), .int (rd M i 2), .int (rd M i 1), .ref 704] M) ?_ (fun q => go_in (e900_1221 q)) fun q => q⟩
  refine go_in (e900_1222 ?_)
  refine thr_s (useC (p245 hI) fun vs N q => ?_)
  obtain ⟨v, hv9, rfl, hN, q⟩ := q
  refine e900_1226 ?_
  simp only [hN]
  refine ⟨hv 1 (by decide), hv 2 (by decide), hv 3 (by decide), br_b (F := fun x => WL g 1255 (LO5 i v) [.int x, .int (rd M i 2), .int (rd M i 1), .ref 768] N) ?_ (fun q => go_in (e900_1254 q)) fun q => q⟩
  refine go_in (e900_1255 ?_)
  simp only [hN]
  refine ⟨hv 4 (by decide), br_b (F := fun x => WL g 1269 (LO5 i v) [.int x, .int (nI (cond (nz (rd M i 3)) 1 0)), .int (rd M i 2), .int (rd M i 1), .ref 768] N) ?_ (fun q => go_in (e900_1268 q)) fun q => q⟩
  refine go_in (e900_1269 ?_)
  refine useC q fun us O q => ?_
  obtain ⟨y, rfl, hy, h0, hJ⟩ := q
  refine e900_1272 (useC (upC (c129 (d := 0)) (by decide)) fun ws Z q => ?_)
  obtain ⟨rfl, rfl⟩ := q
  exact e900_1278 ⟨fun _ => go_in (e900_1285 ⟨fun _ => go_in (e900_1301 (hk _ hJ)), fun hz => ⟨nI_in2 (by decide) (by decide), fun _ => go_in (e900_1301 (hk _ hJ)), fun hn => absurd (cmp_eq.mpr (hy (v_0 hv9 hz))) hn⟩⟩), fun hn => absurd h0 hn⟩
theorem w_15 (hI : INV L M) (hi : i + 6 ≤ L) (hL : L ≤ 3072) (hk : ∀ N, INV L N → WL g 2686 (LO i) [] N) : WL g 1304 (LO i) [] M := by
  have hv := hI.inn hi hL
  refine go_in (e900_1304 ?_)
  refine useC (p100 hI) fun vs N q => ?_
  obtain ⟨y, rfl, hN, q⟩ := q
  refine e900_1308 ?_
  refine useC q fun us O q => ?_
  obtain ⟨rfl, hJ⟩ := q
  exact e900_1312 ⟨fun _ => hk _ hJ, fun hn => absurd rfl hn⟩
theorem w_16 (hI : INV L M) (hi : i + 6 ≤ L) (hL : L ≤ 3072) (hk : ∀ N, INV L N → WL g 2686 (LO i) [] N) : WL (g + 1) 1317 (LO i) [] M := by
  have hv := hI.inn hi hL
  refine go_in (e900_1317 ?_)
  refine ⟨hv 1 (by decide), hv 2 (by decide), thr_s (useC (p246 hI) fun vs N q => ?_)⟩
  obtain ⟨v, hv9, rfl, hN, q⟩ := q
  refine e900_1334 ?_
  simp only [hN]
  refine ⟨hv 1 (by decide), hv 2 (by decide), useC q fun us O q => ?_⟩
  obtain ⟨y, rfl, hy, h0, hJ⟩ := q
  refine e900_1352 (useC (upC (c129 (d := 0)) (by decide)) fun ws Z q => ?_)
  obtain ⟨rfl, rfl⟩ := q
  exact e900_1358 ⟨fun _ => go_in (e900_1365 ⟨fun _ => go_in (e900_1382 (hk _ hJ)), fun hz => ⟨nI_in2 (by decide) (by decide), fun _ => go_in (e900_1382 (hk _ hJ)), fun hn => absurd (cmp_eq.mpr (hy (v_0 hv9 hz))) hn⟩⟩), fun hn => absurd h0 hn⟩
theorem w_17 (hI : INV L M) (hi : i + 6 ≤ L) (hL : L ≤ 3072) (hk : ∀ N, INV L N → WL g 2686 (LO i) [] N) : WL (g + 1) 1385 (LO i) [] M := by
  have hv := hI.inn hi hL
  refine go_in (e900_1385 ?_)
  refine ⟨hv 1 (by decide), hv 2 (by decide), thr_s (useC (p247 hI) fun vs N q => ?_)⟩
  obtain ⟨v, hv9, rfl, hN, q⟩ := q
  refine e900_1402 ?_
  simp only [hN]
  refine ⟨hv 1 (by decide), hv 2 (by decide), useC q fun us O q => ?_⟩
  obtain ⟨y, rfl, hy, h0, hJ⟩ := q
  refine e900_1420 (useC (upC (c129 (d := 0)) (by decide)) fun ws Z q => ?_)
  obtain ⟨rfl, rfl⟩ := q
  exact e900_1426 ⟨fun _ => go_in (e900_1433 ⟨fun _ => go_in (e900_1450 (hk _ hJ)), fun hz => ⟨nI_in2 (by decide) (by decide), fun _ => go_in (e900_1450 (hk _ hJ)), fun hn => absurd (cmp_eq.mpr (hy (v_0 hv9 hz))) hn⟩⟩), fun hn => absurd h0 hn⟩
theorem w_18 (hI : INV L M) (hi : i + 6 ≤ L) (hL : L ≤ 3072) (hk : ∀ N, INV L N → WL g 2686 (LO i) [] N) : WL (g + 1) 1453 (LO i) [] M := by
  have hv := hI.inn hi hL
  refine go_in (e900_1453 ?_)
  refine ⟨hv 1 (by decide), hv 2 (by decide), br_b (F := fun x => WL (g + 1) 1474 (LO i) [.int x, .int (rd M i 1), .ref 704] M) ?_ (fun q => go_in (e900_1473 q)) fun q => q⟩
  refine go_in (e900_1474 ?_)
  refine thr_s (useC (p248 hI) fun vs N q => ?_)
  obtain ⟨v, hv9, rfl, hN, q⟩ := q
  refine e900_1478 ?_
  simp only [hN]
  refine ⟨hv 1 (by decide), hv 2 (by decide), br_b (F := fun x => WL g 1501 (LO5 i v) [.int x, .int (rd M i 1), .ref 768] N) ?_ (fun q => go_in (e900_1500 q)) fun q => q⟩
  refine go_in (e900_1501 ?_)
  refine useC q fun us O q => ?_
  obtain ⟨y, rfl, hy, h0, hJ⟩ := q
  refine e900_1504 (useC (upC (c129 (d := 0)) (by decide)) fun ws Z q => ?_)
  obtain ⟨rfl, rfl⟩ := q
  exact e900_1510 ⟨fun _ => go_in (e900_1517 ⟨fun _ => go_in (e900_1533 (hk _ hJ)), fun hz => ⟨nI_in2 (by decide) (by decide), fun _ => go_in (e900_1533 (hk _ hJ)), fun hn => absurd (cmp_eq.mpr (hy (v_0 hv9 hz))) hn⟩⟩), fun hn => absurd h0 hn⟩
theorem w_19 (hI : INV L M) (hi : i + 6 ≤ L) (hL : L ≤ 3072) (hk : ∀ N, INV L N → WL g 2686 (LO i) [] N) : WL (g + 1) 1536 (LO i) [] M := by
  have hv := hI.inn hi hL
  refine go_in (e900_1536 ?_)
  refine ⟨hv 1 (by decide), thr_s (useC (p249 hI) fun vs N q => ?_)⟩
  obtain ⟨v, hv9, rfl, hN, q⟩ := q
  refine e900_1547 ?_
  simp only [hN]
  refine ⟨hv 1 (by decide), useC q fun us O q => ?_⟩
  obtain ⟨y, rfl, hy, h0, hJ⟩ := q
  refine e900_1559 (useC (upC (c129 (d := 0)) (by decide)) fun ws Z q => ?_)
  obtain ⟨rfl, rfl⟩ := q
  exact e900_1565 ⟨fun _ => go_in (e900_1572 ⟨fun _ => go_in (e900_1588 (hk _ hJ)), fun hz => ⟨nI_in2 (by decide) (by decide), fun _ => go_in (e900_1588 (hk _ hJ)), fun hn => absurd (cmp_eq.mpr (hy (v_0 hv9 hz))) hn⟩⟩), fun hn => absurd h0 hn⟩
theorem w_20 (hI : INV L M) (hi : i + 6 ≤ L) (hL : L ≤ 3072) (hk : ∀ N, INV L N → WL g 2686 (LO i) [] N) : WL (g + 1) 1591 (LO i) [] M := by
  have hv := hI.inn hi hL
  refine go_in (e900_1591 ?_)
  refine ⟨hv 1 (by decide), hv 2 (by decide), hv 3 (by decide), thr_s (useC (p250 hI) fun vs N q => ?_)⟩
  obtain ⟨v, hv9, rfl, hN, q⟩ := q
  refine e900_1614 ?_
  simp only [hN]
  refine ⟨hv 1 (by decide), hv 2 (by decide), hv 3 (by decide), useC q fun us O q => ?_⟩
  obtain ⟨y, rfl, hy, h0, hJ⟩ := q
  refine e900_1638 (useC (upC (c129 (d := 0)) (by decide)) fun ws Z q => ?_)
  obtain ⟨rfl, rfl⟩ := q
  exact e900_1644 ⟨fun _ => go_in (e900_1651 ⟨fun _ => go_in (e900_1668 (hk _ hJ)), fun hz => ⟨nI_in2 (by decide) (by decide), fun _ => go_in (e900_1668 (hk _ hJ)), fun hn => absurd (cmp_eq.mpr (hy (v_0 hv9 hz))) hn⟩⟩), fun hn => absurd h0 hn⟩
theorem w_21 (hI : INV L M) (hi : i + 6 ≤ L) (hL : L ≤ 3072) (hk : ∀ N, INV L N → WL g 2686 (LO i) [] N) : WL (g + 1) 1671 (LO i) [] M := by
  have hv := hI.inn hi hL
  refine go_in (e900_1671 ?_)
  refine ⟨hv 1 (by decide), hv 2 (by decide), hv 3 (by decide), thr_s (useC (p251 hI) fun vs N q => ?_)⟩
  obtain ⟨v, hv9, rfl, hN, q⟩ := q
  refine e900_1694 ?_
  simp only [hN]
  refine ⟨hv 1 (by decide), hv 2 (by decide), hv 3 (by decide), useC q fun us O q => ?_⟩
  obtain ⟨y, rfl, hy, h0, hJ⟩ := q
  refine e900_1718 (useC (upC (c129 (d := 0)) (by decide)) fun ws Z q => ?_)
  obtain ⟨rfl, rfl⟩ := q
  exact e900_1724 ⟨fun _ => go_in (e900_1731 ⟨fun _ => go_in (e900_1748 (hk _ hJ)), fun hz => ⟨nI_in2 (by decide) (by decide), fun _ => go_in (e900_1748 (hk _ hJ)), fun hn => absurd (cmp_eq.mpr (hy (v_0 hv9 hz))) hn⟩⟩), fun hn => absurd h0 hn⟩
theorem w_22 (hI : INV L M) (hi : i + 6 ≤ L) (hL : L ≤ 3072) (hk : ∀ N, INV L N → WL g 2686 (LO i) [] N) : WL (g + 1) 1751 (LO i) [] M := by
  have hv := hI.inn hi hL
  refine go_in (e900_1751 ?_)
  refine ⟨hv 1 (by decide), hv 2 (by decide), hv 3 (by decide), hv 4 (by decide), br_b (F := fun x => WL (g + 1) 1784 (LO i) [.int x, .int (rd M i 3), .int (rd M i 2), .int (rd M i 1), .ref 704] M) ?_ (fun q => go_in (e900_1783 q)) fun q => q⟩
  refine go_in (e900_1784 ?_)
  refine thr_s (useC (p252 hI) fun vs N q => ?_)
  obtain ⟨v, hv9, rfl, hN, q⟩ := q
  refine e900_1788 ?_
  simp only [hN]
  refine ⟨hv 1 (by decide), hv 2 (by decide), hv 3 (by decide), hv 4 (by decide), br_b (F := fun x => WL g 1823 (LO5 i v) [.int x, .int (rd M i 3), .int (rd M i 2), .int (rd M i 1), .ref 768] N) ?_ (fun q => go_in (e900_1822 q)) fun q => q⟩
  refine go_in (e900_1823 ?_)
  refine useC q fun us O q => ?_
  obtain ⟨y, rfl, hy, h0, hJ⟩ := q
  refine e900_1826 (useC (upC (c129 (d := 0)) (by decide)) fun ws Z q => ?_)
  obtain ⟨rfl, rfl⟩ := q
  exact e900_1832 ⟨fun _ => go_in (e900_1839 ⟨fun _ => go_in (e900_1855 (hk _ hJ)), fun hz => ⟨nI_in2 (by decide) (by decide), fun _ => go_in (e900_1855 (hk _ hJ)), fun hn => absurd (cmp_eq.mpr (hy (v_0 hv9 hz))) hn⟩⟩), fun hn => absurd h0 hn⟩
theorem w_23 (hI : INV L M) (hi : i + 6 ≤ L) (hL : L ≤ 3072) (hk : ∀ N, INV L N → WL g 2686 (LO i) [] N) : WL (g + 1) 1858 (LO i) [] M := by
  have hv := hI.inn hi hL
  refine go_in (e900_1858 ?_)
  refine ⟨hv 1 (by decide), hv 2 (by decide), thr_s (useC (p253 hI) fun vs N q => ?_)⟩
  obtain ⟨v, hv9, rfl, hN, q⟩ := q
  refine e900_1875 ?_
  simp only [hN]
  refine ⟨hv 1 (by decide), hv 2 (by decide), useC q fun us O q => ?_⟩
  obtain ⟨y, rfl, hy, h0, hJ⟩ := q
  refine e900_1893 (useC (upC (c129 (d := 0)) (by decide)) fun ws Z q => ?_)
  obtain ⟨rfl, rfl⟩ := q
  exact e900_1899 ⟨fun _ => go_in (e900_1906 ⟨fun _ => go_in (e900_1923 (hk _ hJ)), fun hz => ⟨nI_in2 (by decide) (by decide), fun _ => go_in (e900_1923 (hk _ hJ)), fun hn => absurd (cmp_eq.mpr (hy (v_0 hv9 hz))) hn⟩⟩), fun hn => absurd h0 hn⟩
theorem w_24 (hI : INV L M) (hi : i + 6 ≤ L) (hL : L ≤ 3072) (hk : ∀ N, INV L N → WL g 2686 (LO i) [] N) : WL (g + 1) 1926 (LO i) [] M := by
  have hv := hI.inn hi hL
  refine go_in (e900_1926 ?_)
  refine ⟨hv 1 (by decide), thr_s (useC (p254 hI) fun vs N q => ?_)⟩
  obtain ⟨v, hv9, rfl, hN, q⟩ := q
  refine e900_1937 ?_
  simp only [hN]
  refine ⟨hv 1 (by decide), useC q fun us O q => ?_⟩
  obtain ⟨y, rfl, hy, h0, hJ⟩ := q
  refine e900_1949 (useC (upC (c129 (d := 0)) (by decide)) fun ws Z q => ?_)
  obtain ⟨rfl, rfl⟩ := q
  exact e900_1955 ⟨fun _ => go_in (e900_1962 ⟨fun _ => go_in (e900_1979 (hk _ hJ)), fun hz => ⟨nI_in2 (by decide) (by decide), fun _ => go_in (e900_1979 (hk _ hJ)), fun hn => absurd (cmp_eq.mpr (hy (v_0 hv9 hz))) hn⟩⟩), fun hn => absurd h0 hn⟩
theorem w_25 (hI : INV L M) (hi : i + 6 ≤ L) (hL : L ≤ 3072) (hk : ∀ N, INV L N → WL g 2686 (LO i) [] N) : WL g 1982 (LO i) [] M := by
  have hv := hI.inn hi hL
  refine go_in (e900_1982 ?_)
  refine useC (p102 hI) fun vs N q => ?_
  obtain ⟨y, rfl, hN, q⟩ := q
  refine e900_1986 ?_
  refine useC q fun us O q => ?_
  obtain ⟨rfl, hJ⟩ := q
  exact e900_1990 ⟨fun _ => hk _ hJ, fun hn => absurd rfl hn⟩
theorem w_26 (hI : INV L M) (hi : i + 6 ≤ L) (hL : L ≤ 3072) (hk : ∀ N, INV L N → WL g 2686 (LO i) [] N) : WL (g + 1) 1995 (LO i) [] M := by
  have hv := hI.inn hi hL
  refine go_in (e900_1995 ?_)
  refine ⟨hv 1 (by decide), hv 2 (by decide), thr_s (useC (p255 hI) fun vs N q => ?_)⟩
  obtain ⟨v, hv9, rfl, hN, q⟩ := q
  refine e900_2012 ?_
  simp only [hN]
  refine ⟨hv 1 (by decide), hv 2 (by decide), useC q fun us O q => ?_⟩
  obtain ⟨y, rfl, hy, h0, hJ⟩ := q
  refine e900_2030 (useC (upC (c129 (d := 0)) (by decide)) fun ws Z q => ?_)
  obtain ⟨rfl, rfl⟩ := q
  exact e900_2036 ⟨fun _ => go_in (e900_2043 ⟨fun _ => go_in (e900_2059 (hk _ hJ)), fun hz => ⟨nI_in2 (by decide) (by decide), fun _ => go_in (e900_2059 (hk _ hJ)), fun hn => absurd (cmp_eq.mpr (hy (v_0 hv9 hz))) hn⟩⟩), fun hn => absurd h0 hn⟩
theorem w_27 (hI : INV L M) (hi : i + 6 ≤ L) (hL : L ≤ 3072) (hk : ∀ N, INV L N → WL g 2686 (LO i) [] N) : WL (g + 1) 2062 (LO i) [] M := by
  have hv := hI.inn hi hL
  refine go_in (e900_2062 ?_)
  refine ⟨hv 1 (by decide), hv 2 (by decide), hv 3 (by decide), thr_s (useC (p256 hI) fun vs N q => ?_)⟩
  obtain ⟨v, hv9, rfl, hN, q⟩ := q
  refine e900_2085 ?_
  simp only [hN]
  refine ⟨hv 1 (by decide), hv 2 (by decide), hv 3 (by decide), useC q fun us O q => ?_⟩
  obtain ⟨y, rfl, hy, h0, hJ⟩ := q
  refine e900_2109 (useC (upC (c129 (d := 0)) (by decide)) fun ws Z q => ?_)
  obtain ⟨rfl, rfl⟩ := q
  exact e900_2115 ⟨fun _ => go_in (e900_2122 ⟨fun _ => go_in (e900_2139 (hk _ hJ)), fun hz => ⟨nI_in2 (by decide) (by decide), fun _ => go_in (e900_2139 (hk _ hJ)), fun hn => absurd (cmp_eq.mpr (hy (v_0 hv9 hz))) hn⟩⟩), fun hn => absurd h0 hn⟩
theorem w_28 (hI : INV L M) (hi : i + 6 ≤ L) (hL : L ≤ 3072) (hk : ∀ N, INV L N → WL g 2686 (LO i) [] N) : WL (g + 1) 2142 (LO i) [] M := by
  have hv := hI.inn hi hL
  refine go_in (e900_2142 ?_)
  refine thr_s (useC (p257 hI) fun vs N q => ?_)
  obtain ⟨v, hv9, rfl, hN, q⟩ := q
  refine e900_2147 ?_
  refine useC q fun us O q => ?_
  obtain ⟨y, rfl, hy, h0, hJ⟩ := q
  refine e900_2153 (useC (upC (c129 (d := 0)) (by decide)) fun ws Z q => ?_)
  obtain ⟨rfl, rfl⟩ := q
  exact e900_2159 ⟨fun _ => go_in (e900_2166 ⟨fun _ => go_in (e900_2183 (hk _ hJ)), fun hz => ⟨nI_in2 (by decide) (by decide), fun _ => go_in (e900_2183 (hk _ hJ)), fun hn => absurd (cmp_eq.mpr (hy (v_0 hv9 hz))) hn⟩⟩), fun hn => absurd h0 hn⟩
theorem w_29 (hI : INV L M) (hi : i + 6 ≤ L) (hL : L ≤ 3072) (hk : ∀ N, INV L N → WL g 2686 (LO i) [] N) : WL (g + 1) 2186 (LO i) [] M := by
  have hv := hI.inn hi hL
  refine go_in (e900_2186 ?_)
  refine ⟨hv 1 (by decide), hv 2 (by decide), hv 3 (by decide), hv 4 (by decide), br_b (F := fun x => WL (g + 1) 2219 (LO i) [.int x, .int (rd M i 3), .int (rd M i 2), .int (rd M i 1), .ref 704] M) ?_ (fun q => go_in (e900_2218 q)) fun q => q⟩
  refine go_in (e900_2219 ?_)
  refine ⟨hv 5 (by decide), thr_s (useC (p258 hI) fun vs N q => ?_)⟩
  obtain ⟨v, hv9, rfl, hN, q⟩ := q
  refine e900_2229 ?_
  simp only [hN]
  refine ⟨hv 1 (by decide), hv 2 (by decide), hv 3 (by decide), hv 4 (by decide), br_b (F := fun x => WL g 2264 (LO5 i v) [.int x, .int (rd M i 3), .int (rd M i 2), .int (rd M i 1), .ref 768] N) ?_ (fun q => go_in (e900_2263 q)) fun q => q⟩
  refine go_in (e900_2264 ?_)
  simp only [hN]
  refine ⟨hv 5 (by decide), useC q fun us O q => ?_⟩
  obtain ⟨y, rfl, hy, h0, hJ⟩ := q
  refine e900_2273 (useC (upC (c129 (d := 0)) (by decide)) fun ws Z q => ?_)
  obtain ⟨rfl, rfl⟩ := q
  exact e900_2279 ⟨fun _ => go_in (e900_2286 ⟨fun _ => go_in (e900_2303 (hk _ hJ)), fun hz => ⟨nI_in2 (by decide) (by decide), fun _ => go_in (e900_2303 (hk _ hJ)), fun hn => absurd (cmp_eq.mpr (hy (v_0 hv9 hz))) hn⟩⟩), fun hn => absurd h0 hn⟩
theorem w_30 (hI : INV L M) (hi : i + 6 ≤ L) (hL : L ≤ 3072) (hk : ∀ N, INV L N → WL g 2686 (LO i) [] N) : WL (g + 1) 2306 (LO i) [] M := by
  have hv := hI.inn hi hL
  refine go_in (e900_2306 ?_)
  refine ⟨hv 1 (by decide), hv 2 (by decide), hv 3 (by decide), thr_s (useC (p259 hI) fun vs N q => ?_)⟩
  obtain ⟨v, hv9, rfl, hN, q⟩ := q
  refine e900_2329 ?_
  simp only [hN]
  refine ⟨hv 1 (by decide), hv 2 (by decide), hv 3 (by decide), useC q fun us O q => ?_⟩
  obtain ⟨y, rfl, hy, h0, hJ⟩ := q
  refine e900_2353 (useC (upC (c129 (d := 0)) (by decide)) fun ws Z q => ?_)
  obtain ⟨rfl, rfl⟩ := q
  exact e900_2359 ⟨fun _ => go_in (e900_2366 ⟨fun _ => go_in (e900_2382 (hk _ hJ)), fun hz => ⟨nI_in2 (by decide) (by decide), fun _ => go_in (e900_2382 (hk _ hJ)), fun hn => absurd (cmp_eq.mpr (hy (v_0 hv9 hz))) hn⟩⟩), fun hn => absurd h0 hn⟩
theorem w_31 (hI : INV L M) (hi : i + 6 ≤ L) (hL : L ≤ 3072) (hk : ∀ N, INV L N → WL g 2686 (LO i) [] N) : WL (g + 1) 2385 (LO i) [] M := by
  have hv := hI.inn hi hL
  refine go_in (e900_2385 ?_)
  refine ⟨hv 1 (by decide), hv 2 (by decide), thr_s (useC (p260 hI) fun vs N q => ?_)⟩
  obtain ⟨v, hv9, rfl, hN, q⟩ := q
  refine e900_2402 ?_
  simp only [hN]
  refine ⟨hv 1 (by decide), hv 2 (by decide), useC q fun us O q => ?_⟩
  obtain ⟨y, rfl, hy, h0, hJ⟩ := q
  refine e900_2420 (useC (upC (c129 (d := 0)) (by decide)) fun ws Z q => ?_)
  obtain ⟨rfl, rfl⟩ := q
  exact e900_2426 ⟨fun _ => go_in (e900_2433 ⟨fun _ => go_in (e900_2450 (hk _ hJ)), fun hz => ⟨nI_in2 (by decide) (by decide), fun _ => go_in (e900_2450 (hk _ hJ)), fun hn => absurd (cmp_eq.mpr (hy (v_0 hv9 hz))) hn⟩⟩), fun hn => absurd h0 hn⟩
theorem w_32 (hI : INV L M) (hi : i + 6 ≤ L) (hL : L ≤ 3072) (hk : ∀ N, INV L N → WL g 2686 (LO i) [] N) : WL (g + 1) 2453 (LO i) [] M := by
  have hv := hI.inn hi hL
  refine go_in (e900_2453 ?_)
  refine ⟨hv 1 (by decide), hv 2 (by decide), thr_s (useC (p261 hI) fun vs N q => ?_)⟩
  obtain ⟨v, hv9, rfl, hN, q⟩ := q
  refine e900_2470 ?_
  simp only [hN]
  refine ⟨hv 1 (by decide), hv 2 (by decide), useC q fun us O q => ?_⟩
  obtain ⟨y, rfl, hy, h0, hJ⟩ := q
  refine e900_2488 (useC (upC (c129 (d := 0)) (by decide)) fun ws Z q => ?_)
  obtain ⟨rfl, rfl⟩ := q
  exact e900_2494 ⟨fun _ => go_in (e900_2501 ⟨fun _ => go_in (e900_2518 (hk _ hJ)), fun hz => ⟨nI_in2 (by decide) (by decide), fun _ => go_in (e900_2518 (hk _ hJ)), fun hn => absurd (cmp_eq.mpr (hy (v_0 hv9 hz))) hn⟩⟩), fun hn => absurd h0 hn⟩
theorem w_33 (hI : INV L M) (hi : i + 6 ≤ L) (hL : L ≤ 3072) (hk : ∀ N, INV L N → WL g 2686 (LO i) [] N) : WL (g + 1) 2521 (LO i) [] M := by
  have hv := hI.inn hi hL
  refine go_in (e900_2521 ?_)
  refine ⟨hv 1 (by decide), thr_s (useC (p262 hI) fun vs N q => ?_)⟩
  obtain ⟨v, hv9, rfl, hN, q⟩ := q
  refine e900_2532 ?_
  simp only [hN]
  refine ⟨hv 1 (by decide), useC q fun us O q => ?_⟩
  obtain ⟨y, rfl, hy, h0, hJ⟩ := q
  refine e900_2544 (useC (upC (c129 (d := 0)) (by decide)) fun ws Z q => ?_)
  obtain ⟨rfl, rfl⟩ := q
  exact e900_2550 ⟨fun _ => go_in (e900_2557 ⟨fun _ => go_in (e900_2574 (hk _ hJ)), fun hz => ⟨nI_in2 (by decide) (by decide), fun _ => go_in (e900_2574 (hk _ hJ)), fun hn => absurd (cmp_eq.mpr (hy (v_0 hv9 hz))) hn⟩⟩), fun hn => absurd h0 hn⟩
theorem w_34 (hI : INV L M) (hi : i + 6 ≤ L) (hL : L ≤ 3072) (hk : ∀ N, INV L N → WL g 2686 (LO i) [] N) : WL (g + 1) 2577 (LO i) [] M := by
  have hv := hI.inn hi hL
  refine go_in (e900_2577 ?_)
  refine ⟨hv 1 (by decide), hv 2 (by decide), hv 3 (by decide), thr_s (useC (p263 hI) fun vs N q => ?_)⟩
  obtain ⟨v, hv9, rfl, hN, q⟩ := q
  refine e900_2599 ?_
  simp only [hN]
  refine ⟨hv 1 (by decide), hv 2 (by decide), hv 3 (by decide), useC q fun us O q => ?_⟩
  obtain ⟨rfl, h0, hJ⟩ := q
  refine e900_2623 (useC (upC (c129 (d := 0)) (by decide)) fun ws Z q => ?_)
  obtain ⟨rfl, rfl⟩ := q
  exact e900_2627 ⟨fun _ => go_in (e900_2634 (hk _ hJ)), fun hn => absurd h0 hn⟩
theorem w_35 (hI : INV L M) (hi : i + 6 ≤ L) (hL : L ≤ 3072) (hk : ∀ N, INV L N → WL g 2686 (LO i) [] N) : WL g 2637 (LO i) [] M := by
  have hv := hI.inn hi hL
  refine go_in (e900_2637 ?_)
  refine useC (p93 hI) fun vs N q => ?_
  obtain ⟨rfl, hN, q⟩ := q
  refine e900_2641 ?_
  refine useC q fun us O q => ?_
  obtain ⟨rfl, hJ⟩ := q
  exact e900_2645 (hk _ hJ)
theorem w_36 (hI : INV L M) (hi : i + 6 ≤ L) (hL : L ≤ 3072) (hk : ∀ N, INV L N → WL g 2686 (LO i) [] N) : WL g 2648 (LO i) [] M := by
  have hv := hI.inn hi hL
  refine go_in (e900_2648 ?_)
  refine useC (p94 hI) fun vs N q => ?_
  obtain ⟨y, rfl, hN, q⟩ := q
  refine e900_2652 ?_
  refine useC q fun us O q => ?_
  obtain ⟨rfl, hJ⟩ := q
  exact e900_2656 ⟨fun _ => hk _ hJ, fun hn => absurd rfl hn⟩
theorem w_37 (hI : INV L M) (hi : i + 6 ≤ L) (hL : L ≤ 3072) (hk : ∀ N, INV L N → WL g 2686 (LO i) [] N) : WL g 2661 (LO i) [] M := by
  have hv := hI.inn hi hL
  refine go_in (e900_2661 ?_)
  refine ⟨hv 1 (by decide), useC (p95 hI) fun vs N q => ?_⟩
  obtain ⟨y, rfl, hN, q⟩ := q
  refine e900_2671 ?_
  simp only [hN]
  refine ⟨hv 1 (by decide), useC q fun us O q => ?_⟩
  obtain ⟨rfl, hJ⟩ := q
  exact e900_2681 ⟨fun _ => hk _ hJ, fun hn => absurd rfl hn⟩
theorem law_head (hI : INV L M) (hi : i + 6 ≤ L) (hL : L ≤ 3072) (hk1 : ∀ N, INV L N → WL g 2686 (LO i) [] N) (hk0 : ∀ N, INV L N → WL (g + 1) 2686 (LO i) [] N) : WL (g + 1) 23 (LO i) [] M := by
  refine go_in (e900_23 ⟨fun z => ?_, fun _ => ⟨?_, ?_⟩⟩)
  · rw [hI.len, iz_n, iz_n, iz_n, iz_sub, iz_lt ⟨by omega, by omega⟩ ⟨by omega, by omega⟩] at z
    omega
  · rw [hI.len, nI_c (by omega)]
    exact nI_in2 (by omega) (by omega)
  · exact ⟨fun _ => w_0 hI hi hL hk0, fun _ => ⟨fun _ => w_1 hI hi hL hk0, fun _ => ⟨fun _ => w_2 hI hi hL hk1, fun _ => ⟨fun _ => w_3 hI hi hL hk1, fun _ => ⟨fun _ => w_4 hI hi hL hk1, fun _ => ⟨fun _ => w_5 hI hi hL hk1, fun _ => ⟨fun _ => w_6 hI hi hL hk1, fun _ => ⟨fun _ => w_7 hI hi hL hk1, fun _ => ⟨fun _ => w_8 hI hi hL hk1, fun _ => ⟨fun _ => w_9 hI hi hL hk0, fun _ => ⟨fun _ => w_10 hI hi hL hk1, fun _ => ⟨fun _ => w_11 hI hi hL hk1, fun _ => ⟨fun _ => w_12 hI hi hL hk1, fun _ => ⟨fun _ => w_13 hI hi hL hk1, fun _ => ⟨fun _ => w_14 hI hi hL hk1, fun _ => ⟨fun _ => w_15 hI hi hL hk0, fun _ => ⟨fun _ => w_16 hI hi hL hk1, fun _ => ⟨fun _ => w_17 hI hi hL hk1, fun _ => ⟨fun _ => w_18 hI hi hL hk1, fun _ => ⟨fun _ => w_19 hI hi hL hk1, fun _ => ⟨fun _ => w_20 hI hi hL hk1, fun _ => ⟨fun _ => w_21 hI hi hL hk1, fun _ => ⟨fun _ => w_22 hI hi hL hk1, fun _ => ⟨fun _ => w_23 hI hi hL hk1, fun _ => ⟨fun _ => w_24 hI hi hL hk1, fun _ => ⟨fun _ => w_25 hI hi hL hk0, fun _ => ⟨fun _ => w_26 hI hi hL hk1, fun _ => ⟨fun _ => w_27 hI hi hL hk1, fun _ => ⟨fun _ => w_28 hI hi hL hk1, fun _ => ⟨fun _ => w_29 hI hi hL hk1, fun _ => ⟨fun _ => w_30 hI hi hL hk1, fun _ => ⟨fun _ => w_31 hI hi hL hk1, fun _ => ⟨fun _ => w_32 hI hi hL hk1, fun _ => ⟨fun _ => w_33 hI hi hL hk1, fun _ => ⟨fun _ => w_34 hI hi hL hk1, fun _ => ⟨fun _ => w_35 hI hi hL hk0, fun _ => ⟨fun _ => w_36 hI hi hL hk0, fun _ => ⟨fun _ => w_37 hI hi hL hk0, fun _ => hk0 _ hI⟩⟩⟩⟩⟩⟩⟩⟩⟩⟩⟩⟩⟩⟩⟩⟩⟩⟩⟩⟩⟩⟩⟩⟩⟩⟩⟩⟩⟩⟩⟩⟩⟩⟩⟩⟩⟩⟩
theorem law_end (hI : INV L M) (hi : L < i + 6) (hL : L ≤ 3072) (hi2 : i ≤ 4000) : WL g 23 (LO i) [] M := by
  refine go_in (e900_23 ⟨fun _ => go_in (e900_2692 ⟨Or.inr rfl, rfl, rfl⟩), fun z => absurd ?_ z⟩)
  rw [hI.len, iz_n, iz_n, iz_n, iz_sub, iz_lt ⟨by omega, by omega⟩ ⟨by omega, by omega⟩]
  omega
theorem law_loop (hL : L ≤ 3072) : ∀ n i g M, n ≤ g → L < i + 6 * n + 6 → i ≤ 4000 → INV L M → WL g 23 (LO i) [] M := by
  intro n
  induction n with
  | zero => exact fun i g M _ h hi hI => law_end hI (by omega) hL hi
  | succ n ih =>
    intro i g M hg h hi hI
    by_cases he : L < i + 6
    · exact law_end hI he hL hi
    · obtain ⟨g, rfl⟩ : ∃ k, g = k + 1 := ⟨g - 1, by omega⟩
      have e6 : nI i + Int32.ofInt 6 = nI (i + 6) := nI_add i 6
      refine law_head hI (by omega) hL (fun N hN => go_in (e900_2686 ?_)) fun N hN => go_in (e900_2686 ?_)
      · rw [e6]
        exact ih (i + 6) g N (by omega) (by omega) (by omega) hN
      · rw [e6]
        exact ih (i + 6) (g + 1) N (by omega) (by omega) (by omega) hN
end LW
