/-! The reference is told of a draw. -/
theorem NOK_ex {tp : Nat → Int} {tl : Nat} : ∃ N, NOK tp tl N := by
  have h : ∀ m, (∃ N, NOK tp tl N) ∨ ∀ j, j ≤ m → bgk tp tl j < tl ∧ j ≤ bgk tp tl j := fun m => by
    induction m with
    | zero =>
      by_cases e : bgk tp tl 0 < tl
      · exact Or.inr fun j hj => by
          have : j = 0 := by omega
          subst this
          exact ⟨e, Nat.zero_le _⟩
      · have := bgk_le (tp := tp) (tl := tl) 0
        exact Or.inl ⟨0, Nat.zero_le _, by omega, fun j hj => absurd hj (Nat.not_lt_zero _)⟩
    | succ m ih =>
      rcases ih with ih | ih
      · exact Or.inl ih
      · obtain ⟨a, b⟩ := ih m (Nat.le_refl _)
        have g := bgk_gt a
        by_cases e : bgk tp tl (m + 1) < tl
        · exact Or.inr fun j hj => by
            by_cases q : j = m + 1
            · subst q
              exact ⟨e, by omega⟩
            · exact ih j (by omega)
        · have := bgk_le (tp := tp) (tl := tl) (m + 1)
          exact Or.inl ⟨m + 1, by omega, by omega, fun j hj => (ih j (by omega)).1⟩
  rcases h tl with h | h
  · exact h
  · have := h tl (Nat.le_refl _)
    omega
/-- the lines as the machine keeps them -/
def lnM (ls : LNS) : List (Nat × List (Nat × Nat)) := ls.map fun x => (x.1, x.2.1)
theorem hld_m {c : List (Nat × Nat)} {m : MSK} (h : EVl c m) {l T f b : Nat} (hl : l ≤ 7) (hf : f ≤ 2) (hb : b ≤ 1) : hld l T f b c = m T ((f * 2 + b) * 8 + l) ∧ ∃ st, rn l T f b c [] = some st ∧ st.length ≤ 1 := by
  rcases h with h | ⟨rfl, rfl⟩
  · have e := h l T f b [] hl hf hb
    refine ⟨?_, _, e, Nat.le_refl _⟩
    unfold hld
    rw [e]
    show Nat.beq (cond (m T ((f * 2 + b) * 8 + l)) 1 0) 1 = _
    cases m T ((f * 2 + b) * 8 + l) <;> rfl
  · exact ⟨rfl, [], rfl, Nat.zero_le _⟩
theorem lnT_0 {g : Nat → Bool} {T p : Nat} : ∀ {ls : LNS} {o : Nat → Bool}, o p = false → lnT g T ls o p = false
  | [], _, _ => rfl
  | (v, c, m) :: r, o, h => by
    show ((g v && (o p && m T p)) || lnT g T r (fun p => o p && !(o p && m T p)) p) = false
    rw [lnT_0 (by show (o p && !(o p && m T p)) = false; rw [h]; rfl), h, Bool.false_and, Bool.and_false]
    rfl
theorem sml_ln {T l f b : Nat} (hl : l ≤ 7) (hf : f ≤ 2) (hb : b ≤ 1) : ∀ {ls : LNS} {o : Nat → Bool}, (∀ x ∈ ls, x.1 ≤ 3 ∧ EVl x.2.1 x.2.2) → o ((f * 2 + b) * 8 + l) = true → sml l T f b (lnM ls) = cond (lnT g0v T ls o ((f * 2 + b) * 8 + l)) 1 0 + 2 * cond (lnT g1v T ls o ((f * 2 + b) * 8 + l)) 1 0
  | [], o, _, _ => rfl
  | (v, c, m) :: r, o, h, ho => by
    obtain ⟨h1, h2⟩ := h (v, c, m) (List.mem_cons_self ..)
    have h1 : v ≤ 3 := h1
    have hh : hld l T f b c = m T ((f * 2 + b) * 8 + l) := (hld_m h2 (T := T) hl hf hb).1
    show (if hld l T f b c = true then v else sml l T f b (lnM r)) = cond ((g0v v && (o ((f * 2 + b) * 8 + l) && m T ((f * 2 + b) * 8 + l))) || lnT g0v T r (fun p => o p && !(o p && m T p)) ((f * 2 + b) * 8 + l)) 1 0 + 2 * cond ((g1v v && (o ((f * 2 + b) * 8 + l) && m T ((f * 2 + b) * 8 + l))) || lnT g1v T r (fun p => o p && !(o p && m T p)) ((f * 2 + b) * 8 + l)) 1 0
    rw [hh, ho, Bool.true_and]
    cases hm : m T ((f * 2 + b) * 8 + l) with
    | true =>
      rw [if_pos rfl, lnT_0 (by show (o ((f * 2 + b) * 8 + l) && !(o ((f * 2 + b) * 8 + l) && m T ((f * 2 + b) * 8 + l))) = false; rw [ho, hm]; rfl), lnT_0 (by show (o ((f * 2 + b) * 8 + l) && !(o ((f * 2 + b) * 8 + l) && m T ((f * 2 + b) * 8 + l))) = false; rw [ho, hm]; rfl), Bool.and_true, Bool.and_true, Bool.or_false, Bool.or_false]
      obtain rfl | rfl | rfl | rfl : v = 0 ∨ v = 1 ∨ v = 2 ∨ v = 3 := by omega
      all_goals rfl
    | false =>
      rw [if_neg (by decide), Bool.and_false, Bool.and_false, Bool.false_or, Bool.false_or]
      exact sml_ln hl hf hb (fun x hx => h x (List.mem_cons_of_mem _ hx)) (by show (o ((f * 2 + b) * 8 + l) && !(o ((f * 2 + b) * 8 + l) && m T ((f * 2 + b) * 8 + l))) = true; rw [ho, hm]; rfl)
/-- the draft is the draw q -/
theorem draft_q {M N : Mm} {q : Nat} {ls : LNS} (hq : q < 6) (hL : LA M 400 ls) (h10 : ls.length ≤ 10) (hc : N.1 50177 (475 + 831 * q) = nI ls.length) (he : ∀ k, 0 < k → k < 831 → N.1 50177 (475 + 831 * q + k) = M.1 50177 (5461 + k)) : DRW N q (lnM ls) ∧ WFL (lnM ls) := by
  have hmem : ∀ x ∈ ls, x.1 ≤ 3 ∧ EVl x.2.1 x.2.2 := fun x hx => by
    obtain ⟨n, hn⟩ := List.getElem?_of_mem hx
    obtain ⟨a, -, -, b⟩ := hL n x hn
    exact ⟨a, b⟩
  refine ⟨⟨by rw [hc]; unfold lnM; rw [List.length_map], by unfold lnM; rw [List.length_map]; exact h10, fun n x hx => ?_⟩, fun x hx l T f b hl hT hf hb => ?_⟩
  · unfold lnM at hx
    rw [List.getElem?_map] at hx
    cases hy : ls[n]? with
    | none => rw [hy] at hx; cases hx
    | some y =>
      rw [hy] at hx
      cases hx
      have hlt := (List.getElem?_eq_some_iff.mp hy).1
      obtain ⟨h1, ⟨lo, h2, ⟨h3, h4, h5⟩, h6⟩, h7, -⟩ := hL n y hy
      refine ⟨h1, lo, ⟨h2, ?_, ?_, ?_⟩, fun i c hi => ?_⟩
      · show N.1 50177 (476 + 831 * q + 3 * n) = _
        rw [show 476 + 831 * q + 3 * n = 475 + 831 * q + (1 + 3 * n) by omega, he _ (by omega) (by omega), show 5461 + (1 + 3 * n) = 5462 + 3 * n by omega]
        exact h3
      · show N.1 50177 (476 + 831 * q + 3 * n + 1) = _
        rw [show 476 + 831 * q + 3 * n + 1 = 475 + 831 * q + (2 + 3 * n) by omega, he _ (by omega) (by omega), show 5461 + (2 + 3 * n) = 5462 + 3 * n + 1 by omega]
        exact h4
      · show N.1 50177 (476 + 831 * q + 3 * n + 2) = _
        rw [show 476 + 831 * q + 3 * n + 2 = 475 + 831 * q + (3 + 3 * n) by omega, he _ (by omega) (by omega), show 5461 + (3 + 3 * n) = 5462 + 3 * n + 2 by omega]
        exact h5
      · have hm : i < y.2.1.length := (List.getElem?_eq_some_iff.mp hi).1
        have hb := h7 c (List.mem_of_getElem? hi)
        obtain ⟨a, b⟩ := h6 i c hi
        refine ⟨⟨?_, ?_⟩, hb⟩
        · rw [show 506 + 831 * q + 2 * (lo + i) = 475 + 831 * q + (31 + 2 * (lo + i)) by omega, he _ (by omega) (by omega), show 5461 + (31 + 2 * (lo + i)) = 5492 + 2 * (lo + i) by omega]
          exact a
        · rw [show 506 + 831 * q + 2 * (lo + i) + 1 = 475 + 831 * q + (32 + 2 * (lo + i)) by omega, he _ (by omega) (by omega), show 5461 + (32 + 2 * (lo + i)) = 5492 + 2 * (lo + i) + 1 by omega]
          exact b
  · unfold lnM at hx
    obtain ⟨y, hy, rfl⟩ := List.mem_map.mp hx
    exact (hld_m (hmem y hy).2 hl hf hb).2
def aDrR (k j : Nat) : Bool := Nat.beq k 50177 || (Nat.beq k 768 && (Nat.beq j 0 || (Nat.ble 5 j && Nat.ble j 12)))
section RD
variable {d : Nat} {tp : Nat → Int} {tl : Nat} {w : Nat → Nat} {ta ta' : Nat → Nat → Nat → Nat}
theorem aPa_d {k j : Nat} (h : aPa k j = true) : aDrR k j = true := by
  unfold aPa at h
  unfold aDrR
  simp only [Bool.or_eq_true, Bool.and_eq_true, Nat.beq_eq, Nat.ble_eq] at h ⊢
  omega
theorem aUse_d {k j : Nat} (h : aUse k j = true) : aDrR k j = true := by
  unfold aUse at h
  unfold aDrR
  simp only [Bool.or_eq_true, Bool.and_eq_true, Nat.beq_eq, Nat.ble_eq] at h ⊢
  omega
theorem aPa_f {j : Nat} (h : j < 5461) : aPa 50177 j = false := by
  cases q : aPa 50177 j with
  | false => rfl
  | true =>
    unfold aPa at q
    simp only [Bool.or_eq_true, Bool.and_eq_true, Nat.beq_eq, Nat.ble_eq] at q
    omega
theorem RTp_0 {M M' : Mm} (h : RTp tl tp M) (h1 : M'.1 768 5 = nI 0) : RTp 0 tp M' := ⟨h1, by omega, h.2.2.1, fun j hj => absurd hj (Nat.not_lt_zero _)⟩
theorem c167t {M : Mm} (hI : RI w ta M) (hb : WB w) (hT : RTp tl tp M) {e : Nat} (hp : pText (tkk tp tl) (nnk tp tl) = .inl e) : SC (d + 31) 167 [.ref 768] M (fun vs N => vs = [.int (nI 0)] ∧ RI w ta N ∧ RTp 0 tp N ∧ N.1 768 10 = nI (bgk tp tl e) ∧ N.1 768 0 = nI 1 ∧ Fr aDrR M N) := by
  obtain ⟨N, hN⟩ := NOK_ex (tp := tp) (tl := tl)
  have w11 : w 11 ≤ 6 := hb.2.2.2.1.2.2.2.1
  refine sC (by decide) rfl (go_in (e167_0 (useC (upC (c148 (d := d)) (by omega)) fun vs M1 h => ?_)))
  obtain ⟨rfl, h7, ⟨h0, h5, h6, h12⟩, f1⟩ := h
  have hR : RSt tp tl N 0 0 (M1.1 768 9) M1 := ⟨hN, ⟨hT.2.1, hT.2.2.1, by rw [h7]; exact hT.1, fun j hj => by rw [(f1 50180 j rfl).1]; exact hT.2.2.2 j hj⟩, ⟨Nat.zero_le _, Nat.le_refl _⟩, ⟨0, Nat.zero_le _, rfl, h6⟩, h12, rfl⟩
  refine e167_4 (upC (k166 (d := d) hR fun y M2 hy f2 => e167_8 ?_) (by omega))
  have hI1 : RI w ta M1 := hI.of f1 (fun j => rfl) rfl rfl
  have hI2 : RI w ta M2 := ⟨MR_eq hI1.1 fun j hj => (f2 _ _ (aPa_f (by omega))).1, DRel_eq hI1.2.1 w11 fun j _ hj => (f2 _ _ (aPa_f hj)).1, hI1.2.2.of f2 rfl rfl⟩
  have g0 : M2.1 768 0 = nI 0 := (f2 _ _ rfl).1.trans h0
  have g5 : M2.1 768 5 = nI 0 := (f2 _ _ rfl).1.trans h5
  have fM : Fr aDrR M M2 := (f1.up fun k j => aUse_d).tr (f2.up fun k j => aPa_d)
  rw [hp] at hy
  obtain ⟨rfl, g8⟩ := hy
  refine ⟨fun z => absurd z (by first | decide | exact nz1), fun _ => go_in (e167_22 ⟨fun z => absurd z (by first | decide | exact nz1), fun _ => go_in (e167_35 (upC (f130 (d := 0) (e167_39 ⟨fun _ => go_in (e167_67 ⟨rfl, rfl, ?_⟩), fun z => absurd z (by first | decide | exact nz1)⟩)) (by omega)))⟩)⟩
  rw [g8]
  have fN : Fr aDrR M (sI (sI M2 768 10 (nI (bgk tp tl e))) 768 0 (nI 1)) := (fM.sI rfl).sI rfl
  have f3 : Fr (fun k j => Nat.beq k 768 && (Nat.beq j 0 || Nat.beq j 10)) M2 (sI (sI M2 768 10 (nI (bgk tp tl e))) 768 0 (nI 1)) := (Fr.rf.sI rfl).sI rfl
  exact ⟨hI2.of f3 (fun j => rfl) rfl rfl, RTp_0 hT ((f3 _ _ rfl).1.trans g5), (sI_j _ _ (by decide)).trans (sI_e _ _ _ _), sI_e _ _ _ _, fN⟩
theorem c167u {M : Mm} (hI : RI w ta M) (hb : WB w) (h11 : ¬ w 11 < 6) (hT : RTp tl tp M) {j : Nat} {c : List (Nat × Nat)} {ls : LNS} (hp : pText (tkk tp tl) (nnk tp tl) = okP j c ls) : SC (d + 31) 167 [.ref 768] M (fun vs N => vs = [.int (nI 0)] ∧ RI w ta N ∧ RTp 0 tp N ∧ N.1 768 10 = iz (-1) ∧ N.1 768 0 = nI 2 ∧ Fr aDrR M N) := by
  obtain ⟨N, hN⟩ := NOK_ex (tp := tp) (tl := tl)
  have w11 : w 11 ≤ 6 := hb.2.2.2.1.2.2.2.1
  refine sC (by decide) rfl (go_in (e167_0 (useC (upC (c148 (d := d)) (by omega)) fun vs M1 h => ?_)))
  obtain ⟨rfl, h7, ⟨h0, h5, h6, h12⟩, f1⟩ := h
  have hR : RSt tp tl N 0 0 (M1.1 768 9) M1 := ⟨hN, ⟨hT.2.1, hT.2.2.1, by rw [h7]; exact hT.1, fun j hj => by rw [(f1 50180 j rfl).1]; exact hT.2.2.2 j hj⟩, ⟨Nat.zero_le _, Nat.le_refl _⟩, ⟨0, Nat.zero_le _, rfl, h6⟩, h12, rfl⟩
  refine e167_4 (upC (k166 (d := d) hR fun y M2 hy f2 => e167_8 ?_) (by omega))
  have hI1 : RI w ta M1 := hI.of f1 (fun j => rfl) rfl rfl
  have hI2 : RI w ta M2 := ⟨MR_eq hI1.1 fun j hj => (f2 _ _ (aPa_f (by omega))).1, DRel_eq hI1.2.1 w11 fun j _ hj => (f2 _ _ (aPa_f hj)).1, hI1.2.2.of f2 rfl rfl⟩
  have g0 : M2.1 768 0 = nI 0 := (f2 _ _ rfl).1.trans h0
  have g5 : M2.1 768 5 = nI 0 := (f2 _ _ rfl).1.trans h5
  have fM : Fr aDrR M M2 := (f1.up fun k j => aUse_d).tr (f2.up fun k j => aPa_d)
  rw [hp] at hy
  obtain ⟨rfl, h10, hL⟩ := hy
  have h10 : ls.length ≤ 10 := h10
  have hz : 0 ≤ nI ([] ++ ls).length := by
    rw [iz_n, iz_0le (i32_n (by show ls.length < _; omega))]
    omega
  refine ⟨fun _ => go_in (e167_21 (go_in (e167_22 ⟨fun _ => go_in (e167_34 (go_in (e167_35 (upC (k130 (d := 0) (e167_39 ⟨fun z => absurd rfl z, fun _ => ⟨nI_in2 (by decide) (by decide), ?_⟩⟩)) (by omega))))), fun z => absurd hz z⟩))), fun z => absurd hz z⟩
  have e11 : (sI M2 768 10 (-(nI 1))).1 50177 11 = nI (w 11) := (sI_k _ _ (by decide)).trans (hI2.1.n (by decide) rfl)
  rw [nI_c (by decide), e11, nI_q (by omega) (by decide)]
  refine ⟨fun z => absurd (by omega) z, fun _ => go_in (e167_60 (upC (f130 (d := 0) (e167_64 ⟨fun z => absurd z (by first | decide | exact nz1), fun _ => go_in (e167_67 ⟨rfl, rfl, ?_⟩)⟩)) (by omega)))⟩
  have fN : Fr aDrR M (sI (sI M2 768 10 (-(nI 1))) 768 0 (nI 2)) := (fM.sI rfl).sI rfl
  have f3 : Fr (fun k j => Nat.beq k 768 && (Nat.beq j 0 || Nat.beq j 10)) M2 (sI (sI M2 768 10 (-(nI 1))) 768 0 (nI 2)) := (Fr.rf.sI rfl).sI rfl
  exact ⟨hI2.of f3 (fun j => rfl) rfl rfl, RTp_0 hT ((f3 _ _ rfl).1.trans g5), (sI_j _ _ (by decide)).trans ((sI_e _ _ _ _).trans nI_neg1), sI_e _ _ _ _, fN⟩
theorem c167 {M : Mm} (hI : RI w ta M) (hb : WB w) (h11 : w 11 < 6) (hT : RTp tl tp M) {j : Nat} {c : List (Nat × Nat)} {ls : LNS} (hp : pText (tkk tp tl) (nnk tp tl) = okP j c ls) (hta : TaN w ta ta' ls) : SC (d + 31) 167 [.ref 768] M (fun vs N => vs = [.int (nI (w 11))] ∧ RI (up w 11 (w 11 + 1)) ta' N ∧ RTp 0 tp N ∧ N.1 768 10 = iz (-1) ∧ N.1 768 0 = nI 0 ∧ Fr aDrR M N) := by
  obtain ⟨N, hN⟩ := NOK_ex (tp := tp) (tl := tl)
  have w11 : w 11 ≤ 6 := hb.2.2.2.1.2.2.2.1
  refine sC (by decide) rfl (go_in (e167_0 (useC (upC (c148 (d := d)) (by omega)) fun vs M1 h => ?_)))
  obtain ⟨rfl, h7, ⟨h0, h5, h6, h12⟩, f1⟩ := h
  have hR : RSt tp tl N 0 0 (M1.1 768 9) M1 := ⟨hN, ⟨hT.2.1, hT.2.2.1, by rw [h7]; exact hT.1, fun j hj => by rw [(f1 50180 j rfl).1]; exact hT.2.2.2 j hj⟩, ⟨Nat.zero_le _, Nat.le_refl _⟩, ⟨0, Nat.zero_le _, rfl, h6⟩, h12, rfl⟩
  refine e167_4 (upC (k166 (d := d) hR fun y M2 hy f2 => e167_8 ?_) (by omega))
  have hI1 : RI w ta M1 := hI.of f1 (fun j => rfl) rfl rfl
  have hI2 : RI w ta M2 := ⟨MR_eq hI1.1 fun j hj => (f2 _ _ (aPa_f (by omega))).1, DRel_eq hI1.2.1 w11 fun j _ hj => (f2 _ _ (aPa_f hj)).1, hI1.2.2.of f2 rfl rfl⟩
  have g0 : M2.1 768 0 = nI 0 := (f2 _ _ rfl).1.trans h0
  have g5 : M2.1 768 5 = nI 0 := (f2 _ _ rfl).1.trans h5
  have fM : Fr aDrR M M2 := (f1.up fun k j => aUse_d).tr (f2.up fun k j => aPa_d)
  rw [hp] at hy
  obtain ⟨rfl, h10, hL⟩ := hy
  have h10 : ls.length ≤ 10 := h10
  have hL : LA M2 400 ls := hL
  have hz : 0 ≤ nI ([] ++ ls).length := by
    rw [iz_n, iz_0le (i32_n (by show ls.length < _; omega))]
    omega
  refine ⟨fun _ => go_in (e167_21 (go_in (e167_22 ⟨fun _ => go_in (e167_34 (go_in (e167_35 (upC (k130 (d := 0) (e167_39 ⟨fun z => absurd rfl z, fun _ => ⟨nI_in2 (by decide) (by decide), ?_⟩⟩)) (by omega))))), fun z => absurd hz z⟩))), fun z => absurd hz z⟩
  have e11 : (sI M2 768 10 (-(nI 1))).1 50177 11 = nI (w 11) := (sI_k _ _ (by decide)).trans (hI2.1.n (by decide) rfl)
  rw [nI_c (by decide), e11, nI_q (by omega) (by decide)]
  refine ⟨fun _ => go_in (e167_59 (go_in (e167_60 (upC (k130 (d := 0) (e167_64 ⟨fun _ => go_in (e167_69 ⟨nI_in2 (by decide) (by decide), nI_in2 (by decide) (by decide), nI_in2 (by decide) (by decide), ?_⟩), fun z => absurd rfl z⟩)) (by omega))))), fun z => absurd z (by omega)⟩
  rw [nI_c (by decide), e11, nI_add]
  obtain ⟨M3, hM3⟩ : ∃ M3, M3 = sI (sI M2 768 10 (-(nI 1))) 50177 11 (nI (w 11 + 1)) := ⟨_, rfl⟩
  have f3 : Fr (fun k j => (Nat.beq k 768 && Nat.beq j 10) || (Nat.beq k 50177 && Nat.beq j 11)) M2 M3 := by
    rw [hM3]
    exact (Fr.rf.sI rfl).sI rfl
  have m11 : M3.1 50177 11 = nI (w 11 + 1) := by
    rw [hM3, sI_e]
  have m10 : M3.1 768 10 = iz (-1) := by
    rw [hM3, sI_k _ _ (by decide), sI_e, nI_neg1]
  have fM3 : Fr aDrR M M3 := fM.tr (f3.up fun k j q => by
    unfold aDrR
    simp only [Bool.or_eq_true, Bool.and_eq_true, Nat.beq_eq, Nat.ble_eq] at q ⊢
    omega)
  rw [← hM3]
  -- the draft's cells
  have dr : ∀ j, 5461 ≤ j → M3.1 50177 j = M2.1 50177 j := fun j hj => by
    rw [hM3, sI_j _ _ (by omega), sI_k _ _ (by decide)]
  have loop : ∀ m i N, i + m = 831 → (∀ j, N.1 50177 j = if 475 + 831 * w 11 ≤ j ∧ j < 475 + 831 * w 11 + i then M3.1 50177 (5461 + (j - (475 + 831 * w 11))) else M3.1 50177 j) → Fr (fun k j => Nat.beq k 50177) M3 N → WM (d + 30) 167 (fun vs N => vs = [.int (nI (w 11))] ∧ RI (up w 11 (w 11 + 1)) ta' N ∧ RTp 0 tp N ∧ N.1 768 10 = iz (-1) ∧ N.1 768 0 = nI 0 ∧ Fr aDrR M N) 90 [some (.ref 768), some (.int (nI ([] ++ ls).length)), some (.int (nI (w 11))), some (.int (nI i))] [] N := by
    intro m
    induction m with
    | zero =>
      intro i N hi hN hF
      have hi : i = 831 := by omega
      subst hi
      refine go_in (e167_90 (br_t (nI_le (Nat.le_refl _) (by decide)) (go_in (e167_126 (upC (k157 (d := 0) (e167_134 ⟨nI_in2 (by omega) (by decide), rfl, rfl, ?_⟩)) (by omega))))))
      rw [nI_c (by omega)]
      obtain ⟨N2, hN2⟩ : ∃ N2, N2 = sI N 50177 (475 + 831 * w 11) (nI ([] ++ ls).length) := ⟨_, rfl⟩
      have f5 : Fr (fun k j => Nat.beq k 50177) M3 N2 := by
        rw [hN2]
        exact hF.sI rfl
      -- the world then
      have lo : ∀ j, j < 475 + 831 * w 11 → N2.1 50177 j = M3.1 50177 j := fun j hj => by
        rw [hN2, sI_j _ _ (by omega), hN, if_neg (by omega)]
      have mi : ∀ k, 0 < k → k < 831 → N2.1 50177 (475 + 831 * w 11 + k) = M2.1 50177 (5461 + k) := fun k h0 hk => by
        rw [hN2, sI_j _ _ (by omega), hN, if_pos (by omega), show 475 + 831 * w 11 + k - (475 + 831 * w 11) = k by omega]
        exact dr _ (by omega)
      have cnt : N2.1 50177 (475 + 831 * w 11) = nI ls.length := by
        rw [hN2, sI_e]
        rfl
      have e2 : ∀ j, j < 475 + 831 * w 11 → j ≠ 11 → N2.1 50177 j = M2.1 50177 j := fun j hj hne => by
        rw [lo j hj, hM3, sI_j _ _ hne, sI_k _ _ (by decide)]
      obtain ⟨dq, wq⟩ := draft_q (N := N2) h11 hL h10 cnt mi
      rw [← hN2]
      refine ⟨⟨fun j hj => ?_, fun q hq => ?_, ?_⟩, RTp_0 hT ((f5 _ _ rfl).1.trans ((f3 _ _ rfl).1.trans g5)), (f5 _ _ rfl).1.trans m10, (f5 _ _ rfl).1.trans ((f3 _ _ rfl).1.trans g0), fM3.tr (f5.up fun k j q => by unfold aDrR; rw [q]; rfl)⟩
      · by_cases e : j = 11
        · subst e
          rw [lo 11 (by omega), m11, wv_ue]
          exact iz_n _
        · rw [e2 j (by omega) e, wv_up e]
          exact hI2.1 j hj
      · rw [up_e] at hq
        by_cases e : q = w 11
        · subst e
          refine ⟨lnM ls, dq, wq, fun l T f b hl hT1 hT7 hf hb' => ?_⟩
          have hmem : ∀ x ∈ ls, x.1 ≤ 3 ∧ EVl x.2.1 x.2.2 := fun x hx => by
            obtain ⟨n, hn⟩ := List.getElem?_of_mem hx
            obtain ⟨a, -, -, b⟩ := hL n x hn
            exact ⟨a, b⟩
          rw [sml_ln hl hf hb' (o := fun _ => true) hmem rfl]
          obtain ⟨a, b⟩ := hta.2 T hT1 hT7 ((f * 2 + b) * 8 + l) (by omega)
          unfold dmf
          rw [a, b]
        · obtain ⟨ls', d1, d2, d3⟩ := hI2.2.1 q (by omega)
          refine ⟨ls', DRW_eq d1 fun j a b => e2 j ?_ (by omega), d2, ?_⟩
          · have hq6 : 831 * (q + 1) ≤ 831 * w 11 := Nat.mul_le_mul_left _ (by omega)
            omega
          · intro l T f b hl hT1 hT7 hf hb'
            rw [d3 l T f b hl hT1 hT7 hf hb']
            unfold dmf
            rw [hta.1 q e]
      · obtain ⟨n1, pd, n2⟩ := hI2.2.2
        exact ⟨(f5 _ _ rfl).1.trans ((f3 _ _ rfl).1.trans n1), pd, (f5 _ _ rfl).1.trans ((f3 _ _ rfl).1.trans n2)⟩
    | succ m ih =>
      intro i N hi hN hF
      refine go_in (e167_90 (br_f (nI_ge (by omega) (by decide)) (upC (k157 (d := 0) (e167_105 (upC (k157 (d := 0) (q := 6) (e167_116 ?_)) (by omega)))) (by omega))))
      rw [nI_add, nI_add, nI_s, nI_c (by omega), nI_c (by omega)]
      refine ⟨nI_in2 (by omega) (by decide), nI_in2 (by omega) (by decide), ih (i + 1) _ (by omega) (fun j => ?_) (hF.sI rfl)⟩
      rw [sI_v, hN, hN]
      by_cases e : j = 475 + 831 * w 11 + i
      · rw [if_pos ⟨rfl, e⟩, if_neg (by omega), if_pos (by omega), show 5461 + (j - (475 + 831 * w 11)) = 475 + 831 * 6 + i by omega]
      · rw [if_neg (fun z => e z.2)]
        by_cases g : 475 + 831 * w 11 ≤ j ∧ j < 475 + 831 * w 11 + i
        · rw [if_pos g, if_pos (by omega)]
        · rw [if_neg g, if_neg (by omega)]
  exact loop 831 0 M3 rfl (fun j => (if_neg (by omega)).symm) Fr.rf
end RD
