/-! The reference reads sums, all, or. -/
section RS1
variable {d0 : Nat} {tp : Nat → Int} {tl N : Nat} {dp : Int32}
theorem k161  : KPt tp tl N 161 (d0 + 5) dp (pSum (tkk tp tl) (nnk tp tl)) := fun M i0 s Q h0 k => by
  have hN := h0.1
  have h4 := h0.2.1.1
  have hn := hN.le h4
  have hm : ∀ i, nnk tp tl i ≤ 99 := fun i => nnk_le i
  have hs0 := h0.2.2.1.2
  have loop : ∀ n i c v M1, 401 ≤ i + n → GD N EVs i0 i c v → RSt tp tl N i (s + c.length) dp M1 → DC M1 s c → Fr (aPs s) M M1 → (∀ M', CPR tp tl N s dp (pSumL (tkk tp tl) (nnk tp tl) n i c v) M' → Fr (aPs s) M M' → Q [.int (nI (cond (okB (pSumL (tkk tp tl) (nnk tp tl) n i c v)) 1 0))] M') → WM (d0 + 4) 161 Q 9 [some (.ref 768)] [] M1 := by
    intro n
    induction n with
    | zero =>
      intro i c v M1 hin g h hd hF k
      have := h.2.2.1.1
      omega
    | succ n ih =>
      intro i c v M1 hin g h hd hF k
      obtain ⟨p, hp, hnb, h6⟩ := h.2.2.2.1
      have hgl := g.len
      refine go_in (e161_9 (upC (k154 (d := 0) (c := 43) h.2.1 hp h6 hnb (j := 14) rfl (by decide) (by decide) fun p' M2 hp' hn' g6 g8 f2 => e161_15 ?_) (by omega)))
      have hF2 := hF.tr (f2.up fun k j => aPb_s)
      by_cases q : tkk tp tl i = 14
      · have hiN := tkk_N hN i (by omega)
        rw [decide_eq_true q]
        rw [if_pos q] at hn'
        refine ⟨fun z => absurd z (by first | decide | exact nz1), fun _ => ?_⟩
        have h2 : RSt tp tl N (i + 1) (s + c.length) dp M2 := h.pb f2 (by omega) (by omega) hp' hn' g6
        have hd2 : DC M2 s c := fun n x hx => by
          rw [(f2 _ _ rfl).1, (f2 _ _ rfl).1]
          exact hd n x hx
        unfold pSumL at k
        rw [if_pos q] at k
        refine k160 (d := d0) _ _ _ _ h2 fun M3 h3 f3 => e161_22 ?_
        have f3s : Fr (aPs s) M2 M3 := f3.up fun k j => aPs_le (by omega)
        cases hr : pPart (tkk tp tl) (nnk tp tl) (i + 1) with
        | inl e =>
          rw [hr] at h3 k
          refine ⟨fun z => absurd rfl z, fun _ => ⟨Or.inl rfl, rfl, k M3 h3 (hF2.tr f3s)⟩⟩
        | inr t =>
          obtain ⟨j, e, r⟩ := t
          rw [hr] at h3 k
          obtain ⟨h3, d3⟩ := h3
          have g1 : GD N EVs (i + 1) j e r := pPart_g (tkk_N hN) hm hr
          have a1 := g1.len
          have a2 := g1.up
          have a3 := g1.le
          refine ⟨fun _ => go_in (e161_27 (upC (k159 (d := 0) (s := s + c.length + e.length) (by omega) h3.2.2.2.2.1 (e161_34 ?_)) (by omega))), fun z => absurd z (by first | decide | exact nz1)⟩
          obtain ⟨e1, e2, e3⟩ := em_st (a := 12) (b := 0) h3 (by omega)
          have f4s := e3.up fun k j => aPs_le (s := s) (by omega)
          have lnc : s + (c ++ (e ++ [(12, 0)])).length = s + c.length + e.length + 1 := by
            simp only [List.length_append, List.length_cons, List.length_nil]
            omega
          refine ih j (c ++ (e ++ [(12, 0)])) (adS v r) _ (by omega) ?_ (by rw [lnc]; exact e1) ?_ ((hF2.tr f3s).tr f4s) k
          · refine ⟨by have := lnc; omega, by have := g.up; omega, a3, g.cb.app (g1.cb.app (CB.one (by decide) (by decide))), ?_⟩
            exact fun l T f b st => by
              rw [rn_app (g.ev l T f b st), rn_app (g1.ev l T f b _), adS_v]
              rfl
          · exact ((hd2.of f3 (Nat.le_refl _)).of e3 (by omega)).app ((d3.of e3 (Nat.le_refl _)).app e2)
      · rw [decide_eq_false q]
        rw [if_neg q] at hn'
        refine ⟨fun _ => go_in (e161_37 ⟨Or.inr rfl, rfl, ?_⟩), fun z => absurd rfl z⟩
        unfold pSumL at k
        rw [if_neg q] at k
        exact k M2 ⟨h.pb f2 h.2.2.1.1 h.2.2.1.2 hp' hn' g6, fun n x hx => by rw [(f2 _ _ rfl).1, (f2 _ _ rfl).1]; exact hd n x hx⟩ hF2
  refine sC (by decide) rfl (go_in (e161_0 (k160 (d := d0) _ _ _ _ h0 fun M1 h1 f1 => e161_4 ?_)))
  have kk : ∀ M', CPR tp tl N s dp (bdP (pPart (tkk tp tl) (nnk tp tl) i0) fun j c v => pSumL (tkk tp tl) (nnk tp tl) 400 j c v) M' → Fr (aPs s) M M' → Q [.int (nI (cond (okB (bdP (pPart (tkk tp tl) (nnk tp tl) i0) fun j c v => pSumL (tkk tp tl) (nnk tp tl) 400 j c v)) 1 0))] M' := k
  cases hr : pPart (tkk tp tl) (nnk tp tl) i0 with
  | inl e =>
    rw [hr] at h1 kk
    exact ⟨fun z => absurd rfl z, fun _ => ⟨Or.inl rfl, rfl, kk M1 h1 f1⟩⟩
  | inr t =>
    obtain ⟨j, c, v⟩ := t
    rw [hr] at h1 kk
    have g1 : GD N EVs i0 j c v := pPart_g (tkk_N hN) hm hr
    exact ⟨fun _ => loop 400 j c v M1 (by have := g1.up; omega) g1 h1.1 h1.2 f1 kk, fun z => absurd z (by first | decide | exact nz1)⟩
theorem k163 {A : Nat → PR MSK} (hA : ∀ i j c m, A i = okP j c m → GD N EVc i j c m) (kA : KPt tp tl N 162 (d0 + 4) dp A) : KPt tp tl N 163 (d0 + 5) dp (pAnds (tkk tp tl) A) := fun M i0 s Q h0 k => by
  have hN := h0.1
  have h4 := h0.2.1.1
  have hn := hN.le h4
  have hm : ∀ i, nnk tp tl i ≤ 99 := fun i => nnk_le i
  have hs0 := h0.2.2.1.2
  have loop : ∀ n i c v M1, 401 ≤ i + n → GD N EVc i0 i c v → RSt tp tl N i (s + c.length) dp M1 → DC M1 s c → Fr (aPs s) M M1 → (∀ M', CPR tp tl N s dp (pAndL (tkk tp tl) A n i c v) M' → Fr (aPs s) M M' → Q [.int (nI (cond (okB (pAndL (tkk tp tl) A n i c v)) 1 0))] M') → WM (d0 + 4) 163 Q 9 [some (.ref 768)] [] M1 := by
    intro n
    induction n with
    | zero =>
      intro i c v M1 hin g h hd hF k
      have := h.2.2.1.1
      omega
    | succ n ih =>
      intro i c v M1 hin g h hd hF k
      obtain ⟨p, hp, hnb, h6⟩ := h.2.2.2.1
      have hgl := g.len
      refine go_in (e163_9 (upC (k153 (d := 0) (t := 70225) h.2.1 hp h6 hnb rfl (j := 6) str_25 (by decide) (by decide) fun p' M2 hp' hn' g6 g8 f2 => e163_15 ?_) (by omega)))
      have hF2 := hF.tr (f2.up fun k j => aPb_s)
      by_cases q : tkk tp tl i = 6
      · have hiN := tkk_N hN i (by omega)
        rw [decide_eq_true q]
        rw [if_pos q] at hn'
        refine ⟨fun z => absurd z (by first | decide | exact nz1), fun _ => ?_⟩
        have h2 : RSt tp tl N (i + 1) (s + c.length) dp M2 := h.pb f2 (by omega) (by omega) hp' hn' g6
        have hd2 : DC M2 s c := fun n x hx => by
          rw [(f2 _ _ rfl).1, (f2 _ _ rfl).1]
          exact hd n x hx
        unfold pAndL at k
        rw [if_pos q] at k
        refine kA _ _ _ _ h2 fun M3 h3 f3 => e163_22 ?_
        have f3s : Fr (aPs s) M2 M3 := f3.up fun k j => aPs_le (by omega)
        cases hr : A (i + 1) with
        | inl e =>
          rw [hr] at h3 k
          refine ⟨fun z => absurd rfl z, fun _ => ⟨Or.inl rfl, rfl, k M3 h3 (hF2.tr f3s)⟩⟩
        | inr t =>
          obtain ⟨j, e, r⟩ := t
          rw [hr] at h3 k
          obtain ⟨h3, d3⟩ := h3
          have g1 : GD N EVc (i + 1) j e r := hA _ _ _ _ hr
          have a1 := g1.len
          have a2 := g1.up
          have a3 := g1.le
          refine ⟨fun _ => go_in (e163_27 (upC (k159 (d := 0) (s := s + c.length + e.length) (by omega) h3.2.2.2.2.1 (e163_34 ?_)) (by omega))), fun z => absurd z (by first | decide | exact nz1)⟩
          obtain ⟨e1, e2, e3⟩ := em_st (a := 16) (b := 0) h3 (by omega)
          have f4s := e3.up fun k j => aPs_le (s := s) (by omega)
          have lnc : s + (c ++ (e ++ [(16, 0)])).length = s + c.length + e.length + 1 := by
            simp only [List.length_append, List.length_cons, List.length_nil]
            omega
          refine ih j (c ++ (e ++ [(16, 0)])) (fun T p => v T p && r T p) _ (by omega) ?_ (by rw [lnc]; exact e1) ?_ ((hF2.tr f3s).tr f4s) k
          · refine ⟨by have := lnc; omega, by have := g.up; omega, a3, g.cb.app (g1.cb.app (CB.one (by decide) (by decide))), ?_⟩
            exact fun l T f b st hl hf hb => by
              rw [rn_app (g.ev l T f b st hl hf hb), rn_app (g1.ev l T f b _ hl hf hb)]
              show _ = some (cond (v T ((f * 2 + b) * 8 + l) && r T ((f * 2 + b) * 8 + l)) 1 0 :: st)
              cases v T ((f * 2 + b) * 8 + l) <;> cases r T ((f * 2 + b) * 8 + l) <;> rfl
          · exact ((hd2.of f3 (Nat.le_refl _)).of e3 (by omega)).app ((d3.of e3 (Nat.le_refl _)).app e2)
      · rw [decide_eq_false q]
        rw [if_neg q] at hn'
        refine ⟨fun _ => go_in (e163_37 ⟨Or.inr rfl, rfl, ?_⟩), fun z => absurd rfl z⟩
        unfold pAndL at k
        rw [if_neg q] at k
        exact k M2 ⟨h.pb f2 h.2.2.1.1 h.2.2.1.2 hp' hn' g6, fun n x hx => by rw [(f2 _ _ rfl).1, (f2 _ _ rfl).1]; exact hd n x hx⟩ hF2
  refine sC (by decide) rfl (go_in (e163_0 (kA _ _ _ _ h0 fun M1 h1 f1 => e163_4 ?_)))
  have kk : ∀ M', CPR tp tl N s dp (bdP (A i0) fun j c v => pAndL (tkk tp tl) A 400 j c v) M' → Fr (aPs s) M M' → Q [.int (nI (cond (okB (bdP (A i0) fun j c v => pAndL (tkk tp tl) A 400 j c v)) 1 0))] M' := k
  cases hr : A i0 with
  | inl e =>
    rw [hr] at h1 kk
    exact ⟨fun z => absurd rfl z, fun _ => ⟨Or.inl rfl, rfl, kk M1 h1 f1⟩⟩
  | inr t =>
    obtain ⟨j, c, v⟩ := t
    rw [hr] at h1 kk
    have g1 : GD N EVc i0 j c v := hA _ _ _ _ hr
    exact ⟨fun _ => loop 400 j c v M1 (by have := g1.up; omega) g1 h1.1 h1.2 f1 kk, fun z => absurd z (by first | decide | exact nz1)⟩
theorem k164 {A : Nat → PR MSK} (hA : ∀ i j c m, A i = okP j c m → GD N EVc i j c m) (kA : KPt tp tl N 163 (d0 + 4) dp (pAnds (tkk tp tl) A)) : KPt tp tl N 164 (d0 + 5) dp (pOrs (tkk tp tl) A) := fun M i0 s Q h0 k => by
  have hN := h0.1
  have h4 := h0.2.1.1
  have hn := hN.le h4
  have hm : ∀ i, nnk tp tl i ≤ 99 := fun i => nnk_le i
  have hs0 := h0.2.2.1.2
  have loop : ∀ n i c v M1, 401 ≤ i + n → GD N EVc i0 i c v → RSt tp tl N i (s + c.length) dp M1 → DC M1 s c → Fr (aPs s) M M1 → (∀ M', CPR tp tl N s dp (pOrL (tkk tp tl) A n i c v) M' → Fr (aPs s) M M' → Q [.int (nI (cond (okB (pOrL (tkk tp tl) A n i c v)) 1 0))] M') → WM (d0 + 4) 164 Q 9 [some (.ref 768)] [] M1 := by
    intro n
    induction n with
    | zero =>
      intro i c v M1 hin g h hd hF k
      have := h.2.2.1.1
      omega
    | succ n ih =>
      intro i c v M1 hin g h hd hF k
      obtain ⟨p, hp, hnb, h6⟩ := h.2.2.2.1
      have hgl := g.len
      refine go_in (e164_9 (upC (k153 (d := 0) (t := 70226) h.2.1 hp h6 hnb rfl (j := 5) str_26 (by decide) (by decide) fun p' M2 hp' hn' g6 g8 f2 => e164_15 ?_) (by omega)))
      have hF2 := hF.tr (f2.up fun k j => aPb_s)
      by_cases q : tkk tp tl i = 5
      · have hiN := tkk_N hN i (by omega)
        rw [decide_eq_true q]
        rw [if_pos q] at hn'
        refine ⟨fun z => absurd z (by first | decide | exact nz1), fun _ => ?_⟩
        have h2 : RSt tp tl N (i + 1) (s + c.length) dp M2 := h.pb f2 (by omega) (by omega) hp' hn' g6
        have hd2 : DC M2 s c := fun n x hx => by
          rw [(f2 _ _ rfl).1, (f2 _ _ rfl).1]
          exact hd n x hx
        unfold pOrL at k
        rw [if_pos q] at k
        refine kA _ _ _ _ h2 fun M3 h3 f3 => e164_22 ?_
        have f3s : Fr (aPs s) M2 M3 := f3.up fun k j => aPs_le (by omega)
        cases hr : pAnds (tkk tp tl) A (i + 1) with
        | inl e =>
          rw [hr] at h3 k
          refine ⟨fun z => absurd rfl z, fun _ => ⟨Or.inl rfl, rfl, k M3 h3 (hF2.tr f3s)⟩⟩
        | inr t =>
          obtain ⟨j, e, r⟩ := t
          rw [hr] at h3 k
          obtain ⟨h3, d3⟩ := h3
          have g1 : GD N EVc (i + 1) j e r := pAnds_g (tkk_N hN) hA hr
          have a1 := g1.len
          have a2 := g1.up
          have a3 := g1.le
          refine ⟨fun _ => go_in (e164_27 (upC (k159 (d := 0) (s := s + c.length + e.length) (by omega) h3.2.2.2.2.1 (e164_34 ?_)) (by omega))), fun z => absurd z (by first | decide | exact nz1)⟩
          obtain ⟨e1, e2, e3⟩ := em_st (a := 17) (b := 0) h3 (by omega)
          have f4s := e3.up fun k j => aPs_le (s := s) (by omega)
          have lnc : s + (c ++ (e ++ [(17, 0)])).length = s + c.length + e.length + 1 := by
            simp only [List.length_append, List.length_cons, List.length_nil]
            omega
          refine ih j (c ++ (e ++ [(17, 0)])) (fun T p => v T p || r T p) _ (by omega) ?_ (by rw [lnc]; exact e1) ?_ ((hF2.tr f3s).tr f4s) k
          · refine ⟨by have := lnc; omega, by have := g.up; omega, a3, g.cb.app (g1.cb.app (CB.one (by decide) (by decide))), ?_⟩
            exact fun l T f b st hl hf hb => by
              rw [rn_app (g.ev l T f b st hl hf hb), rn_app (g1.ev l T f b _ hl hf hb)]
              show _ = some (cond (v T ((f * 2 + b) * 8 + l) || r T ((f * 2 + b) * 8 + l)) 1 0 :: st)
              cases v T ((f * 2 + b) * 8 + l) <;> cases r T ((f * 2 + b) * 8 + l) <;> rfl
          · exact ((hd2.of f3 (Nat.le_refl _)).of e3 (by omega)).app ((d3.of e3 (Nat.le_refl _)).app e2)
      · rw [decide_eq_false q]
        rw [if_neg q] at hn'
        refine ⟨fun _ => go_in (e164_37 ⟨Or.inr rfl, rfl, ?_⟩), fun z => absurd rfl z⟩
        unfold pOrL at k
        rw [if_neg q] at k
        exact k M2 ⟨h.pb f2 h.2.2.1.1 h.2.2.1.2 hp' hn' g6, fun n x hx => by rw [(f2 _ _ rfl).1, (f2 _ _ rfl).1]; exact hd n x hx⟩ hF2
  refine sC (by decide) rfl (go_in (e164_0 (kA _ _ _ _ h0 fun M1 h1 f1 => e164_4 ?_)))
  have kk : ∀ M', CPR tp tl N s dp (bdP (pAnds (tkk tp tl) A i0) fun j c v => pOrL (tkk tp tl) A 400 j c v) M' → Fr (aPs s) M M' → Q [.int (nI (cond (okB (bdP (pAnds (tkk tp tl) A i0) fun j c v => pOrL (tkk tp tl) A 400 j c v)) 1 0))] M' := k
  cases hr : pAnds (tkk tp tl) A i0 with
  | inl e =>
    rw [hr] at h1 kk
    exact ⟨fun z => absurd rfl z, fun _ => ⟨Or.inl rfl, rfl, kk M1 h1 f1⟩⟩
  | inr t =>
    obtain ⟨j, c, v⟩ := t
    rw [hr] at h1 kk
    have g1 : GD N EVc i0 j c v := pAnds_g (tkk_N hN) hA hr
    exact ⟨fun _ => loop 400 j c v M1 (by have := g1.up; omega) g1 h1.1 h1.2 f1 kk, fun z => absurd z (by first | decide | exact nz1)⟩
end RS1
