/-! The reference reads atoms. -/
section RA
variable {d : Nat} {tp : Nat → Int} {tl N : Nat}
theorem DC.pb {M M' : Mm} {s : Nat} {c : List (Nat × Nat)} (h : DC M s c) (hF : Fr aPb M M') : DC M' s c := fun n x hx => by
  rw [(hF _ _ rfl).1, (hF _ _ rfl).1]
  exact h n x hx
/-- a tag or two sums -/
theorem t162 {dp : Int32} {M0 M : Mm} {i s : Nat} {Q : List Value → Mm → Prop} (h : RSt tp tl N i s dp M) (hF0 : Fr (aPs s) M0 M) (k : ∀ M', CPR tp tl N s dp (pBase (tkk tp tl) (nnk tp tl) i) M' → Fr (aPs s) M0 M' → Q [.int (nI (cond (okB (pBase (tkk tp tl) (nnk tp tl) i)) 1 0))] M') : WM (d + 5) 162 Q 114 [some (.ref 768), none] [] M := by
  have hN := h.1
  have h4 := h.2.1.1
  have hn := hN.le h4
  have hm : ∀ i, nnk tp tl i ≤ 99 := fun i => nnk_le i
  have hs := h.2.2.1.2
  obtain ⟨p, hp, hnb, h6⟩ := h.2.2.2.1
  refine go_in (e162_114 (upC (k153 (d := 0) (t := 70221) h.2.1 hp h6 hnb rfl (j := 8) str_21 (by decide) (by decide) fun p' M1 hp' hn' g6 g8 f1 => e162_120 ?_) (by omega)))
  have hF1 := hF0.tr (f1.up fun k j => aPb_s)
  by_cases q8 : tkk tp tl i = 8
  · have hiN := tkk_N hN i (by omega)
    have e : pBase (tkk tp tl) (nnk tp tl) i = okP (i + 1) [(10, 0)] (fun _ p => decide (p / 8 % 2 = 1)) := if_pos q8
    rw [e] at k
    rw [decide_eq_true q8]
    rw [if_pos q8] at hn'
    have h1 : RSt tp tl N (i + 1) s dp M1 := h.pb f1 (by omega) (by omega) hp' hn' g6
    obtain ⟨e1, e2, e3⟩ := em_st (a := 10) (b := 0) h1 (by omega)
    exact ⟨fun z => absurd z (by first | decide | exact nz1), fun _ => upC (k159 (d := 0) (s := s) (by omega) h1.2.2.2.2.1 (e162_130 ⟨Or.inr rfl, rfl, k _ ⟨e1, e2⟩ (hF1.tr e3)⟩)) (by omega)⟩
  · rw [decide_eq_false q8]
    rw [if_neg q8] at hn'
    have h1 : RSt tp tl N i s dp M1 := h.pb f1 h.2.2.1.1 hs hp' hn' g6
    have hb : pBase (tkk tp tl) (nnk tp tl) i = pCmp (tkk tp tl) (nnk tp tl) i := if_neg q8
    rw [hb] at k
    refine ⟨fun _ => go_in (e162_132 (k161 (d0 := d) _ _ _ _ h1 fun M2 h2 f2 => e162_136 ?_)), fun z => absurd rfl z⟩
    have hF2 := hF1.tr f2
    have k : ∀ M', CPR tp tl N s dp (bdP (pSum (tkk tp tl) (nnk tp tl) i) fun j c s => if tkk tp tl j = 15 then bdP (pSum (tkk tp tl) (nnk tp tl) (j + 1)) fun k d r => okP k (c ++ (d ++ [(13, 0)])) (wls s r) else if tkk tp tl j = 16 then bdP (pSum (tkk tp tl) (nnk tp tl) (j + 1)) fun k d r => okP k (c ++ (d ++ [(14, 0)])) (wls r s) else erP j) M' → Fr (aPs s) M0 M' → Q [.int (nI (cond (okB (bdP (pSum (tkk tp tl) (nnk tp tl) i) fun j c s => if tkk tp tl j = 15 then bdP (pSum (tkk tp tl) (nnk tp tl) (j + 1)) fun k d r => okP k (c ++ (d ++ [(13, 0)])) (wls s r) else if tkk tp tl j = 16 then bdP (pSum (tkk tp tl) (nnk tp tl) (j + 1)) fun k d r => okP k (c ++ (d ++ [(14, 0)])) (wls r s) else erP j)) 1 0))] M' := k
    cases hr : pSum (tkk tp tl) (nnk tp tl) i with
    | inl e =>
      rw [hr] at h2 k
      exact ⟨fun z => absurd rfl z, fun _ => ⟨Or.inl rfl, rfl, k M2 h2 hF2⟩⟩
    | inr t =>
      obtain ⟨j, c, v⟩ := t
      rw [hr] at h2 k
      obtain ⟨h2, d2⟩ := h2
      have g := pSum_g (tkk_N hN) hm hr
      have a1 := g.len
      have a2 := g.up
      have k : ∀ M', CPR tp tl N s dp (if tkk tp tl j = 15 then bdP (pSum (tkk tp tl) (nnk tp tl) (j + 1)) fun k d r => okP k (c ++ (d ++ [(13, 0)])) (wls v r) else if tkk tp tl j = 16 then bdP (pSum (tkk tp tl) (nnk tp tl) (j + 1)) fun k d r => okP k (c ++ (d ++ [(14, 0)])) (wls r v) else erP j) M' → Fr (aPs s) M0 M' → Q [.int (nI (cond (okB (if tkk tp tl j = 15 then bdP (pSum (tkk tp tl) (nnk tp tl) (j + 1)) fun k d r => okP k (c ++ (d ++ [(13, 0)])) (wls v r) else if tkk tp tl j = 16 then bdP (pSum (tkk tp tl) (nnk tp tl) (j + 1)) fun k d r => okP k (c ++ (d ++ [(14, 0)])) (wls r v) else erP j)) 1 0))] M' := k
      obtain ⟨p2, hp2, hnb2, h62⟩ := h2.2.2.2.1
      -- the second sum
      have second : ∀ (x : Nat) (a : Nat) (m : SUM → MSK) M3, (a = cond (Nat.beq x 0) 14 13) → tkk tp tl j ≠ 0 → RSt tp tl N (j + 1) (s + c.length) dp M3 → DC M3 s c → Fr (aPs s) M0 M3 → (∀ M', CPR tp tl N s dp (bdP (pSum (tkk tp tl) (nnk tp tl) (j + 1)) fun k d r => okP k (c ++ (d ++ [(a, 0)])) (m r)) M' → Fr (aPs s) M0 M' → Q [.int (nI (cond (okB (bdP (pSum (tkk tp tl) (nnk tp tl) (j + 1)) fun k d r => okP k (c ++ (d ++ [(a, 0)])) (m r))) 1 0))] M') → x < 2 → WM (d + 5) 162 Q 161 [some (.ref 768), some (.int (nI x))] [] M3 := fun x a m M3 ha hj0 h3 d3 hF3 k hx => by
        refine go_in (e162_161 (k161 (d0 := d) _ _ _ _ h3 fun M4 h4' f4 => e162_165 ?_))
        have hF4 := hF3.tr (f4.up fun k j => aPs_le (s := s) (by omega))
        cases hr2 : pSum (tkk tp tl) (nnk tp tl) (j + 1) with
        | inl e =>
          rw [hr2] at h4' k
          exact ⟨fun z => absurd rfl z, fun _ => go_in (e162_168 ⟨Or.inl rfl, rfl, k M4 h4' hF4⟩)⟩
        | inr t2 =>
          obtain ⟨j2, c2, v2⟩ := t2
          rw [hr2] at h4' k
          obtain ⟨h4', d4⟩ := h4'
          have g2 := pSum_g (tkk_N hN) hm hr2
          have b1 := g2.len
          have b2 := g2.up
          have b3 := g2.le
          obtain ⟨e1, e2, e3⟩ := em_st (a := a) (b := 0) h4' (by omega)
          have lnc : s + (c ++ (c2 ++ [(a, 0)])).length = s + c.length + c2.length + 1 := by
            simp only [List.length_append, List.length_cons, List.length_nil]
            omega
          have fin := k _ ⟨by rw [lnc]; exact e1, ((d3.of f4 (Nat.le_refl _)).of e3 (by omega)).app ((d4.of e3 (Nat.le_refl _)).app e2)⟩ (hF4.tr (e3.up fun k j => aPs_le (by omega)))
          refine ⟨fun _ => go_in (e162_170 ?_), fun z => absurd z (by first | decide | exact nz1)⟩
          obtain rfl | rfl : x = 0 ∨ x = 1 := by omega
          · have ha : a = 14 := ha
            subst ha
            exact ⟨fun _ => go_in (e162_180 (go_in (e162_182 (upC (k159 (d := 0) (s := s + c.length + c2.length) (by omega) h4'.2.2.2.2.1 (e162_186 ⟨Or.inr rfl, rfl, fin⟩)) (by omega))))), fun z => absurd rfl z⟩
          · have ha : a = 13 := ha
            subst ha
            exact ⟨fun z => absurd z (by first | decide | exact nz1), fun _ => go_in (e162_182 (upC (k159 (d := 0) (s := s + c.length + c2.length) (by omega) h4'.2.2.2.2.1 (e162_186 ⟨Or.inr rfl, rfl, fin⟩)) (by omega)))⟩
      refine ⟨fun _ => go_in (e162_141 (upC (k154 (d := 0) (c := 60) h2.2.1 hp2 h62 hnb2 (j := 15) rfl (by decide) (by decide) fun p3 M3 hp3 hn3 g63 g83 f3 => e162_147 ?_) (by omega))), fun z => absurd z (by first | decide | exact nz1)⟩
      have hF3 := hF2.tr (f3.up fun k j => aPb_s)
      by_cases q15 : tkk tp tl j = 15
      · rw [decide_eq_true q15]
        rw [if_pos q15] at hn3 k
        have hjN := tkk_N hN j (by omega)
        exact ⟨fun _ => second 1 13 (fun r => wls v r) M3 rfl (by omega) (h2.pb f3 (by omega) (by omega) hp3 hn3 g63) (d2.pb f3) hF3 k (by decide), fun z => absurd z (by first | decide | exact nz1)⟩
      · rw [decide_eq_false q15]
        rw [if_neg q15] at hn3 k
        refine ⟨fun z => absurd rfl z, fun _ => upC (k154 (d := 0) (c := 62) (h2.2.1.pb f3) hp3 g63 hn3 (j := 16) rfl (by decide) (by decide) fun p4 M4 hp4 hn4 g64 g84 f4 => e162_158 ?_) (by omega)⟩
        have hF4 := hF3.tr (f4.up fun k j => aPb_s)
        by_cases q16 : tkk tp tl j = 16
        · rw [decide_eq_true q16]
          rw [if_pos q16] at hn4 k
          have hjN := tkk_N hN j (by omega)
          exact ⟨fun z => absurd z (by first | decide | exact nz1), fun _ => second 0 14 (fun r => wls r v) M4 rfl (by omega) (h2.pb (f3.tr f4) (by omega) (by omega) hp4 hn4 g64) ((d2.pb f3).pb f4) hF4 k (by decide)⟩
        · rw [decide_eq_false q16]
          rw [if_neg q16] at hn4 k
          exact ⟨fun _ => go_in (e162_168 ⟨Or.inl rfl, rfl, k M4 g84 hF4⟩), fun z => absurd rfl z⟩
/-- another depth -/
theorem RSt.dp {M : Mm} {i s : Nat} {dp : Int32} (h : RSt tp tl N i s dp M) (x : Int32) : RSt tp tl N i s x (sI M 768 9 x) := by
  obtain ⟨h1, h2, h3, ⟨p, p1, p2, p3⟩, h4, h5⟩ := h
  have hF : Fr (fun k j => Nat.beq k 768 && Nat.beq j 9) M (sI M 768 9 x) := Fr.rf.sI rfl
  exact ⟨h1, h2.of hF rfl (fun j => rfl), h3, ⟨p, p1, p2, (sI_j _ _ (by decide)).trans p3⟩, (sI_j _ _ (by decide)).trans h4, sI_e _ _ _ _⟩
theorem DC.dp {M : Mm} {s : Nat} {c : List (Nat × Nat)} (h : DC M s c) (x : Int32) : DC (sI M 768 9 x) s c := fun n y hy => by
  rw [sI_k _ _ (by decide), sI_k _ _ (by decide)]
  exact h n y hy
theorem k162 : ∀ r, r ≤ 6 → KPt tp tl N 162 (d + 3 * r + 6) (nI (6 - r)) (pAtom (tkk tp tl) (nnk tp tl) r) := fun r => by
  induction r with
  | zero =>
    intro hr M i s Q h k
    have hN := h.1
    have h4 := h.2.1.1
    obtain ⟨p, hp, hnb, h6⟩ := h.2.2.2.1
    refine sC (by decide) rfl (go_in (e162_0 (upC (k154 (d := 0) (c := 40) h.2.1 hp h6 hnb (j := 12) rfl (by decide) (by decide) fun p1 M1 hp1 hn1 g61 g81 f1 => e162_6 ?_) (by omega))))
    have hF1 : Fr (aPs s) M M1 := f1.up fun k j => aPb_s
    have d9 : M1.1 768 9 = nI (6 - 0) := (f1 _ _ rfl).1.trans h.2.2.2.2.2
    rw [d9]
    have er : tkk tp tl i = 7 ∨ tkk tp tl i = 12 → pAtom (tkk tp tl) (nnk tp tl) 0 i = .inl i := fun z => if_pos z
    by_cases q12 : tkk tp tl i = 12
    · rw [decide_eq_true q12]
      rw [er (Or.inr q12)] at k
      exact ⟨fun z => absurd z (by first | decide | exact nz1), fun _ => ⟨fun z => absurd rfl z, fun _ => ⟨Or.inl rfl, rfl, k M1 g81 hF1⟩⟩⟩
    · rw [decide_eq_false q12]
      rw [if_neg q12] at hn1
      refine ⟨fun _ => go_in (e162_56 (upC (k153 (d := 0) (t := 70220) (h.2.1.pb f1) hp1 g61 hn1 rfl (j := 7) str_20 (by decide) (by decide) fun p2 M2 hp2 hn2 g62 g82 f2 => e162_62 ?_) (by omega))), fun z => absurd rfl z⟩
      have hF2 := hF1.tr (f2.up fun k j => aPb_s)
      rw [(f2 _ _ rfl).1, d9]
      by_cases q7 : tkk tp tl i = 7
      · rw [decide_eq_true q7]
        rw [er (Or.inl q7)] at k
        exact ⟨fun z => absurd z (by first | decide | exact nz1), fun _ => ⟨fun z => absurd rfl z, fun _ => ⟨Or.inl rfl, rfl, k M2 g82 hF2⟩⟩⟩
      · rw [decide_eq_false q7]
        rw [if_neg q7] at hn2
        have e : pAtom (tkk tp tl) (nnk tp tl) 0 i = pBase (tkk tp tl) (nnk tp tl) i := if_neg (fun z => z.elim q7 q12)
        rw [e] at k
        exact ⟨fun _ => t162 (h.pb (f1.tr f2) h.2.2.1.1 h.2.2.1.2 hp2 hn2 g62) hF2 k, fun z => absurd rfl z⟩
  | succ r ih =>
    intro hr M i s Q h k
    have hN := h.1
    have h4 := h.2.1.1
    have hn := hN.le h4
    have hm : ∀ i, nnk tp tl i ≤ 99 := fun i => nnk_le i
    have ih := ih (by omega)
    have hg := pAtom_g (tkk_N hN) hm r
    have k64 := k164 (d0 := d + 3 * r + 3) hg (k163 (d0 := d + 3 * r + 2) hg ih)
    obtain ⟨p, hp, hnb, h6⟩ := h.2.2.2.1
    refine sC (by decide) rfl (go_in (e162_0 (upC (k154 (d := 0) (c := 40) h.2.1 hp h6 hnb (j := 12) rfl (by decide) (by decide) fun p1 M1 hp1 hn1 g61 g81 f1 => e162_6 ?_) (by omega))))
    have hF1 : Fr (aPs s) M M1 := f1.up fun k j => aPb_s
    have d9 : M1.1 768 9 = nI (6 - (r + 1)) := (f1 _ _ rfl).1.trans h.2.2.2.2.2
    have e6 : nI (6 - (r + 1)) + nI 1 = nI (6 - r) := by
      rw [nI_add]
      congr 1
      omega
    have e7 : nI (6 - r) - nI 1 = nI (6 - (r + 1)) := by
      rw [nI_sub (by omega)]
      congr 1
    rw [d9]
    by_cases q12 : tkk tp tl i = 12
    · rw [decide_eq_true q12]
      rw [if_pos q12] at hn1
      have hiN := tkk_N hN i (by omega)
      have e : pAtom (tkk tp tl) (nnk tp tl) (r + 1) i = bdP (pOrs (tkk tp tl) (pAtom (tkk tp tl) (nnk tp tl) r) (i + 1)) fun j c m => if tkk tp tl j = 13 then okP (j + 1) c m else erP j := by
        show (if tkk tp tl i = 7 then _ else _) = _
        rw [if_neg (by omega), if_pos q12]
      rw [e] at k
      refine ⟨fun z => absurd z (by first | decide | exact nz1), fun _ => ⟨fun _ => go_in (e162_20 ?_), fun z => absurd z ?_⟩⟩
      · rw [d9, e6]
        have h1 : RSt tp tl N (i + 1) s (nI (6 - r)) (sI M1 768 9 (nI (6 - r))) := (h.pb f1 (by omega) (by have := h.2.2.1.2; omega) hp1 hn1 g61).dp _
        refine upC (k64 _ _ _ _ h1 fun M2 h2 f2 => e162_34 ?_) (by omega)
        have hF2 : Fr (aPs s) M M2 := (hF1.sI rfl).tr f2
        cases hr2 : pOrs (tkk tp tl) (pAtom (tkk tp tl) (nnk tp tl) r) (i + 1) with
        | inl e =>
          rw [hr2] at h2 k
          exact ⟨fun z => absurd rfl z, fun _ => ⟨Or.inl rfl, rfl, k M2 h2 hF2⟩⟩
        | inr t =>
          obtain ⟨j, c, m⟩ := t
          rw [hr2] at h2 k
          obtain ⟨h2, d2⟩ := h2
          have k : ∀ M', CPR tp tl N s (nI (6 - (r + 1))) (if tkk tp tl j = 13 then okP (j + 1) c m else erP j) M' → Fr (aPs s) M M' → Q [.int (nI (cond (okB (if tkk tp tl j = 13 then okP (j + 1) c m else erP j)) 1 0))] M' := k
          refine ⟨fun _ => go_in (e162_39 ?_), fun z => absurd z (by first | decide | exact nz1)⟩
          rw [h2.2.2.2.2.2, e7]
          have h3 := h2.dp (nI (6 - (r + 1)))
          obtain ⟨p3, hp3, hnb3, h63⟩ := h3.2.2.2.1
          refine upC (k154 (d := 0) (c := 41) h3.2.1 hp3 h63 hnb3 (j := 13) rfl (by decide) (by decide) fun p4 M4 hp4 hn4 g64 g84 f4 => e162_55 ?_) (by omega)
          have hF4 := (hF2.sI (k := 768) (j := 9) (v := nI (6 - (r + 1))) rfl).tr (f4.up fun k j => aPb_s)
          by_cases q13 : tkk tp tl j = 13
          · rw [if_pos q13] at k hn4
            rw [decide_eq_true q13]
            have hjN := tkk_N hN j (by omega)
            exact ⟨Or.inr rfl, rfl, k M4 ⟨h3.pb f4 (by omega) (by have := h3.2.2.1.2; omega) hp4 hn4 g64, (d2.dp _).pb f4⟩ hF4⟩
          · rw [if_neg q13] at k
            rw [decide_eq_false q13]
            exact ⟨Or.inl rfl, rfl, k M4 g84 hF4⟩
      · rw [nI_q (by omega) (by decide)]
        omega
    · rw [decide_eq_false q12]
      rw [if_neg q12] at hn1
      refine ⟨fun _ => go_in (e162_56 (upC (k153 (d := 0) (t := 70220) (h.2.1.pb f1) hp1 g61 hn1 rfl (j := 7) str_20 (by decide) (by decide) fun p2 M2 hp2 hn2 g62 g82 f2 => e162_62 ?_) (by omega))), fun z => absurd rfl z⟩
      have hF2 := hF1.tr (f2.up fun k j => aPb_s)
      have d92 : M2.1 768 9 = nI (6 - (r + 1)) := (f2 _ _ rfl).1.trans d9
      rw [d92]
      by_cases q7 : tkk tp tl i = 7
      · rw [decide_eq_true q7]
        rw [if_pos q7] at hn2
        have hiN := tkk_N hN i (by omega)
        have e : pAtom (tkk tp tl) (nnk tp tl) (r + 1) i = bdP (pAtom (tkk tp tl) (nnk tp tl) r (i + 1)) fun j c m => okP j (c ++ [(15, 0)]) (fun T p => !m T p) := if_pos q7
        rw [e] at k
        refine ⟨fun z => absurd z (by first | decide | exact nz1), fun _ => ⟨fun _ => go_in (e162_76 ?_), fun z => absurd z ?_⟩⟩
        · rw [d92, e6]
          have h1 : RSt tp tl N (i + 1) s (nI (6 - r)) (sI M2 768 9 (nI (6 - r))) := (h.pb (f1.tr f2) (by omega) (by have := h.2.2.1.2; omega) hp2 hn2 g62).dp _
          refine upC (ih _ _ _ _ h1 fun M3 h3 f3 => e162_90 ?_) (by omega)
          have hF3 : Fr (aPs s) M M3 := (hF2.sI rfl).tr f3
          cases hr2 : pAtom (tkk tp tl) (nnk tp tl) r (i + 1) with
          | inl e =>
            rw [hr2] at h3 k
            exact ⟨fun z => absurd rfl z, fun _ => ⟨Or.inl rfl, rfl, k M3 h3 hF3⟩⟩
          | inr t =>
            obtain ⟨j, c, m⟩ := t
            rw [hr2] at h3 k
            obtain ⟨h3, d3⟩ := h3
            have g := hg _ _ _ _ hr2
            have a1 := g.len
            have a3 := g.le
            have hs := h.2.2.1.2
            refine ⟨fun _ => go_in (e162_95 ?_), fun z => absurd z (by first | decide | exact nz1)⟩
            rw [h3.2.2.2.2.2, e7]
            have h5 := h3.dp (nI (6 - (r + 1)))
            obtain ⟨e1, e2, e3⟩ := em_st (a := 15) (b := 0) h5 (by omega)
            have lnc : s + (c ++ [(15, 0)]).length = s + c.length + 1 := by
              simp only [List.length_append, List.length_cons, List.length_nil]
              omega
            exact upC (k159 (d := 0) (s := s + c.length) (by omega) h5.2.2.2.2.1 (e162_112 ⟨Or.inr rfl, rfl, k _ ⟨by rw [lnc]; exact e1, ((d3.dp _).of e3 (Nat.le_refl _)).app e2⟩ ((hF3.sI rfl).tr (e3.up fun k j => aPs_le (by omega)))⟩)) (by omega)
        · rw [nI_q (by omega) (by decide)]
          omega
      · rw [decide_eq_false q7]
        rw [if_neg q7] at hn2
        have e : pAtom (tkk tp tl) (nnk tp tl) (r + 1) i = pBase (tkk tp tl) (nnk tp tl) i := by
          show (if tkk tp tl i = 7 then _ else if tkk tp tl i = 12 then _ else _) = _
          rw [if_neg q7, if_neg q12]
        rw [e] at k
        have t := t162 (d := d + 3 * (r + 1)) (h.pb (f1.tr f2) h.2.2.1.1 h.2.2.1.2 hp2 hn2 g62) hF2 k
        exact ⟨fun _ => t, fun z => absurd rfl z⟩
end RA
