/-! The reference reads lines. -/
def LNX (M : Mm) (n lo num : Nat) (cs : List (Nat × Nat)) : Prop := (M.1 50177 (5462 + 3 * n) = nI num ∧ M.1 50177 (5462 + 3 * n + 1) = nI lo ∧ M.1 50177 (5462 + 3 * n + 2) = nI (lo + cs.length)) ∧ DC M lo cs
def aPl (n s k j : Nat) : Bool := aPs s k j || (Nat.beq k 50177 && (Nat.ble (5462 + 3 * n) j && Nat.blt j (5465 + 3 * n)))
/-- what a line's code comes to: none always holds -/
def EVl (c : List (Nat × Nat)) (m : MSK) : Prop := EVc c m ∨ (c = [] ∧ m = fun _ _ => true)
section RLi
variable {d : Nat} {tp : Nat → Int} {tl N : Nat}
theorem aPl_s {n s k j : Nat} (h : aPs s k j = true) : aPl n s k j = true := by
  unfold aPl
  rw [h]
  rfl
theorem aPl_le {n s s' k j : Nat} (h : s ≤ s') (q : aPl n s' k j = true) : aPl n s k j = true := by
  unfold aPl at q ⊢
  rw [Bool.or_eq_true] at q ⊢
  exact q.imp (fun z => aPs_le h z) id
theorem aPl_c {n s j : Nat} (h : 5462 + 3 * n ≤ j) (h2 : j < 5465 + 3 * n) : aPl n s 50177 j = true := by
  show (aPs s 50177 j || (true && (Nat.ble (5462 + 3 * n) j && Nat.blt j (5465 + 3 * n)))) = true
  rw [Nat.ble_eq.mpr h, Nat.blt_eq.mpr h2]
  cases aPs s 50177 j <;> rfl
theorem aPl_f {n s j : Nat} (h : j < 5492 + 2 * s) (h2 : ¬ (5462 + 3 * n ≤ j ∧ j < 5465 + 3 * n)) : aPl n s 50177 j = false := by
  cases q : aPl n s 50177 j with
  | false => rfl
  | true =>
    unfold aPl aPs at q
    simp only [Bool.or_eq_true, Bool.and_eq_true, Nat.beq_eq, Nat.ble_eq, Nat.blt_eq] at q
    omega
theorem RSt.w {M : Mm} {i s : Nat} {dp : Int32} (h : RSt tp tl N i s dp M) (k : Nat) (x : Int32) : RSt tp tl N i s dp (sI M 50177 k x) := by
  obtain ⟨h1, h2, h3, ⟨p, p1, p2, p3⟩, h4, h5⟩ := h
  have hF : Fr (fun k j => Nat.beq k 50177) M (sI M 50177 k x) := Fr.rf.sI rfl
  exact ⟨h1, h2.of hF rfl (fun j => rfl), h3, ⟨p, p1, p2, (sI_k _ _ (by decide)).trans p3⟩, (sI_k _ _ (by decide)).trans h4, (sI_k _ _ (by decide)).trans h5⟩
theorem DC.w {M : Mm} {s k : Nat} {c : List (Nat × Nat)} (h : DC M s c) (hk : k < 5492) (x : Int32) : DC (sI M 50177 k x) s c := fun n y hy => by
  rw [sI_j _ _ (by omega), sI_j _ _ (by omega)]
  exact h n y hy
/-- the line's answer -/
def CPL (tp : Nat → Int) (tl N n s : Nat) (r : PR (Nat × MSK)) (M : Mm) : Prop := match r with
  | .inl e => M.1 768 8 = nI (bgk tp tl e)
  | .inr (j, c, v) => RSt tp tl N j (s + c.length) (nI 0) M ∧ LNX M n s v.1 c
theorem pLine_g {tk nm : Nat → Nat} (hN : ∀ i, tk i ≠ 0 → i < N) (hm : ∀ i, nm i ≤ 99) {i j : Nat} {c : List (Nat × Nat)} {v : Nat × MSK} (h : pLine tk nm i = okP j c v) : GD N (fun c v => v.1 ≤ 3 ∧ EVl c v.2) i j c v := by
  unfold pLine at h
  split at h
  · split at h
    · rename_i h2
      split at h
      · obtain ⟨j1, c1, s1, h3, h4⟩ := bd_ok h
        have g := pOrs_g hN (pAtom_g hN hm 6) h3
        cases h4
        exact ⟨by have := g.len; omega, by have := g.up; omega, g.le, g.cb, h2.2, Or.inl g.ev⟩
      · cases h
        exact ⟨by show i + 0 ≤ i + 2; omega, by omega, by have := hN (i + 1) (by omega); omega, fun x hx => absurd hx (by simp), h2.2, Or.inr ⟨rfl, rfl⟩⟩
    · cases h
  · cases h
theorem k157 {M : Mm} {q : Nat} {Q : List Value → Mm → Prop} (k : Q [.int (nI (475 + 831 * q))] M) : SC (d + 1) 157 [.int (nI q)] M Q := by
  refine sC (by decide) rfl (go_in (e157_0 ?_))
  rw [nI_mul, nI_add]
  exact ⟨rfl, k⟩
theorem k158 {M : Mm} {n : Nat} {Q : List Value → Mm → Prop} (k : Q [.int (nI (5462 + 3 * n))] M) : SC (d + 2) 158 [.int (nI 6), .int (nI n)] M Q := by
  refine sC (by decide) rfl (go_in (e158_0 (k157 (e158_4 ?_))))
  rw [nI_add, nI_mul, nI_add]
  exact ⟨rfl, k⟩
theorem k165 {n : Nat} (hn10 : n < 10) {dp : Int32} {M : Mm} {i s : Nat} {Q : List Value → Mm → Prop} (h : RSt tp tl N i s dp M) (k : ∀ M', CPL tp tl N n s (pLine (tkk tp tl) (nnk tp tl) i) M' → Fr (aPl n s) M M' → Q [.int (nI (cond (okB (pLine (tkk tp tl) (nnk tp tl) i)) 1 0))] M') : SC (d + 28) 165 [.ref 768, .int (nI n)] M Q := by
  have hN := h.1
  have hC := h.2.1
  have h4 := hC.1
  have hn := hN.le h4
  have hm : ∀ i, nnk tp tl i ≤ 99 := fun i => nnk_le i
  have hs := h.2.2.1.2
  obtain ⟨p, hp, hnb, h6⟩ := h.2.2.2.1
  have hb := bgk_le (tp := tp) (tl := tl) i
  have hge := rE_ge (P := isl tp) (tl := tl) _ (bgk tp tl i) rfl
  have hle := rE_le (P := isl tp) (tl := tl) _ (bgk tp tl i) rfl hb
  refine sC (by decide) rfl (go_in (e165_0 (upC (k151 (d := 0) hC hp h6 hnb fun M1 g61 g81 f1 => e165_4 ?_) (by omega))))
  have f1l : Fr (aPl n s) M M1 := f1.up fun k j q => aPl_s (aPb_s q)
  rw [nI_q (by omega) (by decide)]
  refine ⟨fun z => absurd z (by omega), fun _ => upC (k152 (d := 0) (hC.pb f1) (t := 70218) rfl (s := str (70200 + 3)) str_18 (str_lt 3 (by decide)) hge hle g61 g81 (e165_16 ?_)) (by omega)⟩
  rw [tk_w (by decide) (by decide)]
  by_cases q3 : tkk tp tl i = 3
  · rw [decide_eq_true q3]
    have hiN := tkk_N hN i (by omega)
    have hlt : bgk tp tl i < tl := hN.2.2 i hiN
    have nq : nbk tp tl (rE (isl tp) tl (bgk tp tl i)) = bgk tp tl (i + 1) := by
      have hw := tk_w (tp := tp) (tl := tl) (i := i) (j := 3) (by decide) (by decide)
      rw [decide_eq_true q3, Bool.and_eq_true] at hw
      have hl : isl tp (bgk tp tl i) = true := by
        have h := hw.2
        have h : (decide (tp (bgk tp tl i) = ((100 : Nat) : Int)) && spl tp (bgk tp tl i + 1) [114, 97, 119]) = true := h
        rw [Bool.and_eq_true, decide_eq_true_iff] at h
        exact decide_eq_true (by omega)
      rw [bgk_s hlt, enk_l hl hlt]
    refine ⟨fun _ => go_in (e165_21 (upC (k158 (d := 0) (e165_27 ?_)) (by omega))), fun z => absurd z (by first | decide | exact nz1)⟩
    refine upC (k155 (d := 0) (i := i + 1) (hC.pb f1) hle g61 nq (by decide) fun v p2 M2 hv hp2 hn2 g62 g82 f2 => e165_38 ?_) (by omega)
    have f2l : Fr (aPl n s) M M2 := f1l.tr (f2.up fun k j q => aPl_s (aPb_s q))
    have h12 : (sI M2 50177 (5462 + 3 * n) v).1 768 12 = nI s := (sI_k _ _ (by decide)).trans ((f2 _ _ rfl).1.trans ((f1 _ _ rfl).1.trans h.2.2.2.2.1))
    rw [nI_add, nI_c (by omega), nI_c (by omega), h12, show (sI (sI M2 50177 (5462 + 3 * n) v) 50177 (5462 + 3 * n + 1) (nI s)).1 50177 (5462 + 3 * n) = v from (sI_j _ _ (by omega)).trans (sI_e _ _ _ _)]
    obtain ⟨M3, hM3⟩ : ∃ M3, M3 = sI (sI M2 50177 (5462 + 3 * n) v) 50177 (5462 + 3 * n + 1) (nI s) := ⟨_, rfl⟩
    have f3l : Fr (aPl n s) M M3 := by
      rw [hM3]
      exact (f2l.sI (aPl_c (by omega) (by omega))).sI (aPl_c (by omega) (by omega))
    rw [← hM3]
    refine ⟨nI_in2 (by omega) (by decide), nI_in2 (by omega) (by decide), nI_in2 (by omega) (by decide), ?_⟩
    have e12 : tkk tp tl (i + 1) = 2 ∧ nnk tp tl (i + 1) ≤ 3 → pLine (tkk tp tl) (nnk tp tl) i = if tkk tp tl (i + 2) = 4 then bdP (pOrs (tkk tp tl) (pAtom (tkk tp tl) (nnk tp tl) 6) (i + 3)) fun j c m => okP j c (nnk tp tl (i + 1), m) else okP (i + 2) [] (nnk tp tl (i + 1), fun _ _ => true) := fun z => by
      unfold pLine
      rw [if_pos q3, if_pos z]
    by_cases q2 : tkk tp tl (i + 1) = 2 ∧ nnk tp tl (i + 1) ≤ 3
    · rw [e12 q2] at k
      rw [if_pos q2] at hv
      have hi1N := tkk_N hN (i + 1) (by omega)
      subst hv
      have v3 := q2.2
      refine ⟨fun _ => go_in (e165_62 ?_), fun z => absurd ?_ z⟩
      · have h2 : RSt tp tl N (i + 2) s dp M2 := h.pb (f1.tr f2) (by omega) (by omega) hp2 (hn2 q2.1) g62
        have h3 : RSt tp tl N (i + 2) s (nI 0) (sI M3 768 9 (nI 0)) := by
          rw [hM3]
          exact ((h2.w _ _).w _ _).dp _
        obtain ⟨p3, hp3, hnb3, h63⟩ := h3.2.2.2.1
        refine upC (k153 (d := 0) (t := 70219) h3.2.1 hp3 h63 hnb3 rfl (j := 4) str_19 (by decide) (by decide) fun p4 M4 hp4 hn4 g64 g84 f4 => e165_73 ?_) (by omega)
        have f4l : Fr (aPl n s) M M4 := (f3l.sI (aPl_s rfl)).tr (f4.up fun k j q => aPl_s (aPb_s q))
        have c0 : ∀ M5, Fr (aPs s) M4 M5 → M5.1 50177 (5462 + 3 * n) = nI (nnk tp tl (i + 1)) ∧ M5.1 50177 (5462 + 3 * n + 1) = nI s := fun M5 f5 => by
          have a : ∀ j, j < 5492 → M5.1 50177 j = M3.1 50177 j := fun j hj => by
            rw [(f5 _ _ (aPs_f (by omega))).1, (f4 _ _ rfl).1, sI_k _ _ (by decide)]
          rw [a _ (by omega), a _ (by omega), hM3]
          exact ⟨(sI_j _ _ (by omega)).trans (sI_e _ _ _ _), sI_e _ _ _ _⟩
        -- the end: how far the code goes is noted
        have done : ∀ j c m M5 (o1 : Option Value), (∀ M', CPL tp tl N n s (okP j c (nnk tp tl (i + 1), m)) M' → Fr (aPl n s) M M' → Q [.int (nI 1)] M') → RSt tp tl N j (s + c.length) (nI 0) M5 → DC M5 s c → Fr (aPs s) M4 M5 → s + c.length ≤ 400 → WM (d + 27) 165 Q 85 [some (.ref 768), o1, some (.int (nI (5462 + 3 * n)))] [] M5 := fun j c m M5 o1 k h5 d5 f5 hl => by
          refine go_in (e165_85 ?_)
          rw [nI_add, nI_c (by omega), h5.2.2.2.2.1]
          refine ⟨nI_in2 (by omega) (by decide), Or.inr rfl, rfl, k _ ⟨h5.w _ _, ⟨?_, ?_, sI_e _ _ _ _⟩, d5.w (by omega) _⟩ ((f4l.tr (f5.up fun k j q => aPl_s q)).sI (aPl_c (by omega) (by omega)))⟩
          · rw [sI_j _ _ (by omega)]
            exact (c0 M5 f5).1
          · rw [sI_j _ _ (by omega)]
            exact (c0 M5 f5).2
        by_cases q4 : tkk tp tl (i + 2) = 4
        · rw [if_pos q4] at k hn4
          rw [decide_eq_true q4]
          have hi2N := tkk_N hN (i + 2) (by omega)
          have hg := pAtom_g (tkk_N hN) hm 6
          have k64 := k164 (d0 := 21) hg (k163 (d0 := 20) hg (k162 (d := 0) (tp := tp) (tl := tl) (N := N) 6 (Nat.le_refl _)))
          have h5 : RSt tp tl N (i + 3) s (nI (6 - 6)) M4 := h3.pb f4 (by omega) (by omega) hp4 hn4 g64
          refine ⟨fun z => absurd z (by first | decide | exact nz1), fun _ => upC (k64 _ _ _ _ h5 fun M5 h5' f5 => e165_80 ?_) (by omega)⟩
          cases hr : pOrs (tkk tp tl) (pAtom (tkk tp tl) (nnk tp tl) 6) (i + 3) with
          | inl e =>
            rw [hr] at h5' k
            exact ⟨fun z => absurd rfl z, fun _ => ⟨Or.inl rfl, rfl, k M5 h5' (f4l.tr (f5.up fun k j q => aPl_s q))⟩⟩
          | inr t =>
            obtain ⟨j, c, m⟩ := t
            rw [hr] at h5' k
            have g := pOrs_g (tkk_N hN) hg hr
            have a1 := g.len
            have a3 := g.le
            exact ⟨fun _ => done j c m M5 _ k h5'.1 h5'.2 f5 (by omega), fun z => absurd z (by first | decide | exact nz1)⟩
        · rw [if_neg q4] at k hn4
          rw [decide_eq_false q4]
          have h5 : RSt tp tl N (i + 2) s (nI 0) M4 := h3.pb f4 (by omega) (by omega) hp4 hn4 g64
          exact ⟨fun _ => done (i + 2) [] _ M4 _ k h5 (fun n x hx => by cases n <;> cases hx) Fr.rf (by show s + 0 ≤ 400; omega), fun z => absurd rfl z⟩
      · rw [iz_n, iz_0le (i32_n (by omega))]
        omega
    · have e : pLine (tkk tp tl) (nnk tp tl) i = .inl (i + 1) := by
        unfold pLine
        rw [if_pos q3, if_neg q2]
      rw [e] at k
      rw [if_neg q2] at hv
      subst hv
      refine ⟨fun z => absurd z (by first | decide | exact nz1), fun _ => ⟨Or.inl rfl, rfl, k M3 ?_ f3l⟩⟩
      show M3.1 768 8 = _
      rw [hM3, sI_k _ _ (by decide), sI_k _ _ (by decide)]
      exact g82
  · rw [decide_eq_false q3]
    have e : pLine (tkk tp tl) (nnk tp tl) i = .inl i := if_neg q3
    rw [e] at k
    exact ⟨fun z => absurd rfl z, fun _ => go_in (e165_19 ⟨Or.inl rfl, rfl, k M1 g81 f1l⟩)⟩
/-- no line more -/
theorem v165 {dp : Int32} {M : Mm} {i s : Nat} {Q : List Value → Mm → Prop} (h : RSt tp tl N i s dp M) (k : ∀ M', M'.1 768 8 = nI (bgk tp tl i) → Fr aPb M M' → Q [.int (nI 0)] M') : SC (d + 28) 165 [.ref 768, .int (nI 10)] M Q := by
  obtain ⟨p, hp, hnb, h6⟩ := h.2.2.2.1
  refine sC (by decide) rfl (go_in (e165_0 (upC (k151 (d := 0) h.2.1 hp h6 hnb fun M1 g61 g81 f1 => e165_4 ?_) (by omega))))
  exact ⟨fun _ => go_in (e165_19 ⟨Or.inl rfl, rfl, k M1 g81 f1⟩), fun z => absurd rfl z⟩
end RLi
