/-! What is counted, on both sides. -/
def sNn (v : Nat → Nat) : Nat → Nat
  | 0 => 0
  | f + 1 => sNn v f + v f
def azb (v : Nat → Nat) : Nat → Bool
  | 0 => true
  | f + 1 => azb v f && decide (v f = 0)
theorem azb_s {v : Nat → Nat} : ∀ n, azb v n = decide (sNn v n = 0)
  | 0 => rfl
  | n + 1 => by
    show (azb v n && decide (v n = 0)) = decide (sNn v n + v n = 0)
    rw [azb_s n]
    by_cases a : sNn v n = 0
    · by_cases b : v n = 0
      · rw [decide_eq_true a, decide_eq_true b, decide_eq_true (by omega)]
        rfl
      · rw [decide_eq_true a, decide_eq_false b, decide_eq_false (by omega)]
        rfl
    · rw [decide_eq_false a, decide_eq_false (show ¬ sNn v n + v n = 0 by omega), Bool.false_and]
theorem sNn_le {v : Nat → Nat} (h : ∀ f, v f ≤ 3) : ∀ n, sNn v n ≤ 3 * n
  | 0 => Nat.le_refl _
  | n + 1 => by
    have a := sNn_le h n
    have b := h n
    show sNn v n + v n ≤ _
    omega
def ctZ (w : Nat → Nat) (ta : Nat → Nat → Nat → Nat) : Nat → Nat
  | 0 => 0
  | l + 1 => ctZ w ta l + cond (azb (waW w ta 0 l) (w 8)) 1 0
theorem ctZ_le {w : Nat → Nat} {ta : Nat → Nat → Nat → Nat} : ∀ n, ctZ w ta n ≤ n
  | 0 => Nat.le_refl _
  | n + 1 => by
    have a := ctZ_le (w := w) (ta := ta) n
    show ctZ w ta n + cond (azb (waW w ta 0 n) (w 8)) 1 0 ≤ _
    cases azb (waW w ta 0 n) (w 8) <;> simp only [cond] <;> omega
def cnA (w : Nat → Nat) (ta : Nat → Nat → Nat → Nat) (k : Int) : Int := if k = 0 then w 8 else if k = 1 then w 11 else if k = 2 then w 9 else if k = 3 then w 10 else if k = 4 then w 12 else if k = 5 then w 13 else if k = 6 then (w 2 + w 3 + w 4 + w 5 : Nat) else if k = 7 then w 0 else if k = 8 then ctZ w ta (w 0 + 1) else -1
section CO
variable {d : Nat} {M : Mm} {w : Nat → Nat} {ta : Nat → Nat → Nat → Nat}
theorem c123 (hT : TR 512 w ta M) (hb : WB w) : SC (d + 5) 123 [.ref 704] M (fun vs N => vs = [.int (nI (ctZ w ta (w 0 + 1)))] ∧ Fr aCl M N) := by
  obtain ⟨w0, w8, w9⟩ := wb_w hb
  have w10 : w 10 < w 9 := hb.2.2.2.1.2.2.1
  refine sC (by decide) rfl (go_in (e123_0 (useC (c61 hT hb) fun vs N h => ?_)))
  obtain ⟨rfl, hF, hY⟩ := h
  have loop : ∀ k l N (o3 o4 : Option Value), l + k = w 0 + 1 → Fr aCl M N → YR (yW w (w 10)) (kW w) N → WA (yW w (w 10)) (waW w ta) N → WM (d + 4) 123 (fun vs N => vs = [.int (nI (ctZ w ta (w 0 + 1)))] ∧ Fr aCl M N) 15 [some (.ref 704), some (.int (nI (ctZ w ta l))), some (.int (nI l)), o3, o4] [] N := by
    intro k
    induction k with
    | zero =>
      intro l N o3 o4 hl hF hY hA
      have hl : l = w 0 + 1 := by omega
      subst hl
      refine go_in (e123_15 ?_)
      have y0 : N.1 640 0 = nI (w 0) := hY.1.1
      rw [y0]
      exact br_t (nI_lt (by omega) (by omega)) (go_in (e123_84 ⟨rfl, rfl, hF⟩))
    | succ k ih =>
      intro l N o3 o4 hl hF hY hA
      refine go_in (e123_15 ?_)
      have y0 : N.1 640 0 = nI (w 0) := hY.1.1
      rw [y0]
      refine br_f (nI_nlt (by omega) (by omega)) (useC (upC (c67 (d := d) (yB_of hb w10) hA (l := l) (b := 0) (show l ≤ w 0 by omega) (by decide)) (by omega)) fun vs N2 h => ?_)
      obtain ⟨rfl, hF2, hv⟩ := h
      have hF2c : Fr aCl M N2 := hF.tr (hF2.up fun k j q => aYr_cl k j (by unfold aWish at q; unfold aYr; rw [Nat.eq_of_beq_eq_true q]; rfl))
      have hY2 : YR (yW w (w 10)) (kW w) N2 := hY.of hF2 (fun j _ => rfl) (fun j => rfl)
      have hA2 : WA (yW w (w 10)) (waW w ta) N2 := hA.of hF2 (fun j => rfl)
      refine e123_35 ?_
      have sum : ∀ m f, f + m = w 8 → WM (d + 4) 123 (fun vs N => vs = [.int (nI (ctZ w ta (w 0 + 1)))] ∧ Fr aCl M N) 40 [some (.ref 704), some (.int (nI (ctZ w ta l))), some (.int (nI l)), some (.int (nI (sNn (waW w ta 0 l) f))), some (.int (nI f))] [] N2 := by
        intro m
        induction m with
        | zero =>
          intro f hf
          have hf : f = w 8 := by omega
          subst hf
          have y2 : N2.1 640 2 = nI (w 8) := hY2.1.2.2.1
          refine go_in (e123_40 ?_)
          rw [y2]
          refine br_t (nI_le (Nat.le_refl _) (by omega)) (go_in (e123_71 ?_))
          have hs := sNn_le (v := waW w ta 0 l) (fun f => wbd_le) (w 8)
          have hc := ctZ_le (w := w) (ta := ta) l
          have es : ctZ w ta (l + 1) = ctZ w ta l + cond (azb (waW w ta 0 l) (w 8)) 1 0 := rfl
          rw [azb_s] at es
          rw [zero_nI, nI_q (by omega) (by decide)]
          have nx := fun o3 o4 => ih (l + 1) N2 o3 o4 (by omega) hF2c hY2 hA2
          rw [es] at nx
          refine ⟨fun e => go_in (e123_78 ?_), fun e => go_in (e123_78 ?_)⟩
          · rw [decide_eq_false e] at nx
            rw [nI_s]
            exact nx _ _
          · rw [decide_eq_true e] at nx
            rw [nI_s, nI_s]
            exact nx _ _
        | succ m ih2 =>
          intro f hf
          have y2 : N2.1 640 2 = nI (w 8) := hY2.1.2.2.1
          refine go_in (e123_40 ?_)
          rw [y2]
          refine br_f (nI_ge (by omega) (by omega)) ⟨nI_in2 (by omega) (by decide), ?_⟩
          rw [nI_c (by omega), hv f (show f < w 8 by omega), nI_add, nI_s]
          exact ih2 (f + 1) (by omega)
      exact sum (w 8) 0 (by omega)
  exact e123_11 (loop (w 0 + 1) 0 N _ _ (by omega) (hF.up aYr_cl) hY.1 hY.2.2.2)
theorem c95 (hT : TR 512 w ta M) (hb : WB w) {k : Int} (hk : i32 k) : SC (d + 6) 95 [.ref 704, .int (iz k)] M (fun vs N => vs = [.int (iz (cnA w ta k))] ∧ Fr aCl M N) := by
  refine sC (by decide) rfl (go_in (e95_0 ?_))
  have q : ∀ (n : Nat) (m : Int), m = (n : Int) → n < 9 → (iz k = nI n ↔ k = m) := fun n m e hn => by rw [e, iz_n n, iz_eq hk (i32_n (by omega))]
  rw [q 0 0 rfl (by decide), q 1 1 rfl (by decide), q 2 2 rfl (by decide), q 3 3 rfl (by decide), q 4 4 rfl (by decide), q 5 5 rfl (by decide), q 6 6 rfl (by decide), q 7 7 rfl (by decide), q 8 8 rfl (by decide)]
  have h1 := hT.1.2.1
  have h2 := hT.1.2.2
  unfold cnA
  refine ⟨fun e => go_in (e95_52 ⟨rfl, ?_, Fr.rf⟩), fun g0 => ⟨fun e => go_in (e95_60 ⟨rfl, ?_, Fr.rf⟩), fun g1 => ⟨fun e => go_in (e95_68 ⟨rfl, ?_, Fr.rf⟩), fun g2 => ⟨fun e => go_in (e95_76 ⟨rfl, ?_, Fr.rf⟩), fun g3 => ⟨fun e => go_in (e95_84 ⟨rfl, ?_, Fr.rf⟩), fun g4 => ⟨fun e => go_in (e95_92 ⟨rfl, ?_, Fr.rf⟩), fun g5 => ⟨fun e => go_in (e95_100 (useC (upC (c52 (d := d) hT) (by omega)) fun vs N h => ?_)), fun g6 => ⟨fun e => go_in (e95_108 ⟨rfl, ?_, Fr.rf⟩), fun g7 => ⟨fun e => go_in (e95_116 (useC (c123 (d := d) hT hb) fun vs N h => ?_)), fun g8 => go_in (e95_121 ⟨rfl, ?_, Fr.rf⟩)⟩⟩⟩⟩⟩⟩⟩⟩⟩
  · rw [if_pos e, h1.1, iz_n]
  · rw [if_neg g0, if_pos e, h2.1, iz_n]
  · rw [if_neg g0, if_neg g1, if_pos e, h1.2.1, iz_n]
  · rw [if_neg g0, if_neg g1, if_neg g2, if_pos e, h1.2.2, iz_n]
  · rw [if_neg g0, if_neg g1, if_neg g2, if_neg g3, if_pos e, h2.2.1, iz_n]
  · rw [if_neg g0, if_neg g1, if_neg g2, if_neg g3, if_neg g4, if_pos e, h2.2.2, iz_n]
  · obtain ⟨rfl, h⟩ := h
    have h := h.symm
    subst h
    exact e95_107 ⟨rfl, by rw [if_neg g0, if_neg g1, if_neg g2, if_neg g3, if_neg g4, if_neg g5, if_pos e, iz_n], Fr.rf⟩
  · rw [if_neg g0, if_neg g1, if_neg g2, if_neg g3, if_neg g4, if_neg g5, if_neg g6, if_pos e, hT.1.1.1, iz_n]
  · obtain ⟨rfl, h⟩ := h
    exact e95_120 ⟨rfl, by rw [if_neg g0, if_neg g1, if_neg g2, if_neg g3, if_neg g4, if_neg g5, if_neg g6, if_neg g7, if_pos e, iz_n], h⟩
  · rw [if_neg g0, if_neg g1, if_neg g2, if_neg g3, if_neg g4, if_neg g5, if_neg g6, if_neg g7, if_neg g8, nI_neg1]
theorem c224 (hI : RI w ta M) (hb : WB w) {k : Int} (hk : i32 k) : SC (d + 7) 224 [.ref 768, .int (iz k)] M (fun vs N => vs = [.int (iz (cnA w ta k))] ∧ Fr aRe M N ∧ N.1 768 0 = nI 0) := by
  obtain ⟨w0, w8, w9⟩ := wb_w hb
  refine sC (by decide) rfl (go_in (e224_0 ?_))
  have q : ∀ (n : Nat) (m : Int), m = (n : Int) → n < 9 → (iz k = nI n ↔ k = m) := fun n m e hn => by rw [e, iz_n n, iz_eq hk (i32_n (by omega))]
  rw [q 0 0 rfl (by decide), q 1 1 rfl (by decide), q 2 2 rfl (by decide), q 3 3 rfl (by decide), q 4 4 rfl (by decide), q 5 5 rfl (by decide), q 6 6 rfl (by decide), q 7 7 rfl (by decide), q 8 8 rfl (by decide)]
  have h1 := hI.z (nI 0)
  have hF0 : Fr aRe M (sI M 768 0 (nI 0)) := Fr.rf.sI rfl
  have hw := h1.1
  have IN : ∀ j, j < 475 → vp_in (nI j) 6292 := fun j hj => nI_in2 (by omega) (by decide)
  unfold cnA
  refine ⟨fun e => go_in (e224_60 (k135 hw (e224_64 ⟨rfl, ?_, hF0, rfl⟩))), fun g0 => ⟨fun e => go_in (e224_65 ⟨IN _ (by decide), rfl, ?_, hF0, rfl⟩), fun g1 => ⟨fun e => go_in (e224_73 ⟨IN _ (by decide), rfl, ?_, hF0, rfl⟩), fun g2 => ⟨fun e => go_in (e224_81 (useC (upC (c174 (d := d) hw) (by omega)) fun vs N h => ?_)), fun g3 => ⟨fun e => go_in (e224_86 ⟨IN _ (by decide), rfl, ?_, hF0, rfl⟩), fun g4 => ⟨fun e => go_in (e224_94 ⟨IN _ (by decide), rfl, ?_, hF0, rfl⟩), fun g5 => ⟨fun e => go_in (e224_102 (useC (upC (c136 (d := d) hw) (by omega)) fun vs N h => ?_)), fun g6 => ⟨fun e => go_in (e224_107 (useC (upC (c134 (d := d) hw) (by omega)) fun vs N h => ?_)), fun g7 => ⟨fun e => go_in (e224_112 ?_), fun g8 => go_in (e224_192 ⟨rfl, ?_, hF0, rfl⟩)⟩⟩⟩⟩⟩⟩⟩⟩⟩
  · rw [if_pos e, iz_n]
  · rw [if_neg g0, if_pos e, nI_c (by decide), hw.n (by decide) rfl, iz_n]
  · rw [if_neg g0, if_neg g1, if_pos e, nI_c (by decide), hw.n (by decide) rfl, iz_n]
  · obtain ⟨rfl, h⟩ := h
    have h := h.symm
    subst h
    exact e224_85 ⟨rfl, by rw [if_neg g0, if_neg g1, if_neg g2, if_pos e, iz_n], hF0, rfl⟩
  · rw [if_neg g0, if_neg g1, if_neg g2, if_neg g3, if_pos e, nI_c (by decide), hw.n (by decide) rfl, iz_n]
  · rw [if_neg g0, if_neg g1, if_neg g2, if_neg g3, if_neg g4, if_pos e, nI_c (by decide), hw.n (by decide) rfl, iz_n]
  · obtain ⟨rfl, h⟩ := h
    have h := h.symm
    subst h
    exact e224_106 ⟨rfl, by rw [if_neg g0, if_neg g1, if_neg g2, if_neg g3, if_neg g4, if_neg g5, if_pos e, iz_n], hF0, rfl⟩
  · obtain ⟨rfl, h⟩ := h
    have h := h.symm
    subst h
    exact e224_111 ⟨rfl, by rw [if_neg g0, if_neg g1, if_neg g2, if_neg g3, if_neg g4, if_neg g5, if_neg g6, if_pos e, iz_n], hF0, rfl⟩
  · rw [if_neg g0, if_neg g1, if_neg g2, if_neg g3, if_neg g4, if_neg g5, if_neg g6, if_neg g7, if_pos e]
    have loop : ∀ k l N (o1 o4 o5 : Option Value), l + k = w 0 + 1 → Fr aRe M N → RI w ta N → N.1 768 0 = nI 0 → WM (d + 6) 224 (fun vs N => vs = [.int (iz ((ctZ w ta (w 0 + 1) : Nat) : Int))] ∧ Fr aRe M N ∧ N.1 768 0 = nI 0) 114 [some (.ref 768), o1, some (.int (nI (ctZ w ta l))), some (.int (nI l)), o4, o5] [] N := by
      intro k
      induction k with
      | zero =>
        intro l N o1 o4 o5 hl hF hR h0
        have hl : l = w 0 + 1 := by omega
        subst hl
        refine go_in (e224_114 (useC (upC (c134 (d := d) hR.1) (by omega)) fun vs N2 h => ?_))
        obtain ⟨rfl, h⟩ := h
        have h := h.symm
        subst h
        exact e224_119 (br_t (nI_lt (by omega) (by omega)) (go_in (e224_190 ⟨rfl, by rw [iz_n], hF, h0⟩)))
      | succ k ih =>
        intro l N o1 o4 o5 hl hF hR h0
        refine go_in (e224_114 (useC (upC (c134 (d := d) hR.1) (by omega)) fun vs N2 h => ?_))
        obtain ⟨rfl, h⟩ := h
        have h := h.symm
        subst h
        obtain ⟨pd, hp⟩ := NP.pn (w := w) hR.2.2
        refine e224_119 (br_f (nI_nlt (by omega) (by omega)) (useC (upC (c175 (d := d) hR.1 hb hR.2.1 hp (l := l) (b := 0) (by omega) (by decide)) (by omega)) fun vs N2 h => ?_))
        obtain ⟨rfl, hF2, hv⟩ := h
        have hv : ∀ f, f < w 8 → N2.1 50192 f = nI (waW w ta 0 l f) := hv
        have hF2r : Fr aRe M N2 := hF.tr (hF2.up fun k j q => aBD_re k j (aYB_bd k j (aWant_yb k j q)))
        have h02 : N2.1 768 0 = nI 0 := by rw [(hF2 768 0 rfl).1]; exact h0
        have hR2 : RI w ta N2 := hR.of hF2 (fun j => rfl) rfl rfl
        have all : ∀ m f (o1 : Option Value), f + m = w 8 → WM (d + 6) 224 (fun vs N => vs = [.int (iz ((ctZ w ta (w 0 + 1) : Nat) : Int))] ∧ Fr aRe M N ∧ N.1 768 0 = nI 0) 134 [some (.ref 768), o1, some (.int (nI (ctZ w ta l))), some (.int (nI l)), some (.int (nI (cond (azb (waW w ta 0 l) f) 1 0))), some (.int (nI f))] [] N2 := by
          intro m
          induction m with
          | zero =>
            intro f o1 hf
            have hf : f = w 8 := by omega
            subst hf
            refine go_in (e224_134 (k135 hR2.1 (e224_140 (br_t (nI_le (Nat.le_refl _) (by omega)) (go_in (e224_171 ?_))))))
            have es : ctZ w ta (l + 1) = ctZ w ta l + cond (azb (waW w ta 0 l) (w 8)) 1 0 := rfl
            have nx := fun o1 o4 o5 => ih (l + 1) N2 o1 o4 o5 (by omega) hF2r hR2 h02
            rw [es] at nx
            cases hz : azb (waW w ta 0 l) (w 8) with
            | false =>
              rw [hz] at nx
              refine ⟨fun _ => go_in (e224_181 (go_in (e224_182 ?_))), fun q => absurd rfl q⟩
              rw [nI_s, nI_add]
              exact nx _ _ _
            | true =>
              rw [hz] at nx
              refine ⟨fun q => absurd q (by decide), fun _ => go_in (e224_182 ?_)⟩
              rw [nI_s, nI_add]
              exact nx _ _ _
          | succ m ih2 =>
            intro f o1 hf
            refine go_in (e224_134 (k135 hR2.1 (e224_140 (br_f (nI_ge (by omega) (by omega)) ?_))))
            have es : azb (waW w ta 0 l) (f + 1) = (azb (waW w ta 0 l) f && decide (waW w ta 0 l f = 0)) := rfl
            have nx := fun o1 => ih2 (f + 1) o1 (by omega)
            rw [es] at nx
            have hle : waW w ta 0 l f ≤ 3 := wbd_le
            rw [nI_c (by omega), hv f (by omega), zero_nI, nI_q (a := waW w ta 0 l f) (by omega) (by decide)]
            cases hz : azb (waW w ta 0 l) f with
            | false =>
              rw [hz] at nx
              refine ⟨fun _ => go_in (e224_162 (go_in (e224_163 ?_))), fun q => absurd rfl q⟩
              rw [nI_s]
              exact nx _
            | true =>
              rw [hz] at nx
              refine ⟨fun q => absurd q (by decide), fun _ => ⟨nI_in2 (by omega) (by decide), fun e => go_in (e224_162 (go_in (e224_163 ?_))), fun e => go_in (e224_163 ?_)⟩⟩
              · rw [decide_eq_false e] at nx
                rw [nI_s]
                exact nx _
              · rw [decide_eq_true e] at nx
                rw [nI_s]
                exact nx _
        exact e224_128 (all (w 8) 0 _ (by omega))
    exact loop (w 0 + 1) 0 _ _ _ _ (by omega) hF0 h1 rfl
  · rw [if_neg g0, if_neg g1, if_neg g2, if_neg g3, if_neg g4, if_neg g5, if_neg g6, if_neg g7, if_neg g8, nI_neg1]
end CO
