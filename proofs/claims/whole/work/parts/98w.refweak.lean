/-! The reference's weak: the loops. -/
theorem LNE.ge {P : Nat → Nat → Bool} {M N : Mm} {q n num : Nat} {cs : List (Nat × Nat)} (h : LNE M q n num cs) (hF : Fr P M N) (h0 : ∀ j, 475 ≤ j → P 50177 j = false) : LNE N q n num cs := by
  obtain ⟨lo, ⟨h1, h2, h3, h4⟩, h5⟩ := h
  have e : ∀ j, 475 ≤ j → N.1 50177 j = M.1 50177 j := fun j hj => (hF _ _ (h0 j hj)).1
  exact ⟨lo, ⟨h1, by rw [e _ (by omega)]; exact h2, by rw [e _ (by omega)]; exact h3, by rw [e _ (by omega)]; exact h4⟩, fun i c hc => by rw [e _ (by omega), e _ (by omega)]; exact h5 i c hc⟩
theorem DRel.ge {w : Nat → Nat} {ta : Nat → Nat → Nat → Nat} {P : Nat → Nat → Bool} {M N : Mm} (h : DRel w ta M) (hF : Fr P M N) (h0 : ∀ j, 475 ≤ j → P 50177 j = false) : DRel w ta N := fun q hq => by
  obtain ⟨lines, h1, h2, h3⟩ := h q hq
  exact ⟨lines, ⟨by rw [(hF _ _ (h0 _ (by omega))).1]; exact h1.1, h1.2.1, fun n x hx => ⟨(h1.2.2 n x hx).1, (h1.2.2 n x hx).2.ge hF h0⟩⟩, h2, h3⟩
/-- P and Q told otherwise -/
def sPQ (M : Mm) (a b : Int32) : Mm := sI (sI M 50177 6 a) 50177 7 b
theorem sPQ_v (M : Mm) (a b : Int32) (k j : Nat) : (sPQ M a b).1 k j = if k = 50177 ∧ j = 7 then b else if k = 50177 ∧ j = 6 then a else M.1 k j := rfl
theorem sPQ_own (M : Mm) (k j : Nat) : (sPQ M (M.1 50177 6) (M.1 50177 7)).1 k j = M.1 k j := by
  rw [sPQ_v]
  split
  · rename_i e; rw [e.1, e.2]
  · split
    · rename_i e; rw [e.1, e.2]
    · rfl
theorem pq_tr {P : Nat → Nat → Bool} {M N : Mm} {a b : Int32} (h : Fr P (sPQ M a b) N) (a' b' : Int32) : Fr P (sPQ M a' b') (sPQ N a' b') := fun k j q => by
  refine ⟨?_, (h k j q).2⟩
  have e := (h k j q).1
  rw [sPQ_v] at e
  rw [sPQ_v, sPQ_v]
  split
  · rfl
  · rename_i h7
    rw [if_neg h7] at e
    split
    · rfl
    · rename_i h6
      rw [if_neg h6] at e
      exact e
theorem pq_own {P : Nat → Nat → Bool} {M N : Mm} (h : Fr P (sPQ M (M.1 50177 6) (M.1 50177 7)) N) : Fr P M N := fun k j q => ⟨by rw [(h k j q).1, sPQ_own], (h k j q).2⟩
theorem own_pq {P : Nat → Nat → Bool} {M N : Mm} (h : Fr P M N) : Fr P (sPQ M (M.1 50177 6) (M.1 50177 7)) N := fun k j q => ⟨by rw [(h k j q).1, sPQ_own], (h k j q).2⟩
theorem MR.pq {w : Nat → Nat} {M : Mm} (h : MR w M) (p q : Nat) : MR (wP w p q) (sPQ M (nI p) (nI q)) := fun i hi => by
  rw [sPQ_v]
  by_cases h7 : i = 7
  · subst h7
    rw [if_pos ⟨rfl, rfl⟩]
    exact iz_n q
  · rw [if_neg (fun e => h7 e.2)]
    by_cases h6 : i = 6
    · subst h6
      rw [if_pos ⟨rfl, rfl⟩]
      exact iz_n p
    · rw [if_neg (fun e => h6 e.2), h i hi]
      unfold wv
      rw [wP_v h6 h7]
theorem DRel.pq {w : Nat → Nat} {ta : Nat → Nat → Nat → Nat} {M : Mm} (h : DRel w ta M) (p q : Nat) : DRel (wP w p q) ta (sPQ M (nI p) (nI q)) := by
  have hF : Fr (fun k j => Nat.beq k 50177 && Nat.blt j 475) M (sPQ M (nI p) (nI q)) := (Fr.rf.sI (show (Nat.beq 50177 50177 && Nat.blt 6 475) = true by decide)).sI (show (Nat.beq 50177 50177 && Nat.blt 7 475) = true by decide)
  have h2 := h.ge hF fun j hj => by
    cases hq : Nat.blt j 475 with
    | true => have := Nat.le_of_ble_eq_true hq; omega
    | false => exact Bool.and_false _
  exact h2
theorem scI_5 {lp lq y x : Nat} {s : Nat × Nat} (h : s.1 ≤ 5 ∧ s.2 ≤ 5) (hy : y ≤ 5) (hx : x ≤ 5) : (scI lp lq y x s).1 ≤ 5 ∧ (scI lp lq y x s).2 ≤ 5 := by
  unfold scI
  split
  · exact h
  · exact ⟨hx, hy⟩
theorem scX_5 {lp lq y : Nat} (hy : y ≤ 5) : ∀ k x s, x + k ≤ 5 → (s : Nat × Nat).1 ≤ 5 ∧ s.2 ≤ 5 → (scX lp lq y k x s).1 ≤ 5 ∧ (scX lp lq y k x s).2 ≤ 5
  | 0, _, _, _, h => h
  | k + 1, x, s, hx, h => scX_5 hy k (x + 1) _ (by omega) (scI_5 h hy (by omega))
theorem mul55 {a b : Nat} (ha : a ≤ 5) (hb : b ≤ 5) : a * b < 2147483648 := Nat.lt_of_le_of_lt (Nat.mul_le_mul ha hb) (by decide)
section W2
variable {d : Nat} {M : Mm} {w : Nat → Nat} {ta : Nat → Nat → Nat → Nat}
theorem x212 {Q : List Value → Mm → Prop} {v1 v2 v3 : Int32} {lp lq y : Nat} (hlp : lp ≤ 5) (hlq : lq ≤ 5) (hy : y ≤ 5) : ∀ k x s, x + k = y → (s : Nat × Nat).1 ≤ 5 ∧ s.2 ≤ 5 → (∀ o9, WM d 212 Q 106 [some (.ref 768), some (.int v1), some (.int v2), some (.int v3), some (.int (nI lp)), some (.int (nI lq)), some (.int (nI (scX lp lq y k x s).1)), some (.int (nI (scX lp lq y k x s).2)), some (.int (nI y)), o9] [] M) → WM d 212 Q 56 [some (.ref 768), some (.int v1), some (.int v2), some (.int v3), some (.int (nI lp)), some (.int (nI lq)), some (.int (nI s.1)), some (.int (nI s.2)), some (.int (nI y)), some (.int (nI x))] [] M := by
  intro k
  induction k with
  | zero =>
    intro x s hx hs hK
    have hx : x = y := by omega
    subst hx
    exact go_in (e212_56 (br_t (nI_le (Nat.le_refl _) (by omega)) (hK _)))
  | succ k ih =>
    intro x s hx hs hK
    have hstep : scX lp lq y (k + 1) x s = scX lp lq y k (x + 1) (scI lp lq y x s) := rfl
    refine go_in (e212_56 (br_f (nI_ge (by omega) (by omega)) ?_))
    rw [nI_mul, nI_mul, nI_mul, nI_mul, nI_leI (mul55 hlp hy) (mul55 (by omega) hlq), nI_ltI (mul55 hs.1 hy) (mul55 (by omega) hs.2)]
    by_cases h1 : lp * y ≤ x * lq
    · have e : scI lp lq y x s = s := if_pos (Or.inl h1)
      refine ⟨fun _ => go_in (e212_100 ?_), fun q => absurd h1 q⟩
      rw [nI_s]
      exact ih (x + 1) s (by omega) hs (by rw [hstep, e] at hK; exact hK)
    · refine ⟨fun q => absurd q h1, fun _ => ?_⟩
      by_cases h2 : s.1 * y < x * s.2
      · have e : scI lp lq y x s = (x, y) := if_neg (fun q => by rcases q with q | q <;> omega)
        refine ⟨fun _ => go_in (e212_92 (go_in (e212_100 ?_))), fun q => absurd h2 q⟩
        rw [nI_s]
        exact ih (x + 1) (x, y) (by omega) ⟨by show x ≤ 5; omega, hy⟩ (by rw [hstep, e] at hK; exact hK)
      · have e : scI lp lq y x s = s := if_pos (Or.inr (by omega))
        refine ⟨fun q => absurd q h2, fun _ => go_in (e212_100 ?_)⟩
        rw [nI_s]
        exact ih (x + 1) s (by omega) hs (by rw [hstep, e] at hK; exact hK)
theorem y212 {Q : List Value → Mm → Prop} {v1 v2 v3 : Int32} {lp lq : Nat} (hlp : lp ≤ 5) (hlq : lq ≤ 5) : ∀ k y s (o9 : Option Value), y + k = 6 → 1 ≤ y → (s : Nat × Nat).1 ≤ 5 ∧ s.2 ≤ 5 → (∀ o4 o5 o8 o9, WM d 212 Q 112 [some (.ref 768), some (.int v1), some (.int v2), some (.int v3), o4, o5, some (.int (nI (scY lp lq k y s).1)), some (.int (nI (scY lp lq k y s).2)), o8, o9] [] M) → WM d 212 Q 47 [some (.ref 768), some (.int v1), some (.int v2), some (.int v3), some (.int (nI lp)), some (.int (nI lq)), some (.int (nI s.1)), some (.int (nI s.2)), some (.int (nI y)), o9] [] M := by
  intro k
  induction k with
  | zero =>
    intro y s o9 hy _ hs hK
    have hy : y = 6 := by omega
    subst hy
    exact go_in (e212_47 (br_t (nI_lt (by decide) (by decide)) (hK _ _ _ _)))
  | succ k ih =>
    intro y s o9 hy hy1 hs hK
    refine go_in (e212_47 (br_f (nI_nlt (by omega) (by decide)) ?_))
    refine x212 hlp hlq (by omega) (y - 1) 1 s (by omega) hs fun o => go_in (e212_106 ?_)
    rw [nI_s]
    exact ih (y + 1) _ _ (by omega) (by omega) (scX_5 (by omega) (y - 1) 1 s (by omega) hs) hK
theorem c212 (hw : MR w M) (hb : WB w) (hD : DRel w ta M) (hp : NP M) : SC (d + 10) 212 [.ref 768] M (fun vs N => vs = [.int (iz (wkV w ta 9 0))] ∧ Fr aRe M N ∧ N.1 768 0 = nI 0) := by
  refine sC (by decide) rfl (go_in (e212_0 ⟨vp_in_nI (by decide) (by decide), vp_in_nI (by decide) (by decide), ?_⟩))
  obtain ⟨M1, hM1⟩ : ∃ M1, M1 = sI M 768 0 (nI 0) := ⟨_, rfl⟩
  have hF1 : Fr aRe M M1 := by rw [hM1]; exact Fr.rf.sI rfl
  have e10 : M1.1 768 0 = nI 0 := by rw [hM1, sI_v, if_pos ⟨rfl, rfl⟩]
  rw [← hM1, nI_c (by decide), nI_c (by decide), (hF1 50177 6 rfl).1, (hF1 50177 7 rfl).1]
  have fin : ∀ (z : Int) (o4 o5 o6 o7 o8 o9 : Option Value) (a b : Int32) N, Fr aRe (sPQ M a b) N → N.1 768 0 = nI 0 → WM (d + 9) 212 (fun vs N => vs = [.int (iz z)] ∧ Fr aRe M N ∧ N.1 768 0 = nI 0) 178 [some (.ref 768), some (.int (M.1 50177 6)), some (.int (M.1 50177 7)), some (.int (iz z)), o4, o5, o6, o7, o8, o9] [] N := by
    intro z o4 o5 o6 o7 o8 o9 a b N hF h0
    refine go_in (e212_178 ⟨vp_in_nI (by decide) (by decide), vp_in_nI (by decide) (by decide), rfl, rfl, ?_, ?_⟩)
    · rw [nI_c (by decide), nI_c (by decide)]
      exact pq_own (pq_tr hF _ _)
    · rw [sI_v, if_neg (by omega), sI_v, if_neg (by omega)]
      exact h0
  have loop : ∀ k i lp lq (o6 o7 o8 o9 : Option Value) (a b : Int32) N, i + k = 9 → lp ≤ 5 → lq ≤ 5 → 1 ≤ lp → scN lp lq = (if k = 0 then (0, 1) else (wp i, wq i)) → Fr aRe (sPQ M a b) N → N.1 768 0 = nI 0 → WM (d + 9) 212 (fun vs N => vs = [.int (iz (wkV w ta k i))] ∧ Fr aRe M N ∧ N.1 768 0 = nI 0) 29 [some (.ref 768), some (.int (M.1 50177 6)), some (.int (M.1 50177 7)), some (.int (iz (-1))), some (.int (nI lp)), some (.int (nI lq)), o6, o7, o8, o9] [] N := by
    intro k
    induction k with
    | zero =>
      intro i lp lq o6 o7 o8 o9 a b N hi hlp hlq h1 hs hF h0
      refine go_in (e212_29 ⟨fun q => absurd q (by decide), fun _ => ⟨fun q => ?_, fun _ => ?_⟩⟩)
      · rw [zero_nI, nI_leI (by omega) (by omega)] at q
        omega
      · refine y212 hlp hlq 4 2 (0, 1) _ rfl (by decide) ⟨by decide, by decide⟩ fun o4 o5 o8 o9 => ?_
        have hs : scY lp lq 4 2 (0, 1) = (0, 1) := hs
        rw [hs]
        refine go_in (e212_112 ⟨fun q => absurd rfl q, fun _ => go_in (e212_29 ⟨fun q => absurd q (by decide), fun _ => ⟨fun _ => ?_, fun q => absurd (by decide) q⟩⟩)⟩)
        exact fin (-1) _ _ _ _ _ _ a b N hF h0
    | succ k ih =>
      intro i lp lq o6 o7 o8 o9 a b N hi hlp hlq h1 hs hF h0
      refine go_in (e212_29 ⟨fun q => absurd q (by decide), fun _ => ⟨fun q => ?_, fun _ => ?_⟩⟩)
      · rw [zero_nI, nI_leI (by omega) (by omega)] at q
        omega
      · refine y212 hlp hlq 4 2 (0, 1) _ rfl (by decide) ⟨by decide, by decide⟩ fun o4 o5 o8 o9 => ?_
        have hs : scY lp lq 4 2 (0, 1) = (wp i, wq i) := hs
        rw [hs]
        have hpq := wpq i (by omega)
        refine go_in (e212_112 ⟨fun _ => go_in (e212_128 ⟨vp_in_nI (by decide) (by decide), vp_in_nI (by decide) (by decide), ?_⟩), fun q => ?_⟩)
        · rw [nI_c (by decide), nI_c (by decide)]
          show SC (d + 9) 192 [.ref 768] (sPQ N (nI (wp i)) (nI (wq i))) _
          have hF2 : Fr aRe (sPQ M (nI (wp i)) (nI (wq i))) (sPQ N (nI (wp i)) (nI (wq i))) := pq_tr hF _ _
          have hMR : MR (wP w (wp i) (wq i)) (sPQ N (nI (wp i)) (nI (wq i))) := (hw.pq (wp i) (wq i)).of hF2 (fun j _ => rfl)
          have hDR : DRel (wP w (wp i) (wq i)) ta (sPQ N (nI (wp i)) (nI (wq i))) := (hD.pq (wp i) (wq i)).of hF2 (fun j => rfl)
          obtain ⟨pd, hPN⟩ := hp.pn (w := w)
          have hPN2 : PN (wP w (wp i) (wq i)) (-1) pd (sPQ N (nI (wp i)) (nI (wq i))) := by
            have hPN3 : PN (wP w (wp i) (wq i)) (-1) pd (sPQ M (nI (wp i)) (nI (wq i))) := ⟨hPN.1, hPN.2.1, hPN.2.2.1, hPN.2.2.2.1, fun q => absurd q (by decide)⟩
            exact hPN3.of hF2 rfl rfl trivial
          refine useC (c192P (d := d) hMR (hb.pq hpq.1 hpq.2.1 hpq.2.2) hDR hPN2) fun vs N2 h => ?_
          obtain ⟨rfl, hF3⟩ := h
          have hF4 : Fr aRe (sPQ M (nI (wp i)) (nI (wq i))) N2 := hF2.tr (hF3.up aBD_re)
          have g0 : N2.1 768 0 = nI 0 := by rw [(hF3 768 0 rfl).1, sPQ_v, if_neg (by omega), if_neg (by omega)]; exact h0
          have hwr : wRf (wP w (wp i) (wq i)) ta (-1) pd = waW (wP w (wp i) (wq i)) ta := by funext b; exact wRf_no _ _ _ b
          rw [hwr, wkJ_pq]
          have hj2 : -1 ≤ wkJ w ta (wp i) (wq i) ∧ wkJ w ta (wp i) (wq i) ≤ 1000 := jdV_bd
          have hv : wkV w ta (k + 1) i = if wkJ w ta (wp i) (wq i) < 0 then wkV w ta k (i + 1) else ((100 * wp i + 10 * wq i + (wkJ w ta (wp i) (wq i)).toNat % 10 : Nat) : Int) := rfl
          refine e212_150 ⟨fun e => go_in (e212_175 ?_), fun e => ⟨by decide, go_in (e212_175 ?_)⟩⟩
          · rw [iz_lt0 ⟨by omega, by omega⟩] at e
            rw [hv, if_pos e]
            refine ih (i + 1) (wp i) (wq i) _ _ _ _ _ _ N2 (by omega) (by omega) (by omega) hpq.1 ?_ hF4 g0
            by_cases hk : k = 0
            · subst hk
              have : i = 8 := by omega
              subst this
              exact scN_8
            · rw [if_neg hk]
              exact scN_s i (by omega)
          · rw [iz_lt0 ⟨by omega, by omega⟩] at e
            rw [wk_sum _ _ (by omega) hj2.2, hv, if_neg e]
            have hp5 : 100 * wp i + 10 * wq i + (wkJ w ta (wp i) (wq i)).toNat % 10 < 2147483648 := by omega
            refine go_in (e212_29 ⟨fun _ => fin _ _ _ _ _ _ _ _ _ N2 hF4 g0, fun q => ?_⟩)
            rw [iz_0le (i32_n hp5)] at q
            omega
        · rw [zero_nI] at q
          have := (iz_eq (a := (wp i : Int)) (b := ((0 : Nat) : Int)) (i32_n (by omega)) (i32_n (by omega))).mp (by rw [← iz_n, ← iz_n]; exact q)
          omega
  have hF2 : Fr aRe (sPQ M (M.1 50177 6) (M.1 50177 7)) M1 := own_pq hF1
  rw [nI_neg1]
  exact loop 9 0 1 1 _ _ _ _ _ _ M1 (by omega) (by decide) (by decide) (by decide) (by rw [if_neg (by decide)]; exact scN_0) hF2 e10
end W2
