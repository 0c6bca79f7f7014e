/-! The reference reads numbers, parts, sums. -/
def okB {σ : Type} : PR σ → Bool
  | .inl _ => false
  | .inr _ => true
def RSt (tp : Nat → Int) (tl N i s : Nat) (dp : Int32) (M : Mm) : Prop := NOK tp tl N ∧ RCt tp tl M ∧ (i ≤ N ∧ s ≤ i) ∧ (∃ p, p ≤ tl ∧ nbk tp tl p = bgk tp tl i ∧ M.1 768 6 = nI p) ∧ M.1 768 12 = nI s ∧ M.1 768 9 = dp
def aPs (s k j : Nat) : Bool := (Nat.beq k 768 && (Nat.beq j 6 || (Nat.beq j 8 || (Nat.beq j 9 || Nat.beq j 12)))) || (Nat.beq k 50177 && Nat.ble (5492 + 2 * s) j)
def DC (M : Mm) (s : Nat) (c : List (Nat × Nat)) : Prop := ∀ n x, c[n]? = some x → M.1 50177 (5492 + 2 * (s + n)) = nI x.1 ∧ M.1 50177 (5492 + 2 * (s + n) + 1) = nI x.2
def CPR {σ : Type} (tp : Nat → Int) (tl N s : Nat) (dp : Int32) (r : PR σ) (M : Mm) : Prop := match r with
  | .inl e => M.1 768 8 = nI (bgk tp tl e)
  | .inr (j, c, _) => RSt tp tl N j (s + c.length) dp M ∧ DC M s c
/-- method k reads P -/
def KPt {σ : Type} (tp : Nat → Int) (tl N k d : Nat) (dp : Int32) (P : Nat → PR σ) : Prop := ∀ (M : Mm) (i s : Nat) (Q : List Value → Mm → Prop), RSt tp tl N i s dp M → (∀ M', CPR tp tl N s dp (P i) M' → Fr (aPs s) M M' → Q [.int (nI (cond (okB (P i)) 1 0))] M') → SC d k [.ref 768] M Q
theorem aPs_le {s s' k j : Nat} (h : s ≤ s') (q : aPs s' k j = true) : aPs s k j = true := by
  unfold aPs at q ⊢
  simp only [Bool.or_eq_true, Bool.and_eq_true, Nat.beq_eq, Nat.ble_eq] at q ⊢
  omega
theorem aPb_s {s k j : Nat} (q : aPb k j = true) : aPs s k j = true := by
  unfold aPb at q
  unfold aPs
  simp only [Bool.or_eq_true, Bool.and_eq_true, Nat.beq_eq, Nat.ble_eq] at q ⊢
  omega
theorem aPs_c {s j : Nat} (h : 5492 + 2 * s ≤ j) : aPs s 50177 j = true := by
  show (false || (true && Nat.ble (5492 + 2 * s) j)) = true
  rw [Nat.ble_eq.mpr h]
  rfl
theorem aPs_f {s j : Nat} (h : j < 5492 + 2 * s) : aPs s 50177 j = false := by
  cases q : aPs s 50177 j with
  | false => rfl
  | true =>
    unfold aPs at q
    simp only [Bool.or_eq_true, Bool.and_eq_true, Nat.beq_eq, Nat.ble_eq] at q
    omega
theorem DC.of {M M' : Mm} {s s' : Nat} {c : List (Nat × Nat)} (h : DC M s c) (hF : Fr (aPs s') M M') (hs : s + c.length ≤ s') : DC M' s c := fun n x hx => by
  have hn := (List.getElem?_eq_some_iff.mp hx).1
  rw [(hF _ _ (aPs_f (by omega))).1, (hF _ _ (aPs_f (by omega))).1]
  exact h n x hx
theorem DC.app {M : Mm} {s : Nat} {c e : List (Nat × Nat)} (h : DC M s c) (h2 : DC M (s + c.length) e) : DC M s (c ++ e) := fun n x hx => by
  by_cases hn : n < c.length
  · rw [List.getElem?_append_left hn] at hx
    exact h n x hx
  · rw [List.getElem?_append_right (by omega)] at hx
    have := h2 _ _ hx
    rw [show s + c.length + (n - c.length) = s + n by omega] at this
    exact this
theorem RCt.pb {tp : Nat → Int} {tl : Nat} {M M' : Mm} (h : RCt tp tl M) (hF : Fr aPb M M') : RCt tp tl M' := h.of hF rfl (fun j => rfl)
theorem str_18 : str 70218 = str (70200 + 3) := by decide
theorem str_19 : str 70219 = str (70200 + 4) := by decide
theorem str_20 : str 70220 = str (70200 + 7) := by decide
theorem str_21 : str 70221 = str (70200 + 8) := by decide
theorem str_22 : str 70222 = str (70200 + 9) := by decide
theorem str_23 : str 70223 = str (70200 + 10) := by decide
theorem str_24 : str 70224 = str (70200 + 11) := by decide
theorem str_25 : str 70225 = str (70200 + 6) := by decide
theorem str_26 : str 70226 = str (70200 + 5) := by decide
theorem nz1 : ¬ nI 1 = 0 := by decide
section RN
variable {d : Nat} {M : Mm} {tp : Nat → Int} {tl N : Nat}
theorem k155 (hC : RCt tp tl M) {p i high : Nat} (hp : p ≤ tl) (h6 : M.1 768 6 = nI p) (hi : nbk tp tl p = bgk tp tl i) (hh : high < 128) {Q : List Value → Mm → Prop} (k : ∀ v p' M', (v = if tkk tp tl i = 2 ∧ nnk tp tl i ≤ high then nI (nnk tp tl i) else iz (-1)) → p' ≤ tl → (tkk tp tl i = 2 → nbk tp tl p' = bgk tp tl (i + 1)) → M'.1 768 6 = nI p' → M'.1 768 8 = nI (bgk tp tl i) → Fr aPb M M' → Q [.int v] M') : SC (d + 3) 155 [.ref 768, .int (nI high)] M Q := by
  have h4 := hC.1
  have hb := bgk_le (tp := tp) (tl := tl) i
  have hrin := rE_in (P := idg tp) (tl := tl) _ (bgk tp tl i) rfl
  -- the kind, by the run of digits
  have kd : tkk tp tl i = 2 ↔ (rE (idg tp) tl (bgk tp tl i) ≠ bgk tp tl i ∧ rE (idg tp) tl (bgk tp tl i) - bgk tp tl i ≤ 2) := by
    by_cases g : bgk tp tl i < tl ∧ idg tp (bgk tp tl i) = true
    · have hl : isl tp (bgk tp tl i) = false := by
        cases hl : isl tp (bgk tp tl i) with
        | false => rfl
        | true => rw [isl_d hl] at g; cases g.2
      have he : enk tp tl (bgk tp tl i) = rE (idg tp) tl (bgk tp tl i) := by
        unfold enk
        rw [if_neg (by rw [hl]; decide), if_pos g.2, rE_s g.1 g.2]
      have hgt := enk_gt (tp := tp) (tl := tl) (p := bgk tp tl i)
      unfold tkk knd
      rw [if_neg (by omega), if_pos g.2, he]
      by_cases g2 : rE (idg tp) tl (bgk tp tl i) - bgk tp tl i ≤ 2
      · rw [if_pos g2]
        exact ⟨fun _ => ⟨by omega, g2⟩, fun _ => rfl⟩
      · rw [if_neg g2]
        exact ⟨fun z => absurd z (by decide), fun z => absurd z.2 g2⟩
    · rw [rE_n g]
      refine ⟨fun z => ?_, fun z => absurd rfl z.1⟩
      have hlt : bgk tp tl i < tl := by
        by_cases q : bgk tp tl i < tl
        · exact q
        · have := (knd_0 (tp := tp) (tl := tl) (p := bgk tp tl i)).mpr (by omega)
          have z : knd tp tl (bgk tp tl i) = 2 := z
          omega
      have h2 := (knd_2 hlt z).2 0 (by have := enk_gt (tp := tp) (tl := tl) (p := bgk tp tl i); omega)
      exact absurd ⟨hlt, h2⟩ g
  have nn : tkk tp tl i = 2 → nnk tp tl i = nuV tp (bgk tp tl i) (rE (idg tp) tl (bgk tp tl i) - bgk tp tl i) ∧ nbk tp tl (rE (idg tp) tl (bgk tp tl i)) = bgk tp tl (i + 1) := fun z => by
    have g := kd.mp z
    have g' : bgk tp tl i < tl ∧ idg tp (bgk tp tl i) = true := by
      by_cases q : bgk tp tl i < tl ∧ idg tp (bgk tp tl i) = true
      · exact q
      · exact absurd (rE_n q) g.1
    have hl : isl tp (bgk tp tl i) = false := by
      cases hl : isl tp (bgk tp tl i) with
      | false => rfl
      | true => rw [isl_d hl] at g'; cases g'.2
    have he : enk tp tl (bgk tp tl i) = rE (idg tp) tl (bgk tp tl i) := by
      unfold enk
      rw [if_neg (by rw [hl]; decide), if_pos g'.2, rE_s g'.1 g'.2]
    refine ⟨?_, by rw [bgk_s g'.1, he]⟩
    unfold nnk nmk
    rw [if_pos (show knd tp tl (bgk tp tl i) = 2 from z), he]
  have vv : ∀ m, m ≤ 2 → (∀ k, k < m → idg tp (bgk tp tl i + k) = true) → nuV tp (bgk tp tl i) m ≤ 99 ∧ (m ≤ 1 → nuV tp (bgk tp tl i) m ≤ 9) := fun m hm hd => ⟨(nuV_le m hd hm).1, (nuV_le m hd hm).2.1⟩
  have fin : ∀ q M1, bgk tp tl i ≤ q → q ≤ tl → q = rE (idg tp) tl (bgk tp tl i) → (∀ j, bgk tp tl i ≤ j → j < q → idg tp j = true) → M1.1 768 6 = nI q → M1.1 768 8 = nI (bgk tp tl i) → Fr aPb M M1 → WM (d + 2) 155 Q 65 [some (.ref 768), some (.int (nI high)), some (.int (nI (nuV tp (bgk tp tl i) (min (q - bgk tp tl i) 2))))] [] M1 := by
    intro q M1 hbq hq hr hd g6 g8 hF
    rw [← hr] at kd nn
    have bad : ∀ x : Int32, ¬ (tkk tp tl i = 2 ∧ nnk tp tl i ≤ high) → WM (d + 2) 155 Q 94 [some (.ref 768), some (.int (nI high)), some (.int x)] [] M1 := fun x z => go_in (e155_94 (go_in (e155_99 ⟨rfl, k _ q M1 (by rw [if_neg z, nI_neg1]) hq (fun y => (nn y).2) g6 g8 hF⟩)))
    refine go_in (e155_65 ?_)
    rw [g6, g8, nI_q (by omega) (by omega), nI_sub hbq, nI_ltI (by decide) (by omega)]
    refine ⟨fun z => bad _ (fun y => (kd.mp y.1).1 z), fun z => ⟨fun z2 => bad _ (fun y => by have := (kd.mp y.1).2; omega), fun z2 => ?_⟩⟩
    have t2 : tkk tp tl i = 2 := kd.mpr ⟨z, by omega⟩
    have v := (vv (q - bgk tp tl i) (by omega) (fun k hk => hd _ (by omega) (by omega))).1
    rw [show min (q - bgk tp tl i) 2 = q - bgk tp tl i by omega, ← (nn t2).1] 
    have v : nnk tp tl i ≤ 99 := nnk_le i
    rw [nI_leI (by omega) (by omega)]
    refine ⟨fun z3 => go_in (e155_98 (go_in (e155_99 ⟨rfl, k _ q M1 (by rw [if_pos ⟨t2, z3⟩]) hq (fun y => (nn y).2) g6 g8 hF⟩))), fun z3 => bad _ (fun y => z3 y.2)⟩
  have loop : ∀ n q M1, tl - q = n → bgk tp tl i ≤ q → q ≤ tl → rE (idg tp) tl q = rE (idg tp) tl (bgk tp tl i) → (∀ j, bgk tp tl i ≤ j → j < q → idg tp j = true) → M1.1 768 6 = nI q → M1.1 768 8 = nI (bgk tp tl i) → Fr aPb M M1 → WM (d + 2) 155 Q 6 [some (.ref 768), some (.int (nI high)), some (.int (nI (nuV tp (bgk tp tl i) (min (q - bgk tp tl i) 2))))] [] M1 := by
    intro n
    induction n with
    | zero =>
      intro q M1 hn hbq hq hr hd g6 g8 hF
      have hC1 := hC.pb hF
      refine go_in (e155_6 (upC (k149 (d := 0) hC1 hq g6 (by decide) (by decide) (e155_14 ?_)) (by omega)))
      have e : inb tp tl 48 57 q = false := decide_eq_false (by omega)
      rw [e]
      refine ⟨fun _ => ?_, fun z => absurd rfl z⟩
      rw [rE_n (by omega)] at hr
      exact fin q M1 hbq hq hr hd g6 g8 hF
    | succ n ih =>
      intro q M1 hn hbq hq hr hd g6 g8 hF
      have hC1 := hC.pb hF
      refine go_in (e155_6 (upC (k149 (d := 0) hC1 hq g6 (by decide) (by decide) (e155_14 ?_)) (by omega)))
      by_cases g : idg tp q = true
      · have e : inb tp tl 48 57 q = true := inb_t.mpr ⟨by omega, of_decide_eq_true g⟩
        rw [e]
        refine ⟨fun z => absurd z (by decide), fun _ => ?_⟩
        rw [rE_s (by omega) g] at hr
        have hd' : ∀ j, bgk tp tl i ≤ j → j < q + 1 → idg tp j = true := fun j a b => by
          by_cases z : j = q
          · rw [z]
            exact g
          · exact hd j a (by omega)
        have nx : WM (d + 2) 155 Q 6 [some (.ref 768), some (.int (nI high)), some (.int (nI (nuV tp (bgk tp tl i) (min (q + 1 - bgk tp tl i) 2))))] [] (sI M1 768 6 (nI (q + 1))) := ih (q + 1) _ (by omega) (by omega) (by omega) hr hd' (sI_e _ _ _ _) ((sI_j _ _ (by decide)).trans g8) (hF.sI rfl)
        rw [g6, g8, nI_sub hbq, nI_leI (by decide) (by omega)]
        refine ⟨fun z => go_in (e155_50 (go_in (e155_51 ?_))), fun z => ⟨nI_in2 (by omega) (by decide), go_in (e155_51 ?_)⟩⟩
        · rw [g6, nI_add]
          rw [show min (q + 1 - bgk tp tl i) 2 = min (q - bgk tp tl i) 2 by omega] at nx
          exact nx
        · rw [g6, nI_add, nI_c (by omega), hC1.2.2.2 q (by omega)]
          have hdg := of_decide_eq_true g
          have e0 : min (q - bgk tp tl i) 2 = q - bgk tp tl i := by omega
          have e1 : min (q + 1 - bgk tp tl i) 2 = q - bgk tp tl i + 1 := by omega
          have v := (vv (q - bgk tp tl i) (by omega) (fun k hk => hd _ (by omega) (by omega))).1
          have e2 : iz (tp q) = nI (tp q).toNat := by
            rw [iz_n]
            congr 1
            omega
          have e3 : 10 * nuV tp (bgk tp tl i) (q - bgk tp tl i) + (tp q).toNat - 48 = nuV tp (bgk tp tl i) (q - bgk tp tl i + 1) := by
            show _ = nuV tp (bgk tp tl i) (q - bgk tp tl i) * 10 + (tp (bgk tp tl i + (q - bgk tp tl i)) - 48).toNat
            rw [show bgk tp tl i + (q - bgk tp tl i) = q by omega]
            omega
          rw [e0, e2, nI_mul, nI_add, nI_sub (by omega), e3, ← e1]
          exact nx
      · have e : inb tp tl 48 57 q = false := by
          cases h : inb tp tl 48 57 q with
          | false => rfl
          | true => exact absurd (decide_eq_true (inb_t.mp h).2) g
        rw [e]
        refine ⟨fun _ => ?_, fun z => absurd rfl z⟩
        rw [rE_n (fun z => g z.2)] at hr
        exact fin q M1 hbq hq hr hd g6 g8 hF
  refine sC (by decide) rfl (go_in (e155_0 (upC (k150 (d := 0) hC hp h6 fun M1 g6 g8 f1 => e155_4 ?_) (by omega))))
  rw [hi] at g6 g8
  have t := loop _ (bgk tp tl i) M1 rfl (Nat.le_refl _) hb rfl (fun j a b => absurd b (by omega)) g6 g8 f1
  rw [Nat.sub_self] at t
  exact t
theorem k159 {s : Nat} (hs : s < 400) (h12 : M.1 768 12 = nI s) {a b : Nat} {Q : List Value → Mm → Prop} (k : Q [] (sI (sI (sI M 50177 (5492 + 2 * s) (nI a)) 50177 (5492 + 2 * s + 1) (nI b)) 768 12 (nI (s + 1)))) : SC (d + 2) 159 [.ref 768, .int (nI a), .int (nI b)] M Q := by
  refine sC (by decide) rfl (go_in (e159_0 (upC (d := 1) (useC (Q := fun vs N => vs = [.int (nI 5461)] ∧ N = M) (sC (by decide) rfl (go_in (e157_0 ⟨rfl, rfl, rfl⟩))) fun vs N h => ?_) (by omega))))
  obtain ⟨rfl, h⟩ := h
  have h := h.symm
  subst h
  refine e159_5 ?_
  rw [h12, nI_mul, nI_add, nI_add, nI_add, show 5461 + 31 + 2 * s = 5492 + 2 * s by omega]
  refine ⟨nI_in2 (by omega) (by decide), nI_in2 (by omega) (by decide), rfl, ?_⟩
  rw [nI_c (by omega), nI_c (by omega), show (sI (sI M 50177 (5492 + 2 * s) (nI a)) 50177 (5492 + 2 * s + 1) (nI b)).1 768 12 = nI s from (sI_k _ _ (by decide)).trans ((sI_k _ _ (by decide)).trans h12), nI_add]
  exact k
/-- one step emitted -/
theorem em_st {j s : Nat} {dp : Int32} {a b : Nat} (h : RSt tp tl N j s dp M) (hs : s < j) : RSt tp tl N j (s + 1) dp (sI (sI (sI M 50177 (5492 + 2 * s) (nI a)) 50177 (5492 + 2 * s + 1) (nI b)) 768 12 (nI (s + 1))) ∧ DC (sI (sI (sI M 50177 (5492 + 2 * s) (nI a)) 50177 (5492 + 2 * s + 1) (nI b)) 768 12 (nI (s + 1))) s [(a, b)] ∧ Fr (aPs s) M (sI (sI (sI M 50177 (5492 + 2 * s) (nI a)) 50177 (5492 + 2 * s + 1) (nI b)) 768 12 (nI (s + 1))) := by
  obtain ⟨h1, h2, h3, ⟨p, p1, p2, p3⟩, h4, h5⟩ := h
  have hF : Fr (aPs s) M (sI (sI (sI M 50177 (5492 + 2 * s) (nI a)) 50177 (5492 + 2 * s + 1) (nI b)) 768 12 (nI (s + 1))) := ((Fr.rf.sI (aPs_c (by omega))).sI (aPs_c (by omega))).sI rfl
  refine ⟨⟨h1, h2.of hF rfl (fun j => rfl), ⟨h3.1, hs⟩, ⟨p, p1, p2, ?_⟩, sI_e _ _ _ _, ?_⟩, fun n x hx => ?_, hF⟩
  · rw [sI_j _ _ (by decide), sI_k _ _ (by decide), sI_k _ _ (by decide)]
    exact p3
  · rw [sI_j _ _ (by decide), sI_k _ _ (by decide), sI_k _ _ (by decide)]
    exact h5
  · cases n with
    | zero =>
      cases hx
      exact ⟨(sI_k _ _ (by decide)).trans ((sI_j _ _ (by omega)).trans (sI_e _ _ _ _)), (sI_k _ _ (by decide)).trans (sI_e _ _ _ _)⟩
    | succ n => cases hx
theorem RSt.pb {i s : Nat} {dp : Int32} {M' : Mm} (h : RSt tp tl N i s dp M) (hF : Fr aPb M M') {j p' : Nat} (hj : j ≤ N) (hs : s ≤ j) (hp : p' ≤ tl) (hn : nbk tp tl p' = bgk tp tl j) (h6 : M'.1 768 6 = nI p') : RSt tp tl N j s dp M' := ⟨h.1, h.2.1.pb hF, ⟨hj, hs⟩, ⟨p', hp, hn, h6⟩, (hF _ _ rfl).1.trans h.2.2.2.2.1, (hF _ _ rfl).1.trans h.2.2.2.2.2⟩
/-- a part -/
theorem k160 {dp : Int32} : KPt tp tl N 160 (d + 4) dp (pPart (tkk tp tl) (nnk tp tl)) := fun M i s Q h k => by
  have hC := h.2.1
  have h4 := hC.1
  have hN := h.1
  have hn := hN.le h4
  obtain ⟨p, hp, hi, h6⟩ := h.2.2.2.1
  have hb := bgk_le (tp := tp) (tl := tl) i
  have hge := rE_ge (P := isl tp) (tl := tl) _ (bgk tp tl i) rfl
  have hle := rE_le (P := isl tp) (tl := tl) _ (bgk tp tl i) rfl hb
  have hsi := h.2.2.1.2
  refine sC (by decide) rfl (go_in (e160_0 (k151 hC hp h6 hi fun M1 g6 g8 f1 => e160_4 ?_)))
  have hC1 := hC.pb f1
  rw [g6, g8, nI_leI (by omega) (by omega)]
  -- what is said when a part is found
  have good : ∀ a b j v M2, tkk tp tl i = j → j ≠ 0 → pPart (tkk tp tl) (nnk tp tl) i = okP (i + 1) [(a, b)] v → Fr aPb M M2 → ∀ p', p' ≤ tl → nbk tp tl p' = bgk tp tl (i + 1) → M2.1 768 6 = nI p' → Q [.int (nI 1)] (sI (sI (sI M2 50177 (5492 + 2 * s) (nI a)) 50177 (5492 + 2 * s + 1) (nI b)) 768 12 (nI (s + 1))) := fun a b j v M2 hj hj0 hpp f2 p' hp' hn' h6' => by
    have hiN := tkk_N hN i (by omega)
    have hst : RSt tp tl N (i + 1) s dp M2 := h.pb f2 (by omega) (by omega) hp' hn' h6'
    obtain ⟨e1, e2, e3⟩ := em_st (a := a) (b := b) hst (by omega)
    have t := k _ (by rw [hpp]; exact ⟨e1, e2⟩) ((f2.up fun k j => aPb_s).tr e3)
    rw [hpp] at t
    exact t
  have fail : ∀ M2, pPart (tkk tp tl) (nnk tp tl) i = .inl i → Fr aPb M M2 → M2.1 768 8 = nI (bgk tp tl i) → Q [.int (nI 0)] M2 := fun M2 hpp f2 g => by
    have t := k M2 (by rw [hpp]; exact g) (f2.up fun k j => aPb_s)
    rw [hpp] at t
    exact t
  refine ⟨fun q => go_in (e160_70 ?_), fun q => ?_⟩
  · -- no letter: a number
    have q : rE (isl tp) tl (bgk tp tl i) = bgk tp tl i := by omega
    have nw : ∀ j, 3 ≤ j → j < 12 → ¬ tkk tp tl i = j := fun j a b z => by
      have hw := tk_w (tp := tp) (tl := tl) (i := i) a b
      rw [decide_eq_true z, Bool.and_eq_true, decide_eq_true_iff, q, Nat.sub_self] at hw
      obtain ⟨c, r, hcr, -, -⟩ := wrd_l j (by omega) a b
      rw [hcr] at hw
      exact absurd hw.1 (by simp)
    rw [q] at g6
    refine k155 hC1 hb g6 (bgk_nb i) (by decide) fun v p' M2 hv hp' hn' g6' g8' f2 => e160_76 ?_
    have f12 := f1.tr f2
    by_cases t2 : tkk tp tl i = 2
    · rw [if_pos ⟨t2, nnk_le i⟩] at hv
      subst hv
      have hv := nnk_le (tp := tp) (tl := tl) i
      refine ⟨fun _ => go_in (e160_83 (upC (k159 (d := 0) (s := s) (by have := tkk_N hN i (by omega); omega) ((f12 _ _ rfl).1.trans h.2.2.2.2.1) (e160_90 ⟨Or.inr rfl, rfl, good 11 _ 2 _ M2 t2 (by decide) (by unfold pPart; rw [if_pos t2]) f12 p' hp' (hn' t2) g6'⟩)) (by omega))), fun z => absurd ?_ z⟩
      rw [iz_n, iz_0le (i32_n (by omega))]
      omega
    · rw [if_neg (fun z => t2 z.1)] at hv
      subst hv
      refine ⟨fun z => absurd z (by decide), fun _ => ⟨Or.inl rfl, rfl, fail M2 ?_ f12 g8'⟩⟩
      unfold pPart
      rw [if_neg t2, if_neg (nw 10 (by decide) (by decide)), if_neg (nw 9 (by decide) (by decide)), if_neg (nw 11 (by decide) (by decide))]
  · -- letters
    have t2 : ¬ tkk tp tl i = 2 := fun z => by
      have hlt : bgk tp tl i < tl := by
        by_cases q : bgk tp tl i < tl
        · exact q
        · have := (knd_0 (tp := tp) (tl := tl) (p := bgk tp tl i)).mpr (by omega)
          have z : knd tp tl (bgk tp tl i) = 2 := z
          omega
      have h2 := (knd_2 hlt z).2 0 (by have := enk_gt (tp := tp) (tl := tl) (p := bgk tp tl i); omega)
      have hl : isl tp (bgk tp tl i) = false := by
        cases hl : isl tp (bgk tp tl i) with
        | false => rfl
        | true =>
          have h2 : idg tp (bgk tp tl i) = true := h2
          rw [isl_d hl] at h2
          cases h2
      exact q (Nat.le_of_eq (rE_n (fun z => by rw [hl] at z; cases z.2)))
    have nx : ∀ j, 3 ≤ j → j < 12 → tkk tp tl i = j → nbk tp tl (rE (isl tp) tl (bgk tp tl i)) = bgk tp tl (i + 1) := fun j a b z => by
      have hlt : bgk tp tl i < tl := by
        by_cases q : bgk tp tl i < tl
        · exact q
        · have := (knd_0 (tp := tp) (tl := tl) (p := bgk tp tl i)).mpr (by omega)
          have z : knd tp tl (bgk tp tl i) = j := z
          omega
      have hl : isl tp (bgk tp tl i) = true := by
        cases hl : isl tp (bgk tp tl i) with
        | true => rfl
        | false => exact absurd (Nat.le_of_eq (rE_n (fun z => by rw [hl] at z; cases z.2))) q
      rw [bgk_s hlt, enk_l hl hlt]
    have h12 : M1.1 768 12 = nI s := (f1 _ _ rfl).1.trans h.2.2.2.2.1
    have emit : ∀ a j v, tkk tp tl i = j → 3 ≤ j → j < 12 → a < 3 → pPart (tkk tp tl) (nnk tp tl) i = okP (i + 1) [(a, 0)] v → WM (d + 3) 160 Q 55 [some (.ref 768), none] [.int (nI a)] M1 := fun a j v hj j3 j12 ha hpp => by
      refine go_in (e160_55 ⟨fun _ => go_in (e160_62 (upC (k159 (d := 0) (s := s) (by have := tkk_N hN i (by omega); omega) h12 (e160_68 ⟨Or.inr rfl, rfl, good a 0 j v M1 hj (by omega) hpp f1 _ hle (nx j j3 j12 hj) g6⟩)) (by omega))), fun z => absurd ?_ z⟩)
      rw [iz_n, iz_0le (i32_n (by omega))]
      omega
    refine upC (k152 (d := 0) hC1 (t := 70222) rfl (s := str (70200 + 9)) str_22 (str_lt 9 (by decide)) hge hle g6 g8 (e160_21 ?_)) (by omega)
    rw [tk_w (by decide) (by decide)]
    by_cases g9 : tkk tp tl i = 9
    · rw [decide_eq_true g9]
      exact ⟨fun z => absurd z (by decide), fun _ => emit 0 9 _ g9 (by decide) (by decide) (by decide) (by unfold pPart; rw [if_neg t2, if_neg (by omega), if_pos g9])⟩
    · rw [decide_eq_false g9]
      refine ⟨fun _ => go_in (e160_28 (upC (k152 (d := 0) hC1 (t := 70223) rfl (s := str (70200 + 10)) str_23 (str_lt 10 (by decide)) hge hle g6 g8 (e160_34 ?_)) (by omega))), fun z => absurd rfl z⟩
      rw [tk_w (by decide) (by decide)]
      by_cases g10 : tkk tp tl i = 10
      · rw [decide_eq_true g10]
        exact ⟨fun z => absurd z (by decide), fun _ => emit 1 10 _ g10 (by decide) (by decide) (by decide) (by unfold pPart; rw [if_neg t2, if_pos g10])⟩
      · rw [decide_eq_false g10]
        refine ⟨fun _ => go_in (e160_41 (upC (k152 (d := 0) hC1 (t := 70224) rfl (s := str (70200 + 11)) str_24 (str_lt 11 (by decide)) hge hle g6 g8 (e160_47 ?_)) (by omega))), fun z => absurd rfl z⟩
        rw [tk_w (by decide) (by decide)]
        by_cases g11 : tkk tp tl i = 11
        · rw [decide_eq_true g11]
          exact ⟨fun z => absurd z (by decide), fun _ => emit 2 11 _ g11 (by decide) (by decide) (by decide) (by unfold pPart; rw [if_neg t2, if_neg g10, if_neg g9, if_pos g11])⟩
        · rw [decide_eq_false g11]
          refine ⟨fun _ => go_in (e160_54 (go_in (e160_55 ⟨fun z => absurd z (by decide), fun _ => ⟨Or.inl rfl, rfl, fail M1 ?_ f1 g8⟩⟩))), fun z => absurd rfl z⟩
          unfold pPart
          rw [if_neg t2, if_neg g10, if_neg g9, if_neg g11]
end RN
