/-! The class parts its text into things. -/
section CPT
variable {d : Nat} {M : Mm} {tp : Nat → Int} {tl : Nat}
theorem k44 (hT : CTp tl tp M) {p a b : Nat} (hp : p < tl) (ha : a < 128) (hb : b < 128) {P : Bool} (hP : P = decide ((a : Int) ≤ tp p ∧ tp p ≤ (b : Int))) {Q : List Value → Mm → Prop} (k : Q [.int (nI (cond P 1 0))] M) : SC (d + 1) 44 [.ref 384, .int (nI p), .int (nI a), .int (nI b)] M Q := by
  have h4 := hT.2.1
  have hr := hT.2.2.1 p
  refine sC (by decide) rfl (go_in (e44_0 (br_f (nI_nlt (Nat.zero_le _) (by omega)) ?_)))
  rw [hT.1]
  refine br_f (nI_ge hp (by omega)) ⟨nI_in2 (by omega) (by decide), ?_⟩
  rw [nI_c (by omega), hT.2.2.2 p hp, iz_n a, iz_n b, iz_lt ⟨by omega, by omega⟩ (i32_n (by omega)), iz_lt (i32_n (by omega)) ⟨by omega, by omega⟩]
  by_cases g : (a : Int) ≤ tp p
  · by_cases g2 : tp p ≤ (b : Int)
    · rw [decide_eq_true ⟨g, g2⟩] at hP
      subst hP
      exact ⟨fun q => absurd q (by omega), fun _ => ⟨nI_in2 (by omega) (by decide), fun q => absurd q (by omega), fun _ => go_in (e44_37 ⟨Or.inr rfl, rfl, k⟩)⟩⟩
    · rw [decide_eq_false (fun q => g2 q.2)] at hP
      subst hP
      exact ⟨fun q => absurd q (by omega), fun _ => ⟨nI_in2 (by omega) (by decide), fun _ => go_in (e44_36 (go_in (e44_37 ⟨Or.inl rfl, rfl, k⟩))), fun q => absurd q (by omega)⟩⟩
  · rw [decide_eq_false (fun q => g q.1)] at hP
    subst hP
    exact ⟨fun _ => go_in (e44_36 (go_in (e44_37 ⟨Or.inl rfl, rfl, k⟩))), fun q => absurd q (by omega)⟩
theorem c22 (hT : CTp tl tp M) {p : Nat} (hp : p < tl) {Q : List Value → Mm → Prop} (k : Q [.int (nI (enk tp tl p))] M) : SC (d + 2) 22 [.ref 192, .int (nI p)] M Q := by
  have h4 := hT.2.1
  have l1 : ∀ n q (o : Option Value), tl - q = n → q ≤ tl → Q [.int (nI (rE (isl tp) tl q))] M → WM (d + 1) 22 Q 19 [some (.ref 192), o, some (.int (nI q))] [] M := by
    intro n
    induction n with
    | zero =>
      intro q o hn hq hk
      rw [rE_n (by omega)] at hk
      refine go_in (e22_19 ?_)
      rw [hT.1]
      exact br_t (nI_le (by omega) (by omega)) (go_in (e22_98 ⟨rfl, hk⟩))
    | succ n ih =>
      intro q o hn hq hk
      refine go_in (e22_19 ?_)
      rw [hT.1]
      refine br_f (nI_ge (by omega) (by omega)) (k44 hT (by omega) (by decide) (by decide) (P := isl tp q) rfl (e22_42 ?_))
      cases h : isl tp q with
      | false =>
        rw [rE_n (fun z => by rw [h] at z; cases z.2)] at hk
        exact ⟨fun _ => go_in (e22_98 ⟨rfl, hk⟩), fun z => absurd rfl z⟩
      | true =>
        rw [rE_s (by omega) h] at hk
        refine ⟨fun z => absurd z (by decide), fun _ => ?_⟩
        rw [nI_s]
        exact ih (q + 1) _ (by omega) (by omega) hk
  have l2 : ∀ n q (o : Option Value), tl - q = n → q ≤ tl → Q [.int (nI (rE (idg tp) tl q))] M → WM (d + 1) 22 Q 66 [some (.ref 192), o, some (.int (nI q))] [] M := by
    intro n
    induction n with
    | zero =>
      intro q o hn hq hk
      rw [rE_n (by omega)] at hk
      refine go_in (e22_66 ?_)
      rw [hT.1]
      exact br_t (nI_le (by omega) (by omega)) (go_in (e22_98 ⟨rfl, hk⟩))
    | succ n ih =>
      intro q o hn hq hk
      refine go_in (e22_66 ?_)
      rw [hT.1]
      refine br_f (nI_ge (by omega) (by omega)) (k44 hT (by omega) (by decide) (by decide) (P := idg tp q) rfl (e22_89 ?_))
      cases h : idg tp q with
      | false =>
        rw [rE_n (fun z => by rw [h] at z; cases z.2)] at hk
        exact ⟨fun _ => go_in (e22_98 ⟨rfl, hk⟩), fun z => absurd rfl z⟩
      | true =>
        rw [rE_s (by omega) h] at hk
        refine ⟨fun z => absurd z (by decide), fun _ => ?_⟩
        rw [nI_s]
        exact ih (q + 1) _ (by omega) (by omega) hk
  refine sC (by decide) rfl (go_in (e22_0 (k44 hT hp (by decide) (by decide) (P := isl tp p) rfl (e22_16 ?_))))
  rw [nI_add]
  unfold enk at k
  cases h : isl tp p with
  | true =>
    rw [if_pos h] at k
    exact ⟨fun z => absurd z (by decide), fun _ => l1 _ (p + 1) _ rfl (by omega) k⟩
  | false =>
    rw [if_neg (fun z => by rw [h] at z; cases z)] at k
    refine ⟨fun _ => go_in (e22_51 (k44 hT hp (by decide) (by decide) (P := idg tp p) rfl (e22_63 ?_))), fun z => absurd rfl z⟩
    cases h2 : idg tp p with
    | true =>
      rw [if_pos h2] at k
      exact ⟨fun z => absurd z (by decide), fun _ => l2 _ (p + 1) _ rfl (by omega) k⟩
    | false =>
      rw [if_neg (fun z => by rw [h2] at z; cases z)] at k
      exact ⟨fun _ => go_in (e22_98 ⟨rfl, k⟩), fun z => absurd rfl z⟩
theorem nuV_le {p : Nat} : ∀ n, (∀ k, k < n → idg tp (p + k) = true) → n ≤ 2 → nuV tp p n ≤ 99 ∧ (n ≤ 1 → nuV tp p n ≤ 9) ∧ (n = 0 → nuV tp p n = 0)
  | 0, _, _ => ⟨Nat.zero_le _, fun _ => Nat.zero_le _, fun _ => rfl⟩
  | n + 1, h, hn => by
    have a := nuV_le n (fun k hk => h k (by omega)) (by omega)
    have b := of_decide_eq_true (h n (by omega))
    have e : nuV tp p (n + 1) = nuV tp p n * 10 + (tp (p + n) - 48).toNat := rfl
    refine ⟨?_, fun q => ?_, fun q => by omega⟩
    · have := a.2.1 (by omega)
      omega
    · have := a.2.2 (by omega)
      omega
theorem c23 (hT : CTp tl tp M) {p n : Nat} (hn : n ≤ 2) (hp : p + n ≤ tl) (hd : ∀ k, k < n → idg tp (p + k) = true) {Q : List Value → Mm → Prop} (k : Q [.int (nI (nuV tp p n))] M) : SC (d + 1) 23 [.ref 192, .int (nI p), .int (nI (p + n))] M Q := by
  have h4 := hT.2.1
  have loop : ∀ m i (o : Option Value), i + m = n → WM d 23 Q 5 [some (.ref 192), o, some (.int (nI (p + n))), some (.int (nI (nuV tp p i))), some (.int (nI (p + i)))] [] M := by
    intro m
    induction m with
    | zero =>
      intro i o hi
      have hi : i = n := by omega
      subst hi
      exact go_in (e23_5 (br_t (nI_le (Nat.le_refl _) (by omega)) (go_in (e23_36 ⟨rfl, k⟩))))
    | succ m ih =>
      intro i o hi
      have b := of_decide_eq_true (hd i (by omega))
      have v := nuV_le (tp := tp) (p := p) i (fun k hk => hd k (by omega)) (by omega)
      refine go_in (e23_5 (br_f (nI_ge (by omega) (by omega)) ⟨nI_in2 (by omega) (by decide), ?_⟩))
      have e : iz (tp (p + i)) = nI (tp (p + i)).toNat := by
        rw [iz_n]
        congr 1
        omega
      rw [nI_c (by omega), hT.2.2.2 _ (by omega), e, nI_mul, nI_add, nI_sub (by omega), nI_s, show nuV tp p i * 10 + (tp (p + i)).toNat - 48 = nuV tp p (i + 1) by
        show _ = nuV tp p i * 10 + (tp (p + i) - 48).toNat
        omega]
      exact ih (i + 1) _ (by omega)
  exact sC (by decide) rfl (go_in (e23_0 (loop n 0 _ (by omega))))
theorem str_lt : ∀ j, j < 18 → (str (70200 + j)).length < 7 ∧ ∀ c ∈ str (70200 + j), c < 128 := by decide
theorem isE_j : ∀ j, j < 18 → isE (70100 + j) = true ∧ isS (70100 + j + 100) = true := by decide
theorem c45x (hT : CTp tl tp M) {x0 p e : Nat} (hE : isE x0 = true) (hS : isS (x0 + 100) = true) {s : List Nat} (hs : str (x0 + 100) = s) (hl : s.length < 7 ∧ ∀ c ∈ s, c < 128) (hp : p ≤ e) (he : e ≤ tl) {Q : List Value → Mm → Prop} (k : Q [.int (nI (cond (decide (s ≠ [] ∧ s.length = e - p) && spl tp p s) 1 0))] M) : SC (d + 2) 45 [.ref x0, .ref 384, .int (nI p), .int (nI e)] M Q := by
  have h4 := hT.2.1
  refine sC (by decide) rfl (go_in (e45_0 ⟨hE, hS, Or.inl ⟨by decide, hS, Or.inr ⟨rfl, e45_7 ?_⟩⟩⟩))
  rw [hs]
  by_cases g0 : s = []
  · rw [decide_eq_false (fun q => q.1 g0), Bool.false_and] at k
    rw [g0]
    exact ⟨fun _ => go_in (e45_23 ⟨Or.inl rfl, rfl, k⟩), fun q => absurd q (by decide)⟩
  · have hem : s.isEmpty = false := by
      cases s with
      | nil => exact absurd rfl g0
      | cons => rfl
    rw [hem]
    refine ⟨fun q => absurd rfl q, fun _ => ⟨hE, hS, Or.inl ⟨by decide, hS, Or.inl ⟨rfl, e45_17 ?_⟩⟩⟩⟩
    rw [hs, nI_sub hp, nI_q (by omega) (by omega)]
    by_cases g1 : s.length = e - p
    · rw [decide_eq_true ⟨g0, g1⟩, Bool.true_and] at k
      refine ⟨fun _ => go_in (e45_25 ?_), fun q => absurd g1 q⟩
      have loop : ∀ m i, i + m = e - p → Q [.int (nI (cond (spl tp (p + i) (s.drop i)) 1 0))] M → WM (d + 1) 45 Q 28 [some (.ref x0), some (.ref 384), some (.int (nI p)), some (.int (nI e)), some (.int (nI (p + i)))] [] M := by
        intro m
        induction m with
        | zero =>
          intro i hi hk
          rw [List.drop_eq_nil_of_le (by omega)] at hk
          exact go_in (e45_28 (br_t (nI_le (by omega) (by omega)) (go_in (e45_63 ⟨Or.inr rfl, rfl, hk⟩))))
        | succ m ih =>
          intro i hi hk
          have hil : i < s.length := by omega
          rw [List.drop_eq_getElem_cons hil] at hk
          have hc : s[i] < 128 := hl.2 _ (List.getElem_mem hil)
          have hr := hT.2.2.1 (p + i)
          refine go_in (e45_28 (br_f (nI_ge (by omega) (by omega)) ⟨nI_in2 (by omega) (by decide), hE, hS, ?_⟩))
          rw [nI_sub (by omega), show p + i - p = i by omega]
          have e1 : s.getD i 0 = s[i] := by
            rw [List.getD_eq_getElem?_getD, List.getElem?_eq_getElem hil]
            rfl
          refine Or.inl ⟨by decide, hS, rfl, by rw [hs]; exact nI_in2 hil (by omega), e45_52 ?_⟩
          rw [hs, nI_c (by omega), nI_c (by omega), e1, hT.2.2.2 _ (by omega), iz_n (s[i]), iz_eq ⟨by omega, by omega⟩ (i32_n (by omega))]
          have hk : Q [.int (nI (cond (decide (tp (p + i) = (s[i] : Int)) && spl tp (p + i + 1) (s.drop (i + 1))) 1 0))] M := hk
          by_cases g : tp (p + i) = (s[i] : Int)
          · rw [decide_eq_true g, Bool.true_and] at hk
            refine ⟨fun _ => go_in (e45_57 ?_), fun q => absurd g q⟩
            rw [nI_s]
            exact ih (i + 1) (by omega) hk
          · rw [decide_eq_false g, Bool.false_and] at hk
            exact ⟨fun q => absurd q g, fun _ => ⟨Or.inl rfl, rfl, hk⟩⟩
      exact loop (e - p) 0 (by omega) k
    · rw [decide_eq_false (fun q => g1 q.2), Bool.false_and] at k
      exact ⟨fun q => absurd q g1, fun _ => go_in (e45_23 ⟨Or.inl rfl, rfl, k⟩)⟩
theorem str_j : ∀ j, j < 18 → str (70100 + j + 100) = str (70200 + j) := by decide
theorem c45 (hT : CTp tl tp M) {p e j : Nat} (hj : j < 18) (hp : p ≤ e) (he : e ≤ tl) {Q : List Value → Mm → Prop} (k : Q [.int (nI (cond (isp tp p e j) 1 0))] M) : SC (d + 2) 45 [.ref (70100 + j), .ref 384, .int (nI p), .int (nI e)] M Q :=
  c45x hT (isE_j j hj).1 (isE_j j hj).2 (str_j j hj) (str_lt j hj) hp he k
theorem c46 (hT : CTp tl tp M) {p e : Nat} (hp : p ≤ e) (he : e ≤ tl) {Q : List Value → Mm → Prop} (k : Q [.ref (70100 + spk tp p e 18 0)] M) : SC (d + 3) 46 [.ref 384, .int (nI p), .int (nI e)] M Q := by
  have loop : ∀ m i, i + m = 18 → Q [.ref (70100 + spk tp p e m i)] M → WM (d + 2) 46 Q 2 [some (.ref 384), some (.int (nI p)), some (.int (nI e)), some (.int (nI i))] [] M := by
    intro m
    induction m with
    | zero =>
      intro i hi hk
      have hi : i = 18 := by omega
      subst hi
      exact go_in (e46_2 (br_t (nI_le (Nat.le_refl _) (by decide)) (go_in (e46_36 ⟨rfl, rfl, hk⟩))))
    | succ m ih =>
      intro i hi hk
      have hE : ∀ i, i < 18 → isE (70100 + i) = true := by decide
      have hk : Q [.ref (70100 + (if isp tp p e i = true then i else spk tp p e m (i + 1)))] M := hk
      refine go_in (e46_2 (br_f (nI_ge (by omega) (by decide)) ⟨nI_in2 (by omega) (by decide), ?_⟩))
      rw [nI_c (by omega)]
      refine ⟨hE i (by omega), c45 hT (by omega) hp he (e46_21 ?_)⟩
      rw [nI_c (by omega)]
      cases h : isp tp p e i with
      | false =>
        rw [if_neg (fun z => by rw [h] at z; cases z)] at hk
        refine ⟨fun _ => go_in (e46_30 ?_), fun z => absurd rfl z⟩
        rw [nI_s]
        exact ih (i + 1) (by omega) hk
      | true =>
        rw [if_pos h] at hk
        exact ⟨fun z => absurd z (by decide), fun _ => ⟨nI_in2 (by omega) (by decide), hE i (by omega), rfl, hk⟩⟩
  exact sC (by decide) rfl (go_in (e46_0 (loop 18 0 rfl k)))
theorem c24 (hT : CTp tl tp M) {p : Nat} (hp : p < tl) {Q : List Value → Mm → Prop} (k : Q [.ref (70100 + knd tp tl p)] M) : SC (d + 4) 24 [.ref 192, .int (nI p), .int (nI (enk tp tl p))] M Q := by
  have h4 := hT.2.1
  have h1 := enk_gt (tp := tp) (tl := tl) (p := p)
  have h2 := enk_le (tp := tp) hp
  refine sC (by decide) rfl (go_in (e24_0 (upC (d := d + 1) (k44 hT hp (by decide) (by decide) (P := idg tp p) rfl (e24_12 ?_)) (by omega))))
  unfold knd at k
  rw [if_neg (by omega)] at k
  cases h : idg tp p with
  | false =>
    rw [if_neg (fun z => by rw [h] at z; cases z)] at k
    exact ⟨fun _ => go_in (e24_32 (c46 hT (by omega) h2 (e24_41 ⟨by
      have := spk_lt (tp := tp) (p := p) (e := enk tp tl p)
      have hE : ∀ i, i < 18 → isE (70100 + i) = true := by decide
      exact hE _ this, rfl, k⟩))), fun z => absurd rfl z⟩
  | true =>
    rw [if_pos h] at k
    refine ⟨fun z => absurd z (by decide), fun _ => ?_⟩
    rw [nI_sub (by omega), nI_leI (by omega) (by decide)]
    by_cases g : enk tp tl p - p ≤ 2
    · rw [if_pos g] at k
      exact ⟨fun _ => go_in (e24_28 (go_in (e24_31 ⟨rfl, rfl, k⟩))), fun z => absurd g z⟩
    · rw [if_neg g] at k
      exact ⟨fun z => absurd z g, fun _ => go_in (e24_31 ⟨rfl, rfl, k⟩)⟩
end CPT
