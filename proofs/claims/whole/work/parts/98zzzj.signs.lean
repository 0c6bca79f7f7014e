/-! The reference reads signs, words, numbers. -/
def RCt (tp : Nat → Int) (tl : Nat) (M : Mm) : Prop := tl ≤ 400 ∧ (∀ j, -128 ≤ tp j ∧ tp j ≤ 127) ∧ M.1 768 7 = nI tl ∧ ∀ j, j < tl → M.1 50180 j = iz (tp j)
theorem RCt.of {tp : Nat → Int} {tl : Nat} {P : Nat → Nat → Bool} {M M' : Mm} (h : RCt tp tl M) (hF : Fr P M M') (h1 : P 768 7 = false) (h2 : ∀ j, P 50180 j = false) : RCt tp tl M' := ⟨h.1, h.2.1, (hF _ _ h1).1.trans h.2.2.1, fun j hj => (hF _ _ (h2 j)).1.trans (h.2.2.2 j hj)⟩
def aPb (k j : Nat) : Bool := Nat.beq k 768 && (Nat.beq j 6 || Nat.beq j 8)
def inb (tp : Nat → Int) (tl a b p : Nat) : Bool := decide (p < tl ∧ (a : Int) ≤ tp p ∧ tp p ≤ (b : Int))
theorem nbk_i {tp : Nat → Int} {tl p : Nat} : nbk tp tl (nbk tp tl p) = nbk tp tl p := by
  by_cases h : nbk tp tl p < tl
  · have := rE_end (P := ibl tp) (tl := tl) _ p rfl h
    exact rE_n (fun q => by rw [show ibl tp (nbk tp tl p) = false from this] at q; cases q.2)
  · exact nbk_tl (by omega)
theorem bgk_nb {tp : Nat → Int} {tl : Nat} : ∀ i, nbk tp tl (bgk tp tl i) = bgk tp tl i
  | 0 => nbk_i
  | i + 1 => by
    by_cases h : bgk tp tl i < tl
    · rw [bgk_s h]
      exact nbk_i
    · rw [bgk_e h]
      exact bgk_nb i
section RL
variable {d : Nat} {M : Mm} {tp : Nat → Int} {tl : Nat}
theorem k149 (hC : RCt tp tl M) {p a b : Nat} (hp : p ≤ tl) (h6 : M.1 768 6 = nI p) (ha : a < 128) (hb : b < 128) {Q : List Value → Mm → Prop} (k : Q [.int (nI (cond (inb tp tl a b p) 1 0))] M) : SC (d + 1) 149 [.ref 768, .int (nI a), .int (nI b)] M Q := by
  have h4 := hC.1
  have hr := hC.2.1 p
  refine sC (by decide) rfl (go_in (e149_0 ?_))
  rw [hC.2.2.1, h6, nI_leI (by omega) (by omega), nI_c (by omega)]
  unfold inb at k
  refine ⟨fun q => ?_, fun q => ⟨nI_in2 (by omega) (by decide), ?_⟩⟩
  · rw [decide_eq_false (by omega)] at k
    exact go_in (e149_41 (go_in (e149_42 ⟨Or.inl rfl, rfl, k⟩)))
  · rw [hC.2.2.2 p (by omega), iz_n a, iz_n b, iz_lt ⟨by omega, by omega⟩ (i32_n (by omega)), iz_lt (i32_n (by omega)) ⟨by omega, by omega⟩]
    refine ⟨fun q2 => ?_, fun q2 => ⟨nI_in2 (by omega) (by decide), fun q3 => ?_, fun q3 => ?_⟩⟩
    · rw [decide_eq_false (by omega)] at k
      exact go_in (e149_41 (go_in (e149_42 ⟨Or.inl rfl, rfl, k⟩)))
    · rw [decide_eq_false (by omega)] at k
      exact go_in (e149_41 (go_in (e149_42 ⟨Or.inl rfl, rfl, k⟩)))
    · rw [decide_eq_true (by omega)] at k
      exact go_in (e149_42 ⟨Or.inr rfl, rfl, k⟩)
theorem inb_t {a b p : Nat} : inb tp tl a b p = true ↔ p < tl ∧ (a : Int) ≤ tp p ∧ tp p ≤ (b : Int) := decide_eq_true_iff
theorem k150 (hC : RCt tp tl M) {p : Nat} (hp : p ≤ tl) (h6 : M.1 768 6 = nI p) {Q : List Value → Mm → Prop} (k : ∀ M', M'.1 768 6 = nI (nbk tp tl p) → M'.1 768 8 = nI (nbk tp tl p) → Fr aPb M M' → Q [] M') : SC (d + 2) 150 [.ref 768] M Q := by
  have h4 := hC.1
  have loop : ∀ n p M1, tl - p = n → p ≤ tl → M1.1 768 6 = nI p → Fr aPb M M1 → (∀ M', M'.1 768 6 = nI (nbk tp tl p) → M'.1 768 8 = nI (nbk tp tl p) → Fr aPb M M' → Q [] M') → WM (d + 1) 150 Q 0 [some (.ref 768)] [] M1 := by
    intro n
    induction n with
    | zero =>
      intro p M1 hn hp h6 hF k
      have hC1 := hC.of hF rfl (fun j => rfl)
      refine go_in (e150_0 (k149 hC1 hp h6 (by decide) (by decide) (e150_8 ?_)))
      have e : inb tp tl 32 32 p = false := decide_eq_false (by omega)
      rw [e]
      refine ⟨fun _ => go_in (e150_24 ⟨rfl, ?_⟩), fun q => absurd rfl q⟩
      rw [nbk_tl (by omega)] at k
      exact k _ ((sI_j _ _ (by decide)).trans h6) ((sI_e _ _ _ _).trans h6) (hF.sI rfl)
    | succ n ih =>
      intro p M1 hn hp h6 hF k
      have hC1 := hC.of hF rfl (fun j => rfl)
      refine go_in (e150_0 (k149 hC1 hp h6 (by decide) (by decide) (e150_8 ?_)))
      by_cases g : ibl tp p = true
      · have e : inb tp tl 32 32 p = true := inb_t.mpr ⟨by omega, of_decide_eq_true g⟩
        rw [e]
        refine ⟨fun q => absurd q (by decide), fun _ => ?_⟩
        rw [h6, nI_add]
        rw [show nbk tp tl p = nbk tp tl (p + 1) from rE_s (by omega) g] at k
        exact ih (p + 1) _ (by omega) (by omega) (sI_e _ _ _ _) (hF.sI rfl) k
      · have e : inb tp tl 32 32 p = false := by
          cases h : inb tp tl 32 32 p with
          | false => rfl
          | true => exact absurd (decide_eq_true (inb_t.mp h).2) g
        rw [e]
        refine ⟨fun _ => go_in (e150_24 ⟨rfl, ?_⟩), fun q => absurd rfl q⟩
        rw [show nbk tp tl p = p from rE_n (fun q => g q.2)] at k
        exact k _ ((sI_j _ _ (by decide)).trans h6) ((sI_e _ _ _ _).trans h6) (hF.sI rfl)
  exact sC (by decide) rfl (loop _ p M rfl hp h6 Fr.rf k)
theorem k151 (hC : RCt tp tl M) {p i : Nat} (hp : p ≤ tl) (h6 : M.1 768 6 = nI p) (hi : nbk tp tl p = bgk tp tl i) {Q : List Value → Mm → Prop} (k : ∀ M', M'.1 768 6 = nI (rE (isl tp) tl (bgk tp tl i)) → M'.1 768 8 = nI (bgk tp tl i) → Fr aPb M M' → Q [] M') : SC (d + 3) 151 [.ref 768] M Q := by
  have h4 := hC.1
  have loop : ∀ n p M1, tl - p = n → p ≤ tl → M1.1 768 6 = nI p → M1.1 768 8 = nI (bgk tp tl i) → Fr aPb M M1 → (∀ M', M'.1 768 6 = nI (rE (isl tp) tl p) → M'.1 768 8 = nI (bgk tp tl i) → Fr aPb M M' → Q [] M') → WM (d + 2) 151 Q 4 [some (.ref 768)] [] M1 := by
    intro n
    induction n with
    | zero =>
      intro p M1 hn hp h6 h8 hF k
      have hC1 := hC.of hF rfl (fun j => rfl)
      refine go_in (e151_4_1 (upC (k149 (d := 0) hC1 hp h6 (by decide) (by decide) (e151_12 ?_)) (by omega)))
      have e : inb tp tl 97 122 p = false := decide_eq_false (by omega)
      rw [e]
      refine ⟨fun _ => go_in (e151_28 ⟨rfl, ?_⟩), fun q => absurd rfl q⟩
      rw [rE_n (by omega)] at k
      exact k _ h6 h8 hF
    | succ n ih =>
      intro p M1 hn hp h6 h8 hF k
      have hC1 := hC.of hF rfl (fun j => rfl)
      refine go_in (e151_4_1 (upC (k149 (d := 0) hC1 hp h6 (by decide) (by decide) (e151_12 ?_)) (by omega)))
      by_cases g : isl tp p = true
      · have e : inb tp tl 97 122 p = true := inb_t.mpr ⟨by omega, of_decide_eq_true g⟩
        rw [e]
        refine ⟨fun q => absurd q (by decide), fun _ => ?_⟩
        rw [h6, nI_add]
        rw [rE_s (by omega) g] at k
        exact ih (p + 1) _ (by omega) (by omega) (sI_e _ _ _ _) ((sI_j _ _ (by decide)).trans h8) (hF.sI rfl) k
      · have e : inb tp tl 97 122 p = false := by
          cases h : inb tp tl 97 122 p with
          | false => rfl
          | true => exact absurd (decide_eq_true (inb_t.mp h).2) g
        rw [e]
        refine ⟨fun _ => go_in (e151_28 ⟨rfl, ?_⟩), fun q => absurd rfl q⟩
        rw [rE_n (fun q => g q.2)] at k
        exact k _ h6 h8 hF
  refine sC (by decide) rfl (go_in (e151_0 (k150 hC hp h6 fun M1 g6 g8 f1 => ?_)))
  rw [hi] at g6 g8
  have t := loop _ (bgk tp tl i) M1 rfl (bgk_le i) g6 g8 f1 k
  have hC1 := hC.of f1 rfl (fun j => rfl)
  refine e151_4 (upC (k149 (d := 0) hC1 (bgk_le i) g6 (by decide) (by decide) (e151_12 ?_)) (by omega))
  by_cases g : bgk tp tl i < tl ∧ isl tp (bgk tp tl i) = true
  · have e : inb tp tl 97 122 (bgk tp tl i) = true := inb_t.mpr ⟨g.1, of_decide_eq_true g.2⟩
    rw [e]
    refine ⟨fun q => absurd q (by decide), fun _ => ?_⟩
    rw [g6, nI_add]
    rw [rE_s g.1 g.2] at k
    exact loop _ (bgk tp tl i + 1) _ rfl (by omega) (sI_e _ _ _ _) ((sI_j _ _ (by decide)).trans g8) (f1.sI rfl) k
  · have e : inb tp tl 97 122 (bgk tp tl i) = false := by
      cases h : inb tp tl 97 122 (bgk tp tl i) with
      | false => rfl
      | true => exact absurd ⟨(inb_t.mp h).1, decide_eq_true (inb_t.mp h).2⟩ g
    rw [e]
    refine ⟨fun _ => go_in (e151_28 ⟨rfl, ?_⟩), fun q => absurd rfl q⟩
    rw [rE_n g] at k
    exact k _ g6 g8 f1
theorem k152 (hC : RCt tp tl M) {b q t : Nat} (hS : isS t = true) {s : List Nat} (hs : str t = s) (hl : s.length < 7 ∧ ∀ c ∈ s, c < 128) (hb : b ≤ q) (hq : q ≤ tl) (h6 : M.1 768 6 = nI q) (h8 : M.1 768 8 = nI b) {Q : List Value → Mm → Prop} (k : Q [.int (nI (cond (decide (s.length = q - b) && spl tp b s) 1 0))] M) : SC (d + 2) 152 [.ref 768, .ref t] M Q := by
  have h4 := hC.1
  have loop : ∀ m i (fl : Bool), i + m = s.length → (fl = true → s.length = q - b) → Q [.int (nI (cond (fl && spl tp (b + i) (s.drop i)) 1 0))] M → WM (d + 1) 152 Q 24 [some (.ref 768), some (.ref t), some (.int (nI (cond fl 1 0))), some (.int (nI i))] [] M := by
    intro m
    induction m with
    | zero =>
      intro i fl hi hf hk
      rw [List.drop_eq_nil_of_le (by omega)] at hk
      cases fl with
      | false => exact go_in (e152_24 ⟨fun _ => go_in (e152_67 ⟨Or.inl rfl, rfl, hk⟩), fun z => absurd rfl z⟩)
      | true =>
        refine go_in (e152_24 ⟨fun z => absurd z (by decide), fun _ => ⟨hS, Or.inl ⟨by decide, hS, Or.inl ⟨rfl, e152_33 ?_⟩⟩⟩⟩)
        rw [hs]
        exact br_t (nI_le (by omega) (by omega)) (go_in (e152_67 ⟨Or.inr rfl, rfl, hk⟩))
    | succ m ih =>
      intro i fl hi hf hk
      cases fl with
      | false => exact go_in (e152_24 ⟨fun _ => go_in (e152_67 ⟨Or.inl rfl, rfl, hk⟩), fun z => absurd rfl z⟩)
      | true =>
        have hf := hf rfl
        have hil : i < s.length := by omega
        have hc : s[i] < 128 := hl.2 _ (List.getElem_mem hil)
        have hr := hC.2.1 (b + i)
        have e1 : s.getD i 0 = s[i] := by
          rw [List.getD_eq_getElem?_getD, List.getElem?_eq_getElem hil]
          rfl
        rw [List.drop_eq_getElem_cons hil] at hk
        have hk : Q [.int (nI (cond (true && (decide (tp (b + i) = (s[i] : Int)) && spl tp (b + i + 1) (s.drop (i + 1)))) 1 0))] M := hk
        refine go_in (e152_24 ⟨fun z => absurd z (by decide), fun _ => ⟨hS, Or.inl ⟨by decide, hS, Or.inl ⟨rfl, e152_33 ?_⟩⟩⟩⟩)
        rw [hs, h8, nI_add]
        refine br_f (nI_ge (by omega) (by omega)) ⟨nI_in2 (by omega) (by decide), hS, Or.inl ⟨by decide, hS, rfl, by rw [hs]; exact nI_in2 hil (by omega), e152_52 ?_⟩⟩
        rw [hs, nI_c (by omega), nI_c (by omega), e1, hC.2.2.2 _ (by omega), iz_n (s[i]), iz_eq ⟨by omega, by omega⟩ (i32_n (by omega))]
        by_cases g : tp (b + i) = (s[i] : Int)
        · rw [decide_eq_true g, Bool.true_and] at hk
          refine ⟨fun z => absurd g z, fun _ => go_in (e152_60 ?_)⟩
          rw [nI_s]
          exact ih (i + 1) true (by omega) (fun _ => hf) hk
        · rw [decide_eq_false g, Bool.false_and, Bool.and_false] at hk
          refine ⟨fun _ => go_in (e152_59 (go_in (e152_60 ?_))), fun z => absurd z g⟩
          rw [nI_s]
          exact ih (i + 1) false (by omega) (fun z => by cases z) (by rw [Bool.false_and]; exact hk)
  refine sC (by decide) rfl (go_in (e152_0 ⟨hS, Or.inl ⟨by decide, hS, Or.inl ⟨rfl, e152_13 ?_⟩⟩⟩))
  rw [hs, h6, h8, nI_sub hb, nI_q (by omega) (by omega)]
  by_cases g : q - b = s.length
  · refine ⟨fun z => absurd g z, fun _ => go_in (e152_21 (loop s.length 0 true (by omega) (fun _ => g.symm) ?_))⟩
    rw [decide_eq_true g.symm] at k
    exact k
  · refine ⟨fun _ => go_in (e152_20 (go_in (e152_21 (loop s.length 0 false (by omega) (fun z => by cases z) ?_)))), fun z => absurd z g⟩
    rw [decide_eq_false (fun z => g z.symm)] at k
    exact k
/-- the words and signs the reference looks for, by their things -/
theorem enk_l {p : Nat} (h : isl tp p = true) (hp : p < tl) : enk tp tl p = rE (isl tp) tl p := by
  rw [rE_s hp h]
  exact if_pos h
theorem isl_d {p : Nat} (h : isl tp p = true) : idg tp p = false := by
  have a := of_decide_eq_true h
  exact decide_eq_false (by omega)
theorem wrd_l : ∀ j, j < 18 → 3 ≤ j → j < 12 → ∃ c r, str (70200 + j) = c :: r ∧ 97 ≤ c ∧ c ≤ 122 := by
  intro j hj h3 h12
  obtain rfl | rfl | rfl | rfl | rfl | rfl | rfl | rfl | rfl : j = 3 ∨ j = 4 ∨ j = 5 ∨ j = 6 ∨ j = 7 ∨ j = 8 ∨ j = 9 ∨ j = 10 ∨ j = 11 := by omega
  all_goals exact ⟨_, _, rfl, by decide, by decide⟩
theorem tk_w {i j : Nat} (h3 : 3 ≤ j) (h12 : j < 12) : (decide ((str (70200 + j)).length = rE (isl tp) tl (bgk tp tl i) - bgk tp tl i) && spl tp (bgk tp tl i) (str (70200 + j))) = decide (tkk tp tl i = j) := by
  obtain ⟨c, r, hcr, hc1, hc2⟩ := wrd_l j (by omega) h3 h12
  have hb := bgk_le (tp := tp) (tl := tl) i
  have first : spl tp (bgk tp tl i) (str (70200 + j)) = true → isl tp (bgk tp tl i) = true := fun h => by
    rw [hcr] at h
    have h : (decide (tp (bgk tp tl i) = (c : Int)) && spl tp (bgk tp tl i + 1) r) = true := h
    rw [Bool.and_eq_true, decide_eq_true_iff] at h
    exact decide_eq_true (by omega)
  rw [Bool.eq_iff_iff, Bool.and_eq_true, decide_eq_true_iff, decide_eq_true_iff]
  constructor
  · rintro ⟨h1, h2⟩
    have hl := first h2
    have hlt : bgk tp tl i < tl := by
      by_cases g : bgk tp tl i < tl
      · exact g
      · rw [rE_n (fun z => g z.1), hcr, List.length_cons] at h1
        omega
    unfold tkk knd
    rw [if_neg (by omega), if_neg (by rw [isl_d hl]; decide)]
    rw [spk_iff h3 (by omega), isp_t, enk_l hl hlt]
    exact ⟨⟨by rw [hcr]; exact List.cons_ne_nil _ _, h1⟩, h2⟩
  · intro h
    unfold tkk knd at h
    by_cases g : tl ≤ bgk tp tl i
    · rw [if_pos g] at h
      omega
    · rw [if_neg g] at h
      by_cases hd : idg tp (bgk tp tl i) = true
      · rw [if_pos hd] at h
        split at h <;> omega
      · rw [if_neg hd, spk_iff h3 (by omega), isp_t] at h
        have hl := first h.2
        rw [enk_l hl (by omega)] at h
        exact ⟨h.1.2, h.2⟩
theorem k153 (hC : RCt tp tl M) {p i t j : Nat} (hp : p ≤ tl) (h6 : M.1 768 6 = nI p) (hi : nbk tp tl p = bgk tp tl i) (hS : isS t = true) (hs : str t = str (70200 + j)) (h3 : 3 ≤ j) (h12 : j < 12) {Q : List Value → Mm → Prop} (k : ∀ p' M', p' ≤ tl → nbk tp tl p' = bgk tp tl (if tkk tp tl i = j then i + 1 else i) → M'.1 768 6 = nI p' → M'.1 768 8 = nI (bgk tp tl i) → Fr aPb M M' → Q [.int (nI (cond (decide (tkk tp tl i = j)) 1 0))] M') : SC (d + 4) 153 [.ref 768, .ref t] M Q := by
  have h4 := hC.1
  refine sC (by decide) rfl (go_in (e153_0 (k151 hC hp h6 hi fun M1 g6 g8 f1 => e153_4 ?_)))
  have hC1 := hC.of f1 rfl (fun j => rfl)
  have hb := bgk_le (tp := tp) (tl := tl) i
  have hge := rE_ge (P := isl tp) (tl := tl) _ (bgk tp tl i) rfl
  have hle := rE_le (P := isl tp) (tl := tl) _ (bgk tp tl i) rfl hb
  refine upC (k152 (d := 0) hC1 hS hs (str_lt j (by omega)) hge hle g6 g8 (e153_9 ?_)) (by omega)
  rw [tk_w h3 h12]
  by_cases g : tkk tp tl i = j
  · have k2 := k (rE (isl tp) tl (bgk tp tl i)) M1 hle
    rw [if_pos g, decide_eq_true g] at k2
    rw [decide_eq_true g]
    refine ⟨fun z => absurd z (by decide), fun _ => ⟨Or.inr rfl, rfl, k2 ?_ g6 g8 f1⟩⟩
    have hw := tk_w (tp := tp) (tl := tl) (i := i) h3 h12
    rw [decide_eq_true g, Bool.and_eq_true] at hw
    obtain ⟨c, r, hcr, hc1, hc2⟩ := wrd_l j (by omega) h3 h12
    have hlt : bgk tp tl i < tl := by
      by_cases z : bgk tp tl i < tl
      · exact z
      · have := (knd_0 (tp := tp) (tl := tl) (p := bgk tp tl i)).mpr (by omega)
        have g : knd tp tl (bgk tp tl i) = j := g
        omega
    have hl : isl tp (bgk tp tl i) = true := by
      have h := hw.2
      rw [hcr] at h
      have h : (decide (tp (bgk tp tl i) = (c : Int)) && spl tp (bgk tp tl i + 1) r) = true := h
      rw [Bool.and_eq_true, decide_eq_true_iff] at h
      exact decide_eq_true (by omega)
    rw [bgk_s hlt, enk_l hl hlt]
  · have k2 := k (bgk tp tl i) (sI M1 768 6 (nI (bgk tp tl i))) hb
    rw [if_neg g, decide_eq_false g] at k2
    rw [decide_eq_false g]
    refine ⟨fun _ => go_in (e153_14 ⟨Or.inl rfl, rfl, ?_⟩), fun z => absurd rfl z⟩
    rw [g8]
    exact k2 (bgk_nb i) (sI_e _ _ _ _) ((sI_j _ _ (by decide)).trans g8) (f1.sI rfl)
theorem sgn_s : ∀ j, j < 18 → 12 ≤ j → ∃ c, str (70200 + j) = [c] ∧ 40 ≤ c ∧ c ≤ 62 ∧ ¬ (48 ≤ c ∧ c ≤ 57) := by
  intro j hj h12
  obtain rfl | rfl | rfl | rfl | rfl | rfl : j = 12 ∨ j = 13 ∨ j = 14 ∨ j = 15 ∨ j = 16 ∨ j = 17 := by omega
  all_goals exact ⟨_, rfl, by decide, by decide, by decide⟩
theorem tk_s {i j c : Nat} (h12 : 12 ≤ j) (hj : j < 18) (hs : str (70200 + j) = [c]) : inb tp tl c c (bgk tp tl i) = decide (tkk tp tl i = j) := by
  obtain ⟨c', hc', h1, h2, h3⟩ := sgn_s j hj h12
  rw [hs] at hc'
  have hc' : c = c' := (List.cons.inj hc').1
  subst hc'
  rw [Bool.eq_iff_iff, inb_t, decide_eq_true_iff]
  constructor
  · rintro ⟨a, b⟩
    have hl : isl tp (bgk tp tl i) = false := decide_eq_false (by omega)
    have hd : idg tp (bgk tp tl i) = false := decide_eq_false (by omega)
    have he : enk tp tl (bgk tp tl i) = bgk tp tl i + 1 := by
      unfold enk
      rw [if_neg (by rw [hl]; decide), if_neg (by rw [hd]; decide)]
    unfold tkk knd
    rw [if_neg (by omega), if_neg (by rw [hd]; decide), spk_iff (by omega) hj, isp_t, hs, he]
    refine ⟨⟨List.cons_ne_nil _ _, by rw [List.length_singleton]; omega⟩, ?_⟩
    show (decide (tp (bgk tp tl i) = (c : Int)) && true) = true
    rw [Bool.and_true, decide_eq_true_iff]
    omega
  · intro h
    unfold tkk knd at h
    by_cases g : tl ≤ bgk tp tl i
    · rw [if_pos g] at h
      omega
    · rw [if_neg g] at h
      by_cases hd : idg tp (bgk tp tl i) = true
      · rw [if_pos hd] at h
        split at h <;> omega
      · rw [if_neg hd, spk_iff (by omega) hj, isp_t, hs] at h
        have h := h.2
        have h : (decide (tp (bgk tp tl i) = (c : Int)) && true) = true := h
        rw [Bool.and_true, decide_eq_true_iff] at h
        exact ⟨by omega, by omega⟩
theorem tk_se {i j c : Nat} (h12 : 12 ≤ j) (hj : j < 18) (hs : str (70200 + j) = [c]) (h : tkk tp tl i = j) : bgk tp tl i < tl ∧ bgk tp tl (i + 1) = nbk tp tl (bgk tp tl i + 1) := by
  have hh := tk_s (tp := tp) (tl := tl) (i := i) h12 hj hs
  rw [decide_eq_true h, inb_t] at hh
  obtain ⟨c', hc', h1, h2, h3⟩ := sgn_s j hj h12
  rw [hs] at hc'
  have hc' : c = c' := (List.cons.inj hc').1
  subst hc'
  have hl : isl tp (bgk tp tl i) = false := decide_eq_false (by omega)
  have hd : idg tp (bgk tp tl i) = false := decide_eq_false (by omega)
  have he : enk tp tl (bgk tp tl i) = bgk tp tl i + 1 := by
    unfold enk
    rw [if_neg (by rw [hl]; decide), if_neg (by rw [hd]; decide)]
  exact ⟨hh.1, by rw [bgk_s hh.1, he]⟩
theorem k154 (hC : RCt tp tl M) {p i j c : Nat} (hp : p ≤ tl) (h6 : M.1 768 6 = nI p) (hi : nbk tp tl p = bgk tp tl i) (hs : str (70200 + j) = [c]) (h12 : 12 ≤ j) (hj : j < 18) {Q : List Value → Mm → Prop} (k : ∀ p' M', p' ≤ tl → nbk tp tl p' = bgk tp tl (if tkk tp tl i = j then i + 1 else i) → M'.1 768 6 = nI p' → M'.1 768 8 = nI (bgk tp tl i) → Fr aPb M M' → Q [.int (nI (cond (decide (tkk tp tl i = j)) 1 0))] M') : SC (d + 3) 154 [.ref 768, .int (nI c)] M Q := by
  have h4 := hC.1
  obtain ⟨c', hc', h1, h2, h3⟩ := sgn_s j hj h12
  rw [hs] at hc'
  have hc' : c = c' := (List.cons.inj hc').1
  subst hc'
  refine sC (by decide) rfl (go_in (e154_0 (k150 hC hp h6 fun M1 g6 g8 f1 => e154_4 ?_)))
  rw [hi] at g6 g8
  have hC1 := hC.of f1 rfl (fun j => rfl)
  refine upC (k149 (d := 0) hC1 (bgk_le i) g6 (by omega) (by omega) (e154_10 ?_)) (by omega)
  rw [tk_s h12 hj hs]
  by_cases g : tkk tp tl i = j
  · obtain ⟨a, b⟩ := tk_se h12 hj hs g
    have k2 := k (bgk tp tl i + 1) (sI M1 768 6 (nI (bgk tp tl i + 1))) a
    rw [if_pos g, decide_eq_true g] at k2
    rw [decide_eq_true g]
    refine ⟨fun _ => go_in (e154_15 ⟨Or.inr rfl, rfl, ?_⟩), fun z => absurd z (by decide)⟩
    rw [g6, nI_add]
    exact k2 b.symm (sI_e _ _ _ _) ((sI_j _ _ (by decide)).trans g8) (f1.sI rfl)
  · have k2 := k (bgk tp tl i) M1 (bgk_le i)
    rw [if_neg g, decide_eq_false g] at k2
    rw [decide_eq_false g]
    exact ⟨fun z => absurd rfl z, fun _ => ⟨Or.inl rfl, rfl, k2 (bgk_nb i) g6 g8 f1⟩⟩
end RL
