/-! Where one sum is less; a tag or two sums. -/
def SBn (T n : Nat) (s : SUM) : Prop := s.1 T ≤ 99 * n ∧ s.2.1 ≤ n ∧ s.2.2 ≤ n
theorem pPart_b {tk nm : Nat → Nat} (hm : ∀ i, nm i ≤ 99) {T i j : Nat} (hT : T ≤ 7) {c : List (Nat × Nat)} {s : SUM} (h : pPart tk nm i = okP j c s) : SBn T 1 s := by
  unfold pPart at h
  split at h
  · cases h
    exact ⟨by have := hm i; omega, Nat.zero_le _, Nat.zero_le _⟩
  · split at h
    · cases h
      exact ⟨by show T ≤ 99 * 1; omega, Nat.zero_le _, Nat.zero_le _⟩
    · split at h
      · cases h
        exact ⟨Nat.zero_le _, Nat.le_refl _, Nat.zero_le _⟩
      · split at h
        · cases h
          exact ⟨Nat.zero_le _, Nat.zero_le _, Nat.le_refl _⟩
        · cases h
theorem pSumL_b {tk nm : Nat → Nat} (hm : ∀ i, nm i ≤ 99) {T : Nat} (hT : T ≤ 7) : ∀ n {m i j : Nat} {c c' : List (Nat × Nat)} {s s' : SUM}, SBn T m s → pSumL tk nm n i c s = okP j c' s' → SBn T (m + n) s' := fun n => by
  induction n with
  | zero =>
    intro m i j c c' s s' g h
    cases h
    exact g
  | succ n ih =>
    intro m i j c c' s s' g h
    unfold pSumL at h
    split at h
    · obtain ⟨j1, d, r, h1, h2⟩ := bd_ok h
      have g1 := pPart_b hm hT h1
      have := ih (m := m + 1) ⟨by have := g.1; have := g1.1; show s.1 T + r.1 T ≤ _; omega, by have := g.2.1; have := g1.2.1; show s.2.1 + r.2.1 ≤ _; omega, by have := g.2.2; have := g1.2.2; show s.2.2 + r.2.2 ≤ _; omega⟩ h2
      rw [show m + 1 + n = m + (n + 1) by omega] at this
      exact this
    · cases h
      exact ⟨by have := g.1; omega, by have := g.2.1; omega, by have := g.2.2; omega⟩
theorem pSum_b {tk nm : Nat → Nat} (hm : ∀ i, nm i ≤ 99) {T i j : Nat} (hT : T ≤ 7) {c : List (Nat × Nat)} {s : SUM} (h : pSum tk nm i = okP j c s) : SBn T 401 s := by
  obtain ⟨j1, c1, s1, h1, h2⟩ := bd_ok h
  exact pSumL_b hm hT 400 (m := 1) (pPart_b hm hT h1) h2
theorem vlS_b {T l f : Nat} {s : SUM} (h : SBn T 401 s) (hl : l ≤ 7) (hf : f ≤ 2) : vlS s T l f ≤ 50000 := by
  unfold vlS
  have h1 := Nat.mul_le_mul h.2.1 hl
  have h2 := Nat.mul_le_mul h.2.2 hf
  have := h.1
  omega
def rmE (M : Mm) (x0 x1 f l : Nat) : Int32 := ((M.1 x1 0 - M.1 x0 0) + ((M.1 x1 1 - M.1 x0 1) * nI l)) + ((M.1 x1 2 - M.1 x0 2) * nI f)
theorem rmE_v {M : Mm} {x0 x1 T l f : Nat} {s r : SUM} (h0 : smAt x0 T s M) (h1 : smAt x1 T r M) (bs : SBn T 401 s) (br : SBn T 401 r) (hl : l ≤ 7) (hf : f ≤ 2) : ¬ rmE M x0 x1 f l ≤ 0 ↔ vlS s T l f < vlS r T l f := by
  have b1 := vlS_b bs hl hf
  have b2 := vlS_b br hl hf
  have e : rmE M x0 x1 f l = iz ((vlS r T l f : Int) - vlS s T l f) := by
    unfold rmE
    rw [h0.1, h0.2.1, h0.2.2, h1.1, h1.2.1, h1.2.2, iz_n, iz_n, iz_n, iz_n, iz_n, iz_n, iz_n, iz_n, iz_sub, iz_sub, iz_sub, iz_mul, iz_mul, iz_add, iz_add]
    congr 1
    unfold vlS
    push_cast
    rw [Int.sub_mul, Int.sub_mul]
    omega
  rw [e, show (0 : Int32) = iz 0 from rfl, iz_le ⟨by omega, by omega⟩ ⟨by decide, by decide⟩]
  omega
section WL
variable {d : Nat} {M : Mm} {tp : Nat → Int} {tl N T : Nat}
theorem k33 {x0 x1 : Nat} (hx0 : x0 = 13320 ∨ x0 = 13321) (hx1 : x1 = 13320 ∨ x1 = 13321) {Q : List Value → Mm → Prop} (k : ∀ x, BM (fun p => decide (¬ rmE M x0 x1 (p / 16) (p % 8) ≤ 0)) x → Q [.long x] M) : SC (d + 2) 33 [.ref x0, .ref x1] M Q := by
  obtain ⟨ar0, ty0, ln0⟩ := x_ar hx0
  obtain ⟨ar1, ty1, ln1⟩ := x_ar hx1
  have A0 : ∀ n, n < 3 → isAr x0 = true ∧ typ x0 = 1 ∧ vp_in (nI n) (len x0) := fun n hn => ⟨ar0, ty0, by rw [ln0]; exact nI_in2 hn (by decide)⟩
  have A1 : ∀ n, n < 3 → isAr x1 = true ∧ typ x1 = 1 ∧ vp_in (nI n) (len x1) := fun n hn => ⟨ar1, ty1, by rw [ln1]; exact nI_in2 hn (by decide)⟩
  have outer : ∀ m f x (o3 o5 o6 : Option Value), f + m = 3 → BM (fun p => decide (p / 16 < f) && decide (¬ rmE M x0 x1 (p / 16) (p % 8) ≤ 0)) x → WM (d + 1) 33 Q 5 [some (.ref x0), some (.ref x1), some (.long x), o3, some (.int (nI f)), o5, o6] [] M := by
    intro m
    induction m with
    | zero =>
      intro f x o3 o5 o6 hf hx
      have hf : f = 3 := by omega
      subst hf
      refine go_in (e33_5 (br_t (nI_le (Nat.le_refl _) (by decide)) (go_in (e33_93 ⟨rfl, k x (hx.cg fun p hp => ?_)⟩))))
      rw [decide_eq_true (show p / 16 < 3 by omega), Bool.true_and]
    | succ m ih =>
      intro f x o3 o5 o6 hf hx
      refine go_in (e33_5 (br_f (nI_ge (by omega) (by decide)) ?_))
      have inner : ∀ n l x (o3 o6 : Option Value), l + n = 8 → BM (fun p => (decide (p / 16 < f) || decide (p / 16 = f ∧ p % 8 < l)) && decide (¬ rmE M x0 x1 (p / 16) (p % 8) ≤ 0)) x → WM (d + 1) 33 Q 14 [some (.ref x0), some (.ref x1), some (.long x), o3, some (.int (nI f)), some (.int (nI l)), o6] [] M := by
        intro n
        induction n with
        | zero =>
          intro l x o3 o6 hl hx
          have hl : l = 8 := by omega
          subst hl
          refine go_in (e33_14 (br_t (nI_le (Nat.le_refl _) (by decide)) (go_in (e33_87 ?_))))
          rw [nI_s]
          refine ih (f + 1) x _ _ _ (by omega) (hx.cg fun p hp => ?_)
          congr 1
          by_cases g : p / 16 < f
          · rw [decide_eq_true g, decide_eq_true (show p / 16 < f + 1 by omega)]
            rfl
          · by_cases g2 : p / 16 = f
            · rw [decide_eq_true (show p / 16 = f ∧ p % 8 < 8 by omega), decide_eq_true (show p / 16 < f + 1 by omega), Bool.or_true]
            · rw [decide_eq_false g, decide_eq_false (show ¬ (p / 16 = f ∧ p % 8 < 8) by omega), decide_eq_false (show ¬ p / 16 < f + 1 by omega)]
              rfl
        | succ n ih2 =>
          intro l x o3 o6 hl hx
          refine go_in (e33_14 (br_f (nI_ge (by omega) (by decide)) ⟨A1 0 (by decide), A0 0 (by decide), A1 1 (by decide), A0 1 (by decide), A1 2 (by decide), A0 2 (by decide), ?_⟩))
          rw [nI_c (show 0 < 2147483648 by decide), nI_c (show 1 < 2147483648 by decide), nI_c (show 2 < 2147483648 by decide)]
          show (rmE M x0 x1 f l ≤ 0 → _) ∧ (¬ rmE M x0 x1 f l ≤ 0 → _)
          refine ⟨fun g => go_in (e33_81 ?_), fun g => ?_⟩
          · rw [nI_s]
            refine ih2 (l + 1) x _ _ (by omega) (hx.cg fun p hp => ?_)
            by_cases e : p / 16 = f ∧ p % 8 = l
            · rw [e.1, e.2, decide_eq_false (show ¬ ¬ rmE M x0 x1 f l ≤ 0 from fun z => z g), Bool.and_false, Bool.and_false]
            · congr 2
              exact decide_eq_decide.mpr (by omega)
          · refine upC (d := d + 1) (useC c19 fun vs N2 h => ?_) (by omega)
            obtain ⟨rfl, h⟩ := h
            have h := h.symm
            subst h
            refine e33_67 (upC (d := d + 1) (useC c19 fun vs N2 h => ?_) (by omega))
            obtain ⟨rfl, h⟩ := h
            have h := h.symm
            subst h
            refine e33_77 (go_in (e33_81 ?_))
            rw [nI_s]
            refine ih2 (l + 1) _ _ _ (by omega) ((hx.or ((BM_bit (show (f * 2 + 0) * 8 + l < 48 by omega)).or (BM_bit (show (f * 2 + 1) * 8 + l < 48 by omega)))).cg fun p hp => ?_)
            by_cases e : p / 16 = f ∧ p % 8 = l
            · rw [e.1, e.2, decide_eq_true g, decide_eq_true (show f = f ∧ l < l + 1 from ⟨rfl, by omega⟩), Bool.or_true, Bool.and_true]
              have : p = (f * 2 + 0) * 8 + l ∨ p = (f * 2 + 1) * 8 + l := by omega
              rcases this with q | q
              · rw [decide_eq_true q, Bool.true_or, Bool.or_true]
                rfl
              · rw [decide_eq_true q, Bool.or_true, Bool.or_true]
                rfl
            · rw [decide_eq_false (show ¬ p = (f * 2 + 0) * 8 + l by omega), decide_eq_false (show ¬ p = (f * 2 + 1) * 8 + l by omega), Bool.or_false, Bool.or_false]
              congr 2
              exact decide_eq_decide.mpr (by omega)
      refine inner 8 0 x _ _ (by omega) (hx.cg fun p hp => ?_)
      rw [decide_eq_false (show ¬ (p / 16 = f ∧ p % 8 < 0) by omega), Bool.or_false]
  refine sC (by decide) rfl (go_in (e33_0 (outer 3 0 (lN 0) _ _ _ rfl (BM_0.cg fun p hp => ?_))))
  rw [decide_eq_false (by omega)]
  rfl
end WL
