/-! What a text says: one reading for both sides. -/
abbrev PR (σ : Type) := Nat ⊕ (Nat × List (Nat × Nat) × σ)
abbrev erP {σ : Type} (i : Nat) : PR σ := Sum.inl i
abbrev okP {σ : Type} (i : Nat) (c : List (Nat × Nat)) (s : σ) : PR σ := Sum.inr (i, c, s)
def bdP {σ τ : Type} : PR σ → (Nat → List (Nat × Nat) → σ → PR τ) → PR τ
  | .inl e, _ => .inl e
  | .inr (j, c, s), k => k j c s
abbrev SUM := (Nat → Nat) × Nat × Nat
abbrev MSK := Nat → Nat → Bool
def vlS (s : SUM) (T l f : Nat) : Nat := s.1 T + s.2.1 * l + s.2.2 * f
def adS (s r : SUM) : SUM := (fun T => s.1 T + r.1 T, s.2.1 + r.2.1, s.2.2 + r.2.2)
def wls (s r : SUM) : MSK := fun T p => decide (vlS s T (p % 8) (p / 16) < vlS r T (p % 8) (p / 16))
section PS
variable (tk nm : Nat → Nat)
def pPart (i : Nat) : PR SUM := if tk i = 2 then okP (i + 1) [(11, nm i)] (fun _ => nm i, 0, 0) else if tk i = 10 then okP (i + 1) [(1, 0)] (fun T => T, 0, 0) else if tk i = 9 then okP (i + 1) [(0, 0)] (fun _ => 0, 1, 0) else if tk i = 11 then okP (i + 1) [(2, 0)] (fun _ => 0, 0, 1) else erP i
def pSumL : Nat → Nat → List (Nat × Nat) → SUM → PR SUM
  | 0, i, c, s => okP i c s
  | n + 1, i, c, s => if tk i = 14 then bdP (pPart tk nm (i + 1)) fun j d r => pSumL n j (c ++ (d ++ [(12, 0)])) (adS s r) else okP i c s
def pSum (i : Nat) : PR SUM := bdP (pPart tk nm i) fun j c s => pSumL tk nm 400 j c s
def pCmp (i : Nat) : PR MSK := bdP (pSum tk nm i) fun j c s => if tk j = 15 then bdP (pSum tk nm (j + 1)) fun k d r => okP k (c ++ (d ++ [(13, 0)])) (wls s r) else if tk j = 16 then bdP (pSum tk nm (j + 1)) fun k d r => okP k (c ++ (d ++ [(14, 0)])) (wls r s) else erP j
def pBase (i : Nat) : PR MSK := if tk i = 8 then okP (i + 1) [(10, 0)] (fun _ p => decide (p / 8 % 2 = 1)) else pCmp tk nm i
def pAndL (A : Nat → PR MSK) : Nat → Nat → List (Nat × Nat) → MSK → PR MSK
  | 0, i, c, m => okP i c m
  | n + 1, i, c, m => if tk i = 6 then bdP (A (i + 1)) fun j d r => pAndL A n j (c ++ (d ++ [(16, 0)])) (fun T p => m T p && r T p) else okP i c m
def pAnds (A : Nat → PR MSK) (i : Nat) : PR MSK := bdP (A i) fun j c m => pAndL tk A 400 j c m
def pOrL (A : Nat → PR MSK) : Nat → Nat → List (Nat × Nat) → MSK → PR MSK
  | 0, i, c, m => okP i c m
  | n + 1, i, c, m => if tk i = 5 then bdP (pAnds tk A (i + 1)) fun j d r => pOrL A n j (c ++ (d ++ [(17, 0)])) (fun T p => m T p || r T p) else okP i c m
def pOrs (A : Nat → PR MSK) (i : Nat) : PR MSK := bdP (pAnds tk A i) fun j c m => pOrL tk A 400 j c m
def pAtom : Nat → Nat → PR MSK
  | 0, i => if tk i = 7 ∨ tk i = 12 then erP i else pBase tk nm i
  | r + 1, i => if tk i = 7 then bdP (pAtom r (i + 1)) fun j c m => okP j (c ++ [(15, 0)]) (fun T p => !m T p) else if tk i = 12 then bdP (pOrs tk (pAtom r) (i + 1)) fun j c m => if tk j = 13 then okP (j + 1) c m else erP j else pBase tk nm i
def pLine (i : Nat) : PR (Nat × MSK) := if tk i = 3 then (if tk (i + 1) = 2 ∧ nm (i + 1) ≤ 3 then (if tk (i + 2) = 4 then bdP (pOrs tk (pAtom tk nm 6) (i + 3)) fun j c m => okP j c (nm (i + 1), m) else okP (i + 2) [] (nm (i + 1), fun _ _ => true)) else erP (i + 1)) else erP i
abbrev LNS := List (Nat × List (Nat × Nat) × MSK)
def pLns : Nat → Nat → PR LNS
  | 0, i => erP i
  | n + 1, i => bdP (pLine tk nm i) fun j c v => if tk j = 17 then bdP (pLns n (j + 1)) fun k _ ls => okP k [] ((v.1, c, v.2) :: ls) else if tk j = 0 then okP j [] [(v.1, c, v.2)] else erP j
def pText : PR LNS := if tk 0 = 0 then okP 0 [] [] else pLns tk nm 10 0
end PS
/-- what it comes to -/
def EVs (c : List (Nat × Nat)) (s : SUM) : Prop := ∀ l T f b st, rn l T f b c st = some (vlS s T l f :: st)
def EVc (c : List (Nat × Nat)) (m : MSK) : Prop := ∀ l T f b st, l ≤ 7 → f ≤ 2 → b ≤ 1 → rn l T f b c st = some (cond (m T ((f * 2 + b) * 8 + l)) 1 0 :: st)
def CB (c : List (Nat × Nat)) : Prop := ∀ x ∈ c, x.1 ≤ 17 ∧ x.2 ≤ 99
theorem rn_app {l T f b : Nat} : ∀ {c d : List (Nat × Nat)} {st st' : List Nat}, rn l T f b c st = some st' → rn l T f b (c ++ d) st = rn l T f b d st'
  | [], d, st, st', h => by
    cases h
    rfl
  | (s, n) :: c, d, st, st', h => by
    have h : (match stp l T f b s n st with
      | some st => rn l T f b c st
      | none => none) = some st' := h
    show (match stp l T f b s n st with
      | some st => rn l T f b (c ++ d) st
      | none => none) = _
    cases hs : stp l T f b s n st with
    | none => rw [hs] at h; cases h
    | some st1 =>
      rw [hs] at h
      exact rn_app h
theorem CB.app {c d : List (Nat × Nat)} (h : CB c) (h2 : CB d) : CB (c ++ d) := fun x hx => by
  rcases List.mem_append.mp hx with q | q
  · exact h x q
  · exact h2 x q
theorem CB.one {s n : Nat} (h : s ≤ 17) (h2 : n ≤ 99) : CB [(s, n)] := fun x hx => by
  rw [List.mem_singleton] at hx
  rw [hx]
  exact ⟨h, h2⟩
/-- what a reading that succeeds is: so long a code from i on, within the things, with its meaning -/
def GD {σ : Type} (N : Nat) (E : List (Nat × Nat) → σ → Prop) (i j : Nat) (c : List (Nat × Nat)) (s : σ) : Prop := i + c.length ≤ j ∧ i < j ∧ j ≤ N ∧ CB c ∧ E c s
section GDs
variable {σ : Type} {N : Nat} {E : List (Nat × Nat) → σ → Prop} {i j : Nat} {c : List (Nat × Nat)} {s : σ}
theorem GD.len (h : GD N E i j c s) : i + c.length ≤ j := h.1
theorem GD.up (h : GD N E i j c s) : i < j := h.2.1
theorem GD.le (h : GD N E i j c s) : j ≤ N := h.2.2.1
theorem GD.cb (h : GD N E i j c s) : CB c := h.2.2.2.1
theorem GD.ev (h : GD N E i j c s) : E c s := h.2.2.2.2
end GDs
section PV
variable {tk nm : Nat → Nat} {N : Nat}
theorem pPart_g (hN : ∀ i, tk i ≠ 0 → i < N) (hm : ∀ i, nm i ≤ 99) {i j : Nat} {c : List (Nat × Nat)} {s : SUM} (h : pPart tk nm i = okP j c s) : GD N EVs i j c s := by
  unfold pPart at h
  split at h
  · rename_i e
    cases h
    exact ⟨Nat.le_refl _, by omega, hN i (by omega), CB.one (by decide) (hm i), fun l T f b st => by
      show some (nm i :: st) = some ((nm i + 0 * l + 0 * f) :: st)
      rw [Nat.zero_mul, Nat.zero_mul]
      rfl⟩
  · split at h
    · cases h
      exact ⟨Nat.le_refl _, by omega, hN i (by omega), CB.one (by decide) (by decide), fun l T f b st => by
        show some (T :: st) = some ((T + 0 * l + 0 * f) :: st)
        rw [Nat.zero_mul, Nat.zero_mul]
        rfl⟩
    · split at h
      · cases h
        exact ⟨Nat.le_refl _, by omega, hN i (by omega), CB.one (by decide) (by decide), fun l T f b st => by
          show some (l :: st) = some ((0 + 1 * l + 0 * f) :: st)
          rw [show 0 + 1 * l + 0 * f = l by omega]⟩
      · split at h
        · cases h
          exact ⟨Nat.le_refl _, by omega, hN i (by omega), CB.one (by decide) (by decide), fun l T f b st => by
            show some (f :: st) = some ((0 + 0 * l + 1 * f) :: st)
            rw [show 0 + 0 * l + 1 * f = f by omega]⟩
        · cases h
theorem bd_ok {σ τ : Type} {p : PR σ} {k : Nat → List (Nat × Nat) → σ → PR τ} {j : Nat} {c : List (Nat × Nat)} {s : τ} (h : bdP p k = okP j c s) : ∃ j1 c1 s1, p = okP j1 c1 s1 ∧ k j1 c1 s1 = okP j c s := by
  match p, h with
  | .inl e, h => cases h
  | .inr (j1, c1, s1), h => exact ⟨j1, c1, s1, rfl, h⟩
theorem adS_v (s r : SUM) (T l f : Nat) : vlS (adS s r) T l f = vlS s T l f + vlS r T l f := by
  show s.1 T + r.1 T + (s.2.1 + r.2.1) * l + (s.2.2 + r.2.2) * f = s.1 T + s.2.1 * l + s.2.2 * f + (r.1 T + r.2.1 * l + r.2.2 * f)
  rw [Nat.add_mul, Nat.add_mul]
  omega
theorem pSumL_g (hN : ∀ i, tk i ≠ 0 → i < N) (hm : ∀ i, nm i ≤ 99) : ∀ n {i0 i j : Nat} {c c' : List (Nat × Nat)} {s s' : SUM}, GD N EVs i0 i c s → pSumL tk nm n i c s = okP j c' s' → GD N EVs i0 j c' s' := fun n => by
  induction n with
  | zero =>
    intro i0 i j c c' s s' g h
    cases h
    exact g
  | succ n ih =>
    intro i0 i j c c' s s' g h
    unfold pSumL at h
    split at h
    · obtain ⟨j1, d, r, h1, h2⟩ := bd_ok h
      have g1 := pPart_g hN hm h1
      refine ih ⟨?_, ?_, g1.le, g.cb.app (g1.cb.app (CB.one (by decide) (by decide))), fun l T f b st => ?_⟩ h2
      · have := g.len
        have := g1.len
        simp only [List.length_append, List.length_cons, List.length_nil]
        omega
      · have := g.up
        have := g1.up
        omega
      · rw [rn_app (g.ev l T f b st), rn_app (g1.ev l T f b _), adS_v]
        rfl
    · cases h
      exact g
theorem pSum_g (hN : ∀ i, tk i ≠ 0 → i < N) (hm : ∀ i, nm i ≤ 99) {i j : Nat} {c : List (Nat × Nat)} {s : SUM} (h : pSum tk nm i = okP j c s) : GD N EVs i j c s := by
  obtain ⟨j1, c1, s1, h1, h2⟩ := bd_ok h
  exact pSumL_g hN hm 400 (pPart_g hN hm h1) h2
theorem pl_i {f b l : Nat} (hl : l ≤ 7) (hb : b ≤ 1) : ((f * 2 + b) * 8 + l) % 8 = l ∧ ((f * 2 + b) * 8 + l) / 16 = f ∧ ((f * 2 + b) * 8 + l) / 8 % 2 = b := by omega
theorem wls_v {s r : SUM} {T f b l : Nat} (hl : l ≤ 7) (hb : b ≤ 1) : wls s r T ((f * 2 + b) * 8 + l) = decide (vlS s T l f < vlS r T l f) := by
  obtain ⟨e1, e2, -⟩ := pl_i (f := f) hl hb
  unfold wls
  rw [e1, e2]
theorem cnd_d {P : Prop} [Decidable P] : (if P then 1 else 0 : Nat) = cond (decide P) 1 0 := by
  by_cases h : P
  · rw [if_pos h, decide_eq_true h]
    rfl
  · rw [if_neg h, decide_eq_false h]
    rfl
theorem pCmp_g (hN : ∀ i, tk i ≠ 0 → i < N) (hm : ∀ i, nm i ≤ 99) {i j : Nat} {c : List (Nat × Nat)} {m : MSK} (h : pCmp tk nm i = okP j c m) : GD N EVc i j c m := by
  obtain ⟨j1, c1, s1, h1, h2⟩ := bd_ok h
  have g := pSum_g hN hm h1
  split at h2
  · obtain ⟨j2, d, r, h3, h4⟩ := bd_ok h2
    have g1 := pSum_g hN hm h3
    cases h4
    have a1 := g.len
    have a2 := g1.len
    have a3 := g.up
    have a4 := g1.up
    refine ⟨by simp only [List.length_append, List.length_cons, List.length_nil]; omega, by omega, g1.le, g.cb.app (g1.cb.app (CB.one (by decide) (by decide))), fun l T f b st hl hf hb => ?_⟩
    rw [rn_app (g.ev l T f b st), rn_app (g1.ev l T f b _), wls_v hl hb, ← cnd_d]
    rfl
  · split at h2
    · obtain ⟨j2, d, r, h3, h4⟩ := bd_ok h2
      have g1 := pSum_g hN hm h3
      cases h4
      have a1 := g.len
      have a2 := g1.len
      have a3 := g.up
      have a4 := g1.up
      refine ⟨by simp only [List.length_append, List.length_cons, List.length_nil]; omega, by omega, g1.le, g.cb.app (g1.cb.app (CB.one (by decide) (by decide))), fun l T f b st hl hf hb => ?_⟩
      rw [rn_app (g.ev l T f b st), rn_app (g1.ev l T f b _), wls_v hl hb, ← cnd_d]
      rfl
    · cases h2
theorem pBase_g (hN : ∀ i, tk i ≠ 0 → i < N) (hm : ∀ i, nm i ≤ 99) {i j : Nat} {c : List (Nat × Nat)} {m : MSK} (h : pBase tk nm i = okP j c m) : GD N EVc i j c m := by
  unfold pBase at h
  split at h
  · cases h
    refine ⟨Nat.le_refl _, by omega, hN i (by omega), CB.one (by decide) (by decide), fun l T f b st hl hf hb => ?_⟩
    obtain ⟨-, -, e⟩ := pl_i (f := f) hl hb
    show some (b :: st) = some (cond (decide (((f * 2 + b) * 8 + l) / 8 % 2 = 1)) 1 0 :: st)
    rw [e, ← cnd_d]
    by_cases hb1 : b = 1
    · rw [if_pos hb1, hb1]
    · rw [if_neg hb1, show b = 0 by omega]
  · exact pCmp_g hN hm h
theorem pAndL_g (hN : ∀ i, tk i ≠ 0 → i < N) {A : Nat → PR MSK} (hA : ∀ i j c m, A i = okP j c m → GD N EVc i j c m) : ∀ n {i0 i j : Nat} {c c' : List (Nat × Nat)} {s s' : MSK}, GD N EVc i0 i c s → pAndL tk A n i c s = okP j c' s' → GD N EVc i0 j c' s' := fun n => by
  induction n with
  | zero =>
    intro i0 i j c c' s s' g h
    cases h
    exact g
  | succ n ih =>
    intro i0 i j c c' s s' g h
    unfold pAndL at h
    split at h
    · obtain ⟨j1, d, r, h1, h2⟩ := bd_ok h
      have g1 := hA _ _ _ _ h1
      have a1 := g.len
      have a2 := g1.len
      have a3 := g.up
      have a4 := g1.up
      refine ih ⟨by simp only [List.length_append, List.length_cons, List.length_nil]; omega, by omega, g1.le, g.cb.app (g1.cb.app (CB.one (by decide) (by decide))), fun l T f b st hl hf hb => ?_⟩ h2
      rw [rn_app (g.ev l T f b st hl hf hb), rn_app (g1.ev l T f b _ hl hf hb)]
      show _ = some (cond (s T ((f * 2 + b) * 8 + l) && r T ((f * 2 + b) * 8 + l)) 1 0 :: st)
      cases s T ((f * 2 + b) * 8 + l) <;> cases r T ((f * 2 + b) * 8 + l) <;> rfl
    · cases h
      exact g
theorem pAnds_g (hN : ∀ i, tk i ≠ 0 → i < N) {A : Nat → PR MSK} (hA : ∀ i j c m, A i = okP j c m → GD N EVc i j c m) {i j : Nat} {c : List (Nat × Nat)} {m : MSK} (h : pAnds tk A i = okP j c m) : GD N EVc i j c m := by
  obtain ⟨j1, c1, s1, h1, h2⟩ := bd_ok h
  exact pAndL_g hN hA 400 (hA _ _ _ _ h1) h2
theorem pOrL_g (hN : ∀ i, tk i ≠ 0 → i < N) {A : Nat → PR MSK} (hA : ∀ i j c m, A i = okP j c m → GD N EVc i j c m) : ∀ n {i0 i j : Nat} {c c' : List (Nat × Nat)} {s s' : MSK}, GD N EVc i0 i c s → pOrL tk A n i c s = okP j c' s' → GD N EVc i0 j c' s' := fun n => by
  induction n with
  | zero =>
    intro i0 i j c c' s s' g h
    cases h
    exact g
  | succ n ih =>
    intro i0 i j c c' s s' g h
    unfold pOrL at h
    split at h
    · obtain ⟨j1, d, r, h1, h2⟩ := bd_ok h
      have g1 := pAnds_g hN hA h1
      have a1 := g.len
      have a2 := g1.len
      have a3 := g.up
      have a4 := g1.up
      refine ih ⟨by simp only [List.length_append, List.length_cons, List.length_nil]; omega, by omega, g1.le, g.cb.app (g1.cb.app (CB.one (by decide) (by decide))), fun l T f b st hl hf hb => ?_⟩ h2
      rw [rn_app (g.ev l T f b st hl hf hb), rn_app (g1.ev l T f b _ hl hf hb)]
      show _ = some (cond (s T ((f * 2 + b) * 8 + l) || r T ((f * 2 + b) * 8 + l)) 1 0 :: st)
      cases s T ((f * 2 + b) * 8 + l) <;> cases r T ((f * 2 + b) * 8 + l) <;> rfl
    · cases h
      exact g
theorem pOrs_g (hN : ∀ i, tk i ≠ 0 → i < N) {A : Nat → PR MSK} (hA : ∀ i j c m, A i = okP j c m → GD N EVc i j c m) {i j : Nat} {c : List (Nat × Nat)} {m : MSK} (h : pOrs tk A i = okP j c m) : GD N EVc i j c m := by
  obtain ⟨j1, c1, s1, h1, h2⟩ := bd_ok h
  exact pOrL_g hN hA 400 (pAnds_g hN hA h1) h2
theorem pAtom_g (hN : ∀ i, tk i ≠ 0 → i < N) (hm : ∀ i, nm i ≤ 99) : ∀ r i j c m, pAtom tk nm r i = okP j c m → GD N EVc i j c m := fun r => by
  induction r with
  | zero =>
    intro i j c m h
    unfold pAtom at h
    split at h
    · cases h
    · exact pBase_g hN hm h
  | succ r ih =>
    intro i j c m h
    unfold pAtom at h
    split at h
    · obtain ⟨j1, c1, s1, h1, h2⟩ := bd_ok h
      have g := ih _ _ _ _ h1
      cases h2
      have a1 := g.len
      have a3 := g.up
      refine ⟨by simp only [List.length_append, List.length_cons, List.length_nil]; omega, by omega, g.le, g.cb.app (CB.one (by decide) (by decide)), fun l T f b st hl hf hb => ?_⟩
      rw [rn_app (g.ev l T f b st hl hf hb)]
      show rn l T f b [(15, 0)] _ = some (cond (!s1 T ((f * 2 + b) * 8 + l)) 1 0 :: st)
      cases s1 T ((f * 2 + b) * 8 + l) <;> rfl
    · split at h
      · obtain ⟨j1, c1, s1, h1, h2⟩ := bd_ok h
        have g := pOrs_g hN ih h1
        split at h2
        · cases h2
          have a1 := g.len
          have a3 := g.up
          exact ⟨by omega, by omega, hN j1 (by omega), g.cb, g.ev⟩
        · cases h2
      · exact pBase_g hN hm h
end PV
