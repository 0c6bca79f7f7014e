/-! A text's things. -/
def runE (P : Nat → Bool) (tl : Nat) : Nat → Nat → Nat
  | 0, p => p
  | n + 1, p => if p < tl ∧ P p = true then runE P tl n (p + 1) else p
def rE (P : Nat → Bool) (tl p : Nat) : Nat := runE P tl (tl - p) p
theorem rE_s {P : Nat → Bool} {tl p : Nat} (h : p < tl) (hP : P p = true) : rE P tl p = rE P tl (p + 1) := by
  unfold rE
  rw [show tl - p = (tl - (p + 1)) + 1 by omega]
  show (if p < tl ∧ P p = true then runE P tl (tl - (p + 1)) (p + 1) else p) = _
  rw [if_pos ⟨h, hP⟩]
theorem rE_n {P : Nat → Bool} {tl p : Nat} (h : ¬ (p < tl ∧ P p = true)) : rE P tl p = p := by
  unfold rE
  cases e : tl - p with
  | zero => rfl
  | succ n =>
    show (if p < tl ∧ P p = true then runE P tl n (p + 1) else p) = p
    rw [if_neg h]
theorem rE_ge {P : Nat → Bool} {tl : Nat} : ∀ n p, tl - p = n → p ≤ rE P tl p := fun n => by
  induction n with
  | zero => intro p h; rw [rE_n (by omega)]; exact Nat.le_refl _
  | succ n ih =>
    intro p h
    by_cases e : p < tl ∧ P p = true
    · rw [rE_s e.1 e.2]
      have := ih (p + 1) (by omega)
      omega
    · rw [rE_n e]; exact Nat.le_refl _
theorem rE_le {P : Nat → Bool} {tl : Nat} : ∀ n p, tl - p = n → p ≤ tl → rE P tl p ≤ tl := fun n => by
  induction n with
  | zero => intro p h hp; rw [rE_n (by omega)]; exact hp
  | succ n ih =>
    intro p h hp
    by_cases e : p < tl ∧ P p = true
    · rw [rE_s e.1 e.2]
      exact ih (p + 1) (by omega) (by omega)
    · rw [rE_n e]; exact hp
/-- where a run ends its property doesn't hold -/
theorem rE_end {P : Nat → Bool} {tl : Nat} : ∀ n p, tl - p = n → rE P tl p < tl → P (rE P tl p) = false := fun n => by
  induction n with
  | zero =>
    intro p h hp
    rw [rE_n (by omega)] at hp
    omega
  | succ n ih =>
    intro p h hp
    by_cases e : p < tl ∧ P p = true
    · rw [rE_s e.1 e.2] at hp ⊢
      exact ih (p + 1) (by omega) hp
    · rw [rE_n e] at hp ⊢
      cases h2 : P p with
      | false => rfl
      | true => exact absurd ⟨hp, h2⟩ e
def isl (tp : Nat → Int) (j : Nat) : Bool := decide (97 ≤ tp j ∧ tp j ≤ 122)
def idg (tp : Nat → Int) (j : Nat) : Bool := decide (48 ≤ tp j ∧ tp j ≤ 57)
def ibl (tp : Nat → Int) (j : Nat) : Bool := decide (32 ≤ tp j ∧ tp j ≤ 32)
section TK
variable (tp : Nat → Int) (tl : Nat)
def nbk (p : Nat) : Nat := rE (ibl tp) tl p
def enk (p : Nat) : Nat := if isl tp p = true then rE (isl tp) tl (p + 1) else if idg tp p = true then rE (idg tp) tl (p + 1) else p + 1
def spl : Nat → List Nat → Bool
  | _, [] => true
  | p, c :: r => decide (tp p = (c : Int)) && spl (p + 1) r
def isp (p e j : Nat) : Bool := decide (str (70200 + j) ≠ [] ∧ (str (70200 + j)).length = e - p) && spl tp p (str (70200 + j))
def spk (p e : Nat) : Nat → Nat → Nat
  | 0, _ => 1
  | n + 1, j => if isp tp p e j = true then j else spk p e n (j + 1)
def knd (p : Nat) : Nat := if tl ≤ p then 0 else if idg tp p = true then (if enk tp tl p - p ≤ 2 then 2 else 1) else spk tp p (enk tp tl p) 18 0
def nuV (p : Nat) : Nat → Nat
  | 0 => 0
  | n + 1 => nuV p n * 10 + (tp (p + n) - 48).toNat
def nmk (p : Nat) : Nat := if knd tp tl p = 2 then nuV tp p (enk tp tl p - p) else 0
def bgk : Nat → Nat
  | 0 => nbk tp tl 0
  | i + 1 => if bgk i < tl then nbk tp tl (enk tp tl (bgk i)) else bgk i
def tkk (i : Nat) : Nat := knd tp tl (bgk tp tl i)
def nnk (i : Nat) : Nat := nmk tp tl (bgk tp tl i)
end TK
section TL
variable {tp : Nat → Int} {tl : Nat}
theorem enk_gt {p : Nat} : p < enk tp tl p := by
  unfold enk
  split
  · exact rE_ge _ (p + 1) rfl
  · split
    · exact rE_ge _ (p + 1) rfl
    · omega
theorem enk_le {p : Nat} (h : p < tl) : enk tp tl p ≤ tl := by
  unfold enk
  split
  · exact rE_le _ (p + 1) rfl h
  · split
    · exact rE_le _ (p + 1) rfl h
    · omega
theorem nbk_le {p : Nat} (h : p ≤ tl) : nbk tp tl p ≤ tl := rE_le _ p rfl h
theorem nbk_ge {p : Nat} : p ≤ nbk tp tl p := rE_ge _ p rfl
theorem bgk_le : ∀ i, bgk tp tl i ≤ tl
  | 0 => nbk_le (Nat.zero_le _)
  | i + 1 => by
    show (if bgk tp tl i < tl then nbk tp tl (enk tp tl (bgk tp tl i)) else bgk tp tl i) ≤ tl
    split
    · exact nbk_le (enk_le (by assumption))
    · exact bgk_le i
theorem bgk_s {i : Nat} (h : bgk tp tl i < tl) : bgk tp tl (i + 1) = nbk tp tl (enk tp tl (bgk tp tl i)) := if_pos h
theorem bgk_e {i : Nat} (h : ¬ bgk tp tl i < tl) : bgk tp tl (i + 1) = bgk tp tl i := if_neg h
theorem bgk_gt {i : Nat} (h : bgk tp tl i < tl) : bgk tp tl i < bgk tp tl (i + 1) := by
  rw [bgk_s h]
  have a := enk_gt (tp := tp) (tl := tl) (p := bgk tp tl i)
  have b := nbk_ge (tp := tp) (tl := tl) (p := enk tp tl (bgk tp tl i))
  omega
theorem nbk_tl {p : Nat} (h : tl ≤ p) : nbk tp tl p = p := rE_n (by omega)
theorem spk_or (p e : Nat) : ∀ n j, spk tp p e n j = 1 ∨ (j ≤ spk tp p e n j ∧ spk tp p e n j < j + n ∧ isp tp p e (spk tp p e n j) = true)
  | 0, j => Or.inl rfl
  | n + 1, j => by
    show (if isp tp p e j = true then j else spk tp p e n (j + 1)) = 1 ∨ (j ≤ (if isp tp p e j = true then j else spk tp p e n (j + 1)) ∧ (if isp tp p e j = true then j else spk tp p e n (j + 1)) < j + (n + 1) ∧ isp tp p e (if isp tp p e j = true then j else spk tp p e n (j + 1)) = true)
    by_cases h : isp tp p e j = true
    · rw [if_pos h]
      exact Or.inr ⟨Nat.le_refl _, by omega, h⟩
    · rw [if_neg h]
      rcases spk_or p e n (j + 1) with q | ⟨a, b, c⟩
      · exact Or.inl q
      · exact Or.inr ⟨by omega, by omega, c⟩
/-- only one spelling fits -/
theorem spl_len {p : Nat} : ∀ {a b : List Nat}, a.length = b.length → spl tp p a = true → spl tp p b = true → a = b := fun {a} => by
  induction a generalizing p with
  | nil =>
    intro b h _ _
    cases b with
    | nil => rfl
    | cons => cases h
  | cons x r ih =>
    intro b h h1 h2
    cases b with
    | nil => cases h
    | cons y s =>
      have h1 : (decide (tp p = (x : Int)) && spl tp (p + 1) r) = true := h1
      have h2 : (decide (tp p = (y : Int)) && spl tp (p + 1) s) = true := h2
      rw [Bool.and_eq_true, decide_eq_true_iff] at h1 h2
      have e : x = y := by omega
      rw [e, ih (by simpa using h) h1.2 h2.2]
theorem isp_t {p e j : Nat} : isp tp p e j = true ↔ (str (70200 + j) ≠ [] ∧ (str (70200 + j)).length = e - p) ∧ spl tp p (str (70200 + j)) = true := by
  unfold isp
  rw [Bool.and_eq_true, decide_eq_true_iff]
theorem isp_one {p e : Nat} : ∀ {i j : Nat}, i < 18 → j < 18 → isp tp p e i = true → isp tp p e j = true → i = j := fun {i j} hi hj h1 h2 => by
  rw [isp_t] at h1 h2
  have e := spl_len (h1.1.2.trans h2.1.2.symm) h1.2 h2.2
  have u : ∀ i, i < 18 → ∀ j, j < 18 → str (70200 + i) = str (70200 + j) → str (70200 + i) ≠ [] → i = j := by decide
  exact u i hi j hj e h1.1.1
theorem spk_is {p e j : Nat} : ∀ n k, (∀ i, k ≤ i → i < j → isp tp p e i = false) → k ≤ j → j < k + n → isp tp p e j = true → spk tp p e n k = j := fun n => by
  induction n with
  | zero => intro k _ a b; omega
  | succ n ih =>
    intro k h a b hj
    show (if isp tp p e k = true then k else spk tp p e n (k + 1)) = j
    by_cases e : k = j
    · subst e
      rw [if_pos hj]
    · rw [h k (Nat.le_refl _) (by omega), if_neg (by decide)]
      exact ih (k + 1) (fun i a b => h i (by omega) b) (by omega) (by omega) hj
theorem spk_iff {p e j : Nat} (h3 : 3 ≤ j) (hj : j < 18) : spk tp p e 18 0 = j ↔ isp tp p e j = true := by
  constructor
  · intro q
    rcases spk_or (tp := tp) p e 18 0 with a | a
    · omega
    · rw [q] at a
      exact a.2.2
  · intro q
    refine spk_is 18 0 (fun i _ hi => ?_) (Nat.zero_le _) (by omega) q
    cases hc : isp tp p e i with
    | false => rfl
    | true => exact absurd (isp_one (by omega) hj hc q) (by omega)
theorem spk_lt {p e : Nat} : spk tp p e 18 0 < 18 := by
  rcases spk_or (tp := tp) p e 18 0 with a | a
  · omega
  · omega
theorem knd_lt {p : Nat} : knd tp tl p < 18 := by
  unfold knd
  split
  · decide
  · split
    · split <;> decide
    · exact spk_lt
end TL
