/-! The reference: determinants by subsets. -/
theorem sm_upd {f g : Nat → Int} {n j : Nat} (hj : j < n) (h : ∀ i, i < n → i ≠ j → g i = f i) : sm g n = sm f n + (g j - f j) := by
  have h1 := sm_dl (fun i => g i - f i) j n
  rw [if_pos hj] at h1
  rw [← h1, ← sm_add]
  refine sm_congr fun i hi => ?_
  unfold dl
  by_cases e : j = i
  · subst e; rw [if_pos rfl]; omega
  · rw [if_neg e, h i hi (Ne.symm e)]; omega
/-- how many columns stand after this one -/
def aft (e : Nat) : List Nat → Nat
  | [] => 0
  | c :: cs => if c = e then cs.length else aft e cs
def lsm (f : Nat → Int) : List Nat → Int
  | [] => 0
  | c :: cs => f c + lsm f cs
theorem lsm_congr {f g : Nat → Int} : ∀ {cs : List Nat}, (∀ c ∈ cs, f c = g c) → lsm f cs = lsm g cs
  | [], _ => rfl
  | c :: cs, h => by
    show f c + lsm f cs = g c + lsm g cs
    rw [h c List.mem_cons_self, lsm_congr fun e he => h e (List.mem_cons_of_mem _ he)]
theorem ex_lsm (r : Nat → Int) : ∀ (cs : List Nat) (F : List Nat → Int), cs.Nodup → ex r F cs = lsm (fun c => sg (aft c cs) * (r c * F (cs.erase c))) cs
  | [], F, _ => rfl
  | c :: cs, F, h => by
    have hc : c ∉ cs := (List.nodup_cons.mp h).1
    show sg cs.length * (r c * F cs) + ex r (fun t => F (c :: t)) cs = sg (aft c (c :: cs)) * (r c * F ((c :: cs).erase c)) + lsm (fun e => sg (aft e (c :: cs)) * (r e * F ((c :: cs).erase e))) cs
    rw [ex_lsm r cs (fun t => F (c :: t)) (List.nodup_cons.mp h).2]
    have e1 : aft c (c :: cs) = cs.length := if_pos rfl
    have e2 : (c :: cs).erase c = cs := by simp
    rw [e1, e2]
    congr 1
    refine lsm_congr fun e he => ?_
    have hne : c ≠ e := fun q => hc (q ▸ he)
    have e3 : aft e (c :: cs) = aft e cs := if_neg hne
    have e4 : (c :: cs).erase e = c :: cs.erase e := by
      rw [List.erase_cons]
      simp [hne]
    rw [e3, e4]
theorem lsm_app (f : Nat → Int) : ∀ (a b : List Nat), lsm f (a ++ b) = lsm f a + lsm f b
  | [], b => by simp [lsm]
  | c :: a, b => by
    show f c + lsm f (a ++ b) = f c + lsm f a + lsm f b
    rw [lsm_app f a b]; omega
theorem lsm_filter (f : Nat → Int) (p : Nat → Bool) : ∀ n, lsm f ((List.range n).filter p) = sm (fun c => if p c = true then f c else 0) n
  | 0 => rfl
  | n + 1 => by
    rw [List.range_succ, List.filter_append, lsm_app, lsm_filter f p n]
    show _ = sm _ n + _
    have e : lsm f ([n].filter p) = if p n = true then f n else 0 := by
      by_cases h : p n = true
      · rw [if_pos h]; simp [h, lsm]
      · rw [if_neg h]; simp [h, lsm]
    rw [e]
/-- the columns of a subset -/
def cl (S : Nat) : List Nat := (List.range 8).filter fun c => S.testBit c
def pc (S : Nat) : Nat := (cl S).length
def wo (S c : Nat) : Nat := S ^^^ (1 <<< c)
theorem cl_nodup (S : Nat) : (cl S).Nodup := List.Pairwise.filter _ List.nodup_range
theorem cl_wo : ∀ S, S < 256 → ∀ c, c < 8 → S.testBit c = true → (cl S).erase c = cl (wo S c) ∧ (cl S).length = (cl (wo S c)).length + 1 ∧ aft c (cl S) = pc (wo S c >>> c) ∧ wo S c < S ∧ (wo S c).testBit c = false ∧ wo S c ||| 1 <<< c = S := by decide +kernel
theorem cl_wi : ∀ S, S < 256 → ∀ c, c < 8 → S.testBit c = false → wo (S ||| 1 <<< c) c = S ∧ (S ||| 1 <<< c).testBit c = true ∧ S < S ||| 1 <<< c := by decide +kernel
theorem cl_all : ∀ n, n < 9 → cl (2 ^ n - 1) = List.range n := by decide +kernel
theorem in_bit : ∀ S, S < 256 → ∀ c, c < 8 → nI S >>> (nI c &&& 31) = nI (S >>> c) ∧ (nI S ||| (nI 1 <<< (nI c &&& 31))) = nI (S ||| 1 <<< c) ∧ ((nI (S >>> c) &&& nI 1) = nI 1 ↔ S.testBit c = true) := by decide +kernel
theorem in_pow : ∀ n, n < 9 → nI 1 <<< (nI n &&& 31) = nI (2 ^ n) ∧ 2 ^ n ≤ 256 := by decide +kernel
/-- the minor of a subset -/
def mu (A : Nat → Nat → Int) (S : Nat) : Int := DT (RWs A (pc S)) (cl S)
def trm (A : Nat → Nat → Int) (T c : Nat) : Int := sg (pc (wo T c >>> c)) * (A (pc (wo T c)) c * mu A (wo T c))
theorem mu_0 (A : Nat → Nat → Int) : mu A 0 = 1 := rfl
theorem mu_sm (A : Nat → Nat → Int) {T : Nat} (hT : T < 256) (h0 : T ≠ 0) : mu A T = sm (fun c => if T.testBit c = true then trm A T c else 0) 8 := by
  have hne : ∃ c, c < 8 ∧ T.testBit c = true := by
    have : ∀ T, T < 256 → T ≠ 0 → ∃ c, c < 8 ∧ T.testBit c = true := by
      have : ∀ T, T < 256 → T ≠ 0 → (List.range 8).any (fun c => T.testBit c) = true := by decide +kernel
      intro T h1 h2
      obtain ⟨c, hc, h3⟩ := List.any_eq_true.mp (this T h1 h2)
      exact ⟨c, List.mem_range.mp hc, h3⟩
    exact this T hT h0
  obtain ⟨c0, hc0, hb0⟩ := hne
  have hl := (cl_wo T hT c0 hc0 hb0).2.1
  obtain ⟨m, hm⟩ : ∃ m, pc T = m + 1 := ⟨_, hl⟩
  unfold mu
  rw [hm]
  show ex (A m) (DT (RWs A m)) (cl T) = _
  rw [ex_lsm _ _ _ (cl_nodup T)]
  show lsm _ ((List.range 8).filter fun c => T.testBit c) = _
  rw [lsm_filter]
  refine sm_congr fun c hc => ?_
  by_cases hb : T.testBit c = true
  · obtain ⟨p1, p2, p3, -⟩ := cl_wo T hT c hc hb
    have hp : pc (wo T c) = m := by
      have : (cl T).length = m + 1 := hm
      unfold pc; omega
    rw [if_pos hb, if_pos hb, p1, p3]
    unfold trm mu
    rw [hp]
  · rw [if_neg hb, if_neg hb]
/-- what has come to T when S is at work, at column j -/
def PS (A : Nat → Nat → Int) (S j T : Nat) : Int := if T = 0 then 1 else sm (fun c => if T.testBit c = true ∧ (wo T c < S ∨ (wo T c = S ∧ c < j)) then trm A T c else 0) 8
theorem PS_s (A : Nat → Nat → Int) {S T n : Nat} (hn : n ≤ 8) (hT : T < 2 ^ n) : PS A (S + 1) 0 T = PS A S n T := by
  unfold PS
  split
  · rfl
  · refine sm_congr fun c hc => ?_
    by_cases hb : T.testBit c = true
    · have hcn : c < n := by
        rcases Nat.lt_or_ge c n with h | h
        · exact h
        · have : T < 2 ^ c := Nat.lt_of_lt_of_le hT (Nat.pow_le_pow_right (by omega) h)
          rw [Nat.testBit_lt_two_pow this] at hb
          cases hb
      by_cases h : wo T c < S ∨ wo T c = S
      · rw [if_pos ⟨hb, by omega⟩, if_pos ⟨hb, by omega⟩]
      · rw [if_neg (fun q => h (by have := q.2; omega)), if_neg (fun q => h (by have := q.2; omega))]
    · rw [if_neg (fun q => hb q.1), if_neg (fun q => hb q.1)]
theorem PS_mu (A : Nat → Nat → Int) {S : Nat} (hS : S < 256) : PS A S 0 S = mu A S := by
  unfold PS
  by_cases h : S = 0
  · subst h; rfl
  · rw [if_neg h, mu_sm A hS h]
    refine sm_congr fun c hc => ?_
    by_cases hb : S.testBit c = true
    · rw [if_pos hb, if_pos ⟨hb, Or.inl (cl_wo S hS c hc hb).2.2.2.1⟩]
    · rw [if_neg hb, if_neg (fun q => hb q.1)]
theorem PS_no (A : Nat → Nat → Int) {S j T : Nat} (h : ¬ (T.testBit j = true ∧ wo T j = S)) : PS A S (j + 1) T = PS A S j T := by
  unfold PS
  split
  · rfl
  · refine sm_congr fun c hc => ?_
    by_cases hb : T.testBit c = true
    · by_cases h2 : wo T c < S ∨ wo T c = S ∧ c < j
      · rw [if_pos (show T.testBit c = true ∧ (wo T c < S ∨ wo T c = S ∧ c < j + 1) from ⟨hb, by omega⟩), if_pos ⟨hb, h2⟩]
      · have h3 : ¬ (T.testBit c = true ∧ (wo T c < S ∨ wo T c = S ∧ c < j)) := fun q => h2 q.2
        rw [if_neg h3]
        refine if_neg fun q => ?_
        by_cases e : c = j
        · subst e; exact h ⟨hb, by omega⟩
        · exact h2 (by have := q.2; omega)
    · rw [if_neg (fun q => hb q.1), if_neg (fun q => hb q.1)]
theorem PS_yes (A : Nat → Nat → Int) {S j : Nat} (hS : S < 256) (hj : j < 8) (hb : S.testBit j = false) : PS A S (j + 1) (S ||| 1 <<< j) = PS A S j (S ||| 1 <<< j) + sg (pc (S >>> j)) * (A (pc S) j * mu A S) := by
  obtain ⟨p1, p2, p3⟩ := cl_wi S hS j hj hb
  unfold PS
  rw [if_neg (by omega), if_neg (by omega)]
  rw [sm_upd (f := fun c => if (S ||| 1 <<< j).testBit c = true ∧ (wo (S ||| 1 <<< j) c < S ∨ (wo (S ||| 1 <<< j) c = S ∧ c < j)) then trm A (S ||| 1 <<< j) c else 0) hj]
  · congr 1
    show (if _ then _ else _) - (if _ then _ else _) = _
    rw [if_pos ⟨p2, Or.inr ⟨p1, by omega⟩⟩, if_neg (fun q => by have := q.2; rw [p1] at this; omega)]
    unfold trm
    rw [p1]; omega
  · intro c hc hne
    by_cases q : (S ||| 1 <<< j).testBit c = true ∧ (wo (S ||| 1 <<< j) c < S ∨ (wo (S ||| 1 <<< j) c = S ∧ c < j))
    · rw [if_pos q, if_pos ⟨q.1, by have := q.2; omega⟩]
    · rw [if_neg q, if_neg (fun z => q ⟨z.1, by have := z.2; omega⟩)]
