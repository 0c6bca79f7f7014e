/-! MATHEMATICS: polynomials as functions. -/
def pv (c : Nat → Int) (n : Nat) (x : Int) : Int := sm (fun k => c k * x ^ k) n
/-- of degree below n -/
def Pol (n : Nat) (f : Int → Int) : Prop := ∃ c : Nat → Int, ∀ x, f x = pv c n x
theorem pv_s (c : Nat → Int) (n : Nat) (x : Int) : pv c (n + 1) x = c 0 + x * pv (fun k => c (k + 1)) n x := by
  unfold pv
  rw [sm_front, ← sm_mul]
  congr 1
  · simp
  · exact sm_congr fun j _ => by rw [Int.pow_succ]; grind
theorem pv_zero : ∀ (n : Nat) (c : Nat → Int), (∀ x, x ≠ 0 → pv c n x = 0) → ∀ k, k < n → c k = 0
  | 0, _, _, k, hk => absurd hk (Nat.not_lt_zero k)
  | n + 1, c, h, k, hk => by
    have h0 : c 0 = 0 := by
      have hx : ((c 0).natAbs : Int) + 1 ≠ 0 := by omega
      have h1 := h _ hx
      rw [pv_s] at h1
      have hd : (((c 0).natAbs : Int) + 1) ∣ c 0 := ⟨-pv (fun k => c (k + 1)) n (((c 0).natAbs : Int) + 1), by grind⟩
      have := Int.eq_zero_of_dvd_of_natAbs_lt_natAbs hd (by omega)
      exact this
    have hq : ∀ x, x ≠ 0 → pv (fun k => c (k + 1)) n x = 0 := fun x hx => by
      have h1 := h x hx
      rw [pv_s, h0, Int.zero_add] at h1
      rcases Int.mul_eq_zero.mp h1 with q | q
      · exact absurd q hx
      · exact q
    match k, hk with
    | 0, _ => exact h0
    | k + 1, hk => exact pv_zero n _ hq k (by omega)
theorem pv_sub (c e : Nat → Int) (n : Nat) (x : Int) : pv (fun k => c k + -1 * e k) n x = pv c n x - pv e n x := by
  unfold pv
  have h : sm (fun k => (c k + -1 * e k) * x ^ k) n = sm (fun k => c k * x ^ k) n + -1 * sm (fun k => e k * x ^ k) n := by
    rw [← sm_mul, ← sm_add]
    exact sm_congr fun j _ => by grind
  rw [h]; omega
theorem pv_inj {n : Nat} {c e : Nat → Int} (h : ∀ x, x ≠ 0 → pv c n x = pv e n x) : ∀ k, k < n → c k = e k := fun k hk => by
  have h1 := pv_zero n (fun k => c k + -1 * e k) (fun x hx => by rw [pv_sub, h x hx]; omega) k hk
  omega
theorem sm_tail {f : Nat → Int} {n : Nat} : ∀ m, (∀ j, n ≤ j → j < n + m → f j = 0) → sm f (n + m) = sm f n
  | 0, _ => rfl
  | m + 1, h => by
    show sm f (n + m) + f (n + m) = sm f n
    rw [sm_tail m (fun j h1 h2 => h j h1 (by omega)), h (n + m) (by omega) (by omega)]
    omega
theorem pv_ext {c : Nat → Int} {n m : Nat} (h : n ≤ m) (x : Int) : pv (fun k => if k < n then c k else 0) m x = pv c n x := by
  obtain ⟨e, rfl⟩ : ∃ e, m = n + e := ⟨m - n, by omega⟩
  unfold pv
  rw [sm_tail e (fun j h1 _ => by dsimp only; rw [if_neg (by omega), Int.zero_mul])]
  exact sm_congr fun j hj => by dsimp only; rw [if_pos hj]
theorem Pol.le {n m : Nat} {f : Int → Int} (h : Pol n f) (hnm : n ≤ m) : Pol m f := by
  obtain ⟨c, hc⟩ := h
  exact ⟨_, fun x => by rw [hc, pv_ext hnm]⟩
theorem Pol.add {n : Nat} {f g : Int → Int} (h : Pol n f) (h2 : Pol n g) : Pol n (fun x => f x + g x) := by
  obtain ⟨c, hc⟩ := h
  obtain ⟨e, he⟩ := h2
  refine ⟨fun k => c k + e k, fun x => ?_⟩
  dsimp only
  rw [hc, he]
  unfold pv
  rw [← sm_add]
  exact sm_congr fun j _ => by grind
theorem Pol.mul {n : Nat} {f : Int → Int} (h : Pol n f) (a : Int) : Pol n (fun x => a * f x) := by
  obtain ⟨c, hc⟩ := h
  refine ⟨fun k => a * c k, fun x => ?_⟩
  dsimp only
  rw [hc]
  unfold pv
  rw [← sm_mul]
  exact sm_congr fun j _ => by grind
theorem Pol.zero {n : Nat} : Pol n (fun _ => 0) := ⟨fun _ => 0, fun x => by
  unfold pv
  have : sm (fun k => (0 : Int) * x ^ k) n = 0 * sm (fun k => x ^ k) n := sm_mul 0 _ n
  rw [this, Int.zero_mul]⟩
theorem Pol.con {n : Nat} (a : Int) : Pol (n + 1) (fun _ => a) := ⟨fun k => if k = 0 then a else 0, fun x => by
  rw [pv_s, if_pos rfl]
  have : pv (fun k => if k + 1 = 0 then a else 0) n x = 0 := by
    unfold pv
    have : sm (fun k => (if k + 1 = 0 then a else 0) * x ^ k) n = sm (fun k => 0 * x ^ k) n := sm_congr fun j _ => by rw [if_neg (by omega)]
    rw [this, sm_mul, Int.zero_mul]
  rw [this]; simp⟩
theorem Pol.shift {n : Nat} {f : Int → Int} (h : Pol n f) : Pol (n + 1) (fun x => x * f x) := by
  obtain ⟨c, hc⟩ := h
  refine ⟨fun k => match k with | 0 => 0 | k + 1 => c k, fun x => ?_⟩
  rw [pv_s]
  show x * f x = 0 + x * pv c n x
  rw [hc]; omega
theorem Pol.aff {n : Nat} {f : Int → Int} (h : Pol n f) (a b : Int) : Pol (n + 1) (fun x => (a + b * x) * f x) := by
  have h1 := ((h.le (Nat.le_succ n)).mul a).add (h.shift.mul b)
  obtain ⟨c, hc⟩ := h1
  exact ⟨c, fun x => by rw [← hc]; dsimp only; grind⟩
theorem Pol.sum {n : Nat} {g : Nat → Int → Int} : ∀ m, (∀ j, j < m → Pol n (g j)) → Pol n (fun x => sm (fun j => g j x) m)
  | 0, _ => Pol.zero
  | m + 1, h => (Pol.sum m (fun j hj => h j (Nat.lt_succ_of_lt hj))).add (h m (Nat.lt_succ_self m))
theorem Pol.of {n : Nat} {f g : Int → Int} (h : Pol n f) (e : ∀ x, g x = f x) : Pol n g := by
  obtain ⟨c, hc⟩ := h
  exact ⟨c, fun x => by rw [e, hc]⟩
/-- rows whose entries are a + b x -/
theorem Pol_ex {n : Nat} {α β : Nat → Int} : ∀ (cs : List Nat) (F : Int → List Nat → Int), (∀ t, t.length + 1 = cs.length → Pol n (fun x => F x t)) → Pol (n + 1) (fun x => ex (fun c => α c + β c * x) (F x) cs)
  | [], F, _ => Pol.zero
  | c :: cs, F, h => by
    have h1 := (((h cs rfl).aff (α c) (β c)).mul (sg cs.length)).add (Pol_ex (α := α) (β := β) cs (fun x t => F x (c :: t)) (fun t ht => h (c :: t) (by simp only [List.length_cons]; omega)))
    exact h1
theorem Pol_DT {α β : Nat → Nat → Int} : ∀ (n : Nat) (cs : List Nat), Pol (n + 1) (fun x => DT (RWs (fun i c => α i c + β i c * x) n) cs)
  | 0, _ => Pol.con 1
  | n + 1, cs => Pol_ex cs _ fun t _ => Pol_DT n t
/-- one column is constant -/
theorem Pol_ex1 {n j : Nat} {α β : Nat → Int} (hb : β j = 0) : ∀ (cs : List Nat) (F : Int → List Nat → Int), (∀ t, t.length + 1 = cs.length → Pol (n + 1) (fun x => F x t)) → (∀ t, t.length + 1 = cs.length → j ∈ t → Pol n (fun x => F x t)) → j ∈ cs → Pol (n + 1) (fun x => ex (fun c => α c + β c * x) (F x) cs)
  | [], F, _, _, h => by cases h
  | c :: cs, F, h, h2, hj => by
    by_cases e : c = j
    · have h1 : Pol (n + 1) (fun x => sg cs.length * ((α c + β c * x) * F x cs)) := by
        refine (((h cs rfl).mul (α c)).mul (sg cs.length)).of fun x => ?_
        rw [e, hb]; grind
      have h3 := Pol_ex (α := α) (β := β) cs (fun x t => F x (c :: t)) (n := n) (fun t ht => h2 (c :: t) (by simp only [List.length_cons]; omega) (by rw [e]; exact List.mem_cons_self))
      exact h1.add h3
    · have hj : j ∈ cs := by
        rcases List.mem_cons.mp hj with q | q
        · exact absurd q.symm e
        · exact q
      have h1 := ((h2 cs rfl hj).aff (α c) (β c)).mul (sg cs.length)
      have h3 := Pol_ex1 (α := α) hb cs (fun x t => F x (c :: t)) (fun t ht => h (c :: t) (by simp only [List.length_cons]; omega)) (fun t ht hjt => h2 (c :: t) (by simp only [List.length_cons]; omega) (List.mem_cons_of_mem _ hjt)) hj
      exact h1.add h3
theorem Pol_DT1 {α β : Nat → Nat → Int} {j : Nat} : ∀ (n : Nat) (cs : List Nat), (∀ i, i < n → β i j = 0) → cs.length = n → j ∈ cs → Pol n (fun x => DT (RWs (fun i c => α i c + β i c * x) n) cs)
  | 0, cs, _, hl, hj => by
    have : cs = [] := List.length_eq_zero_iff.mp hl
    rw [this] at hj; cases hj
  | n + 1, cs, hb, hl, hj => Pol_ex1 (hb n (Nat.lt_succ_self n)) cs _ (fun t _ => Pol_DT n t) (fun t ht hjt => Pol_DT1 n t (fun i hi => hb i (Nat.lt_succ_of_lt hi)) (by omega) hjt) hj
