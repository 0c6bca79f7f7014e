/-! MATHEMATICS: squares that lean on their diagonal. -/
def RWs (A : Nat → Nat → Int) : Nat → List (Nat → Int)
  | 0 => []
  | n + 1 => A n :: RWs A n
theorem RWs_len (A : Nat → Nat → Int) : ∀ n, (RWs A n).length = n
  | 0 => rfl
  | n + 1 => by show (RWs A n).length + 1 = n + 1; rw [RWs_len A n]
theorem RWs_mem {A : Nat → Nat → Int} {i : Nat} : ∀ {n}, i < n → A i ∈ RWs A n
  | 0, h => absurd h (Nat.not_lt_zero _)
  | n + 1, h => by
    by_cases e : i = n
    · subst e; exact List.mem_cons_self
    · exact List.mem_cons_of_mem _ (RWs_mem (show i < n by omega))
theorem RWs_in {A : Nat → Nat → Int} {r : Nat → Int} : ∀ {n}, r ∈ RWs A n → ∃ i, i < n ∧ r = A i
  | 0, h => by cases h
  | n + 1, h => by
    rcases List.mem_cons.mp h with e | h
    · exact ⟨n, Nat.lt_succ_self n, e⟩
    · obtain ⟨i, hi, e⟩ := RWs_in h
      exact ⟨i, Nat.lt_succ_of_lt hi, e⟩
def det (A : Nat → Nat → Int) (n : Nat) : Int := DT (RWs A n) (List.range n)
theorem ex_cong2 {r r' : Nat → Int} : ∀ (cs : List Nat) (F F' : List Nat → Int), (∀ c ∈ cs, r c = r' c) → (∀ t, t.length + 1 = cs.length → (∀ c ∈ t, c ∈ cs) → F t = F' t) → ex r F cs = ex r' F' cs
  | [], F, F', _, _ => rfl
  | c :: cs, F, F', h, h2 => by
    show sg cs.length * (r c * F cs) + ex r (fun t => F (c :: t)) cs = sg cs.length * (r' c * F' cs) + ex r' (fun t => F' (c :: t)) cs
    rw [h c List.mem_cons_self, h2 cs rfl (fun q hq => List.mem_cons_of_mem _ hq), ex_cong2 cs (fun t => F (c :: t)) (fun t => F' (c :: t)) (fun q hq => h q (List.mem_cons_of_mem _ hq)) (fun t ht hq => h2 (c :: t) (by simp only [List.length_cons]; omega) (fun q hm => by
      rcases List.mem_cons.mp hm with e | e
      · subst e; exact List.mem_cons_self
      · exact List.mem_cons_of_mem _ (hq q e)))]
theorem DT_cong {A B : Nat → Nat → Int} : ∀ (n : Nat) (cs : List Nat), (∀ i, i < n → ∀ c ∈ cs, A i c = B i c) → DT (RWs A n) cs = DT (RWs B n) cs
  | 0, _, _ => rfl
  | n + 1, cs, h => ex_cong2 cs _ _ (h n (Nat.lt_succ_self n)) fun t _ ht => DT_cong n t fun i hi c hc => h i (Nat.lt_succ_of_lt hi) c (ht c hc)
/-- a map of the columns -/
theorem ex_map (g : Nat → Nat) {r r' : Nat → Int} : ∀ (cs : List Nat) (F F' : List Nat → Int), (∀ c ∈ cs, r (g c) = r' c) → (∀ t, (∀ c ∈ t, c ∈ cs) → F (t.map g) = F' t) → ex r F (cs.map g) = ex r' F' cs
  | [], F, F', _, _ => rfl
  | c :: cs, F, F', h, h2 => by
    show sg (cs.map g).length * (r (g c) * F (cs.map g)) + ex r (fun t => F (g c :: t)) (cs.map g) = sg cs.length * (r' c * F' cs) + ex r' (fun t => F' (c :: t)) cs
    rw [h c List.mem_cons_self, h2 cs (fun q hq => List.mem_cons_of_mem _ hq), List.length_map, ex_map g cs (fun t => F (g c :: t)) (fun t => F' (c :: t)) (fun q hq => h q (List.mem_cons_of_mem _ hq)) (fun t hq => h2 (c :: t) (fun q hm => by
      rcases List.mem_cons.mp hm with e | e
      · subst e; exact List.mem_cons_self
      · exact List.mem_cons_of_mem _ (hq q e)))]
theorem DT_map (g : Nat → Nat) {A B : Nat → Nat → Int} : ∀ (n : Nat) (cs : List Nat), (∀ i, i < n → ∀ c ∈ cs, A i (g c) = B i c) → DT (RWs A n) (cs.map g) = DT (RWs B n) cs
  | 0, _, _ => rfl
  | n + 1, cs, h => ex_map g cs _ _ (h n (Nat.lt_succ_self n)) fun t ht => DT_map g n t fun i hi c hc => h i (Nat.lt_succ_of_lt hi) c (ht c hc)
/-- a column beside the square -/
def withC (A : Nat → Nat → Int) (n : Nat) (b : Nat → Int) (i c : Nat) : Int := if c = n then b i else A i c
/-- the square with column j told otherwise -/
def colR (A : Nat → Nat → Int) (j : Nat) (b : Nat → Int) (i c : Nat) : Int := if c = j then b i else A i c
theorem set_map {n j s : Nat} (hj : j < n) : (List.range n).set j s = (List.range n).map (fun c => if c = j then s else c) := by
  apply List.ext_getElem?
  intro i
  rw [List.getElem?_map]
  by_cases h : i < n
  · rw [List.getElem?_range h]
    by_cases e : i = j
    · subst e
      rw [List.getElem?_set_self (by rw [List.length_range]; exact hj)]
      simp
    · rw [List.getElem?_set_ne (Ne.symm e), List.getElem?_range h]
      simp [e]
  · rw [List.getElem?_eq_none (by rw [List.length_set, List.length_range]; omega), List.getElem?_eq_none (by rw [List.length_range]; omega)]
    rfl
/-- Cramer's numbers -/
def crm (A : Nat → Nat → Int) (n : Nat) (b : Nat → Int) (j : Nat) : Int := det (colR A j b) n
theorem cramer_n (A : Nat → Nat → Int) (n : Nat) (b : Nat → Int) {i : Nat} (hi : i < n) : sm (fun j => A i j * crm A n b j) n = det A n * b i := by
  have h1 := cramer (y := withC A n b i) (s := n) (rs := RWs (withC A n b) n) (cs := List.range n) (RWs_mem hi) (by rw [List.length_range, RWs_len])
  have h2 : DT (RWs (withC A n b) n) (List.range n) = det A n := DT_cong n _ fun i _ c hc => by
    unfold withC
    rw [if_neg (by have := List.mem_range.mp hc; omega)]
  rw [smS_sm, h2, List.length_range] at h1
  have h3 : withC A n b i n = b i := by unfold withC; rw [if_pos rfl]
  rw [h3, Int.mul_comm] at h1
  rw [h1]
  refine sm_congr fun j hj => ?_
  have h4 : (List.range n).getD j 0 = j := by rw [List.getD_eq_getElem?_getD, List.getElem?_range hj]; rfl
  have h5 : withC A n b i j = A i j := by unfold withC; rw [if_neg (by omega)]
  have h6 : DT (RWs (withC A n b) n) ((List.range n).set j n) = crm A n b j := by
    rw [set_map hj]
    refine DT_map _ n _ fun i _ c hc => ?_
    have hcn := List.mem_range.mp hc
    unfold withC colR
    by_cases e : c = j
    · rw [if_pos e, if_pos rfl, if_pos e]
    · rw [if_neg e, if_neg (by omega), if_neg e]
  rw [h4, h5, h6]
theorem max_at (f : Nat → Int) : ∀ n, 0 < n → ∃ m, m < n ∧ ∀ j, j < n → f j ≤ f m
  | 0, h => absurd h (Nat.lt_irrefl 0)
  | n + 1, _ => by
    by_cases h0 : n = 0
    · subst h0; exact ⟨0, by omega, fun j hj => by rw [show j = 0 by omega]; exact Int.le_refl _⟩
    · obtain ⟨m, hm, h⟩ := max_at f n (by omega)
      by_cases h1 : f m ≤ f n
      · refine ⟨n, by omega, fun j hj => ?_⟩
        by_cases e : j = n
        · subst e; exact Int.le_refl _
        · have := h j (by omega); omega
      · refine ⟨m, by omega, fun j hj => ?_⟩
        by_cases e : j = n
        · subst e; omega
        · exact h j (by omega)
/-- off the diagonal not above 0, each row above 0 in all -/
def MM (A : Nat → Nat → Int) (n : Nat) : Prop := (∀ i j, i < n → j < n → i ≠ j → A i j ≤ 0) ∧ ∀ i, i < n → 0 < sm (A i) n
theorem MM_top {A : Nat → Nat → Int} {n : Nat} (h : MM A n) {z : Nat → Int} {m : Nat} (hm : m < n) (hz : ∀ j, j < n → z j ≤ z m) (h0 : 0 < z m) : 0 < sm (fun j => A m j * z j) n := by
  have h1 : sm (fun j => A m j * z j) n = sm (fun j => A m j * (z j - z m)) n + z m * sm (A m) n := by
    rw [← sm_mul, ← sm_add]
    exact sm_congr fun j _ => by grind
  have h2 : 0 ≤ sm (fun j => A m j * (z j - z m)) n := sm_nonneg fun j hj => by
    by_cases e : m = j
    · subst e; simp
    · have a1 := h.1 m j hm hj e
      have a2 := hz j hj
      exact Int.mul_nonneg_of_nonpos_of_nonpos a1 (by omega)
  have h3 := Int.mul_pos h0 (h.2 m hm)
  omega
theorem MM_pred {A : Nat → Nat → Int} {n : Nat} (h : MM A (n + 1)) : MM A n := by
  refine ⟨fun i j hi hj => h.1 i j (by omega) (by omega), fun i hi => ?_⟩
  have h1 := h.2 i (by omega)
  have h2 := h.1 i n (by omega) (by omega) (by omega)
  have h3 : sm (A i) (n + 1) = sm (A i) n + A i n := rfl
  omega
theorem MM_det : ∀ (n : Nat) (A : Nat → Nat → Int), MM A n → 0 < det A n
  | 0, A, _ => show (0 : Int) < 1 by decide
  | n + 1, A, h => by
    have ih := MM_det n A (MM_pred h)
    let b : Nat → Int := fun i => if i = n then 1 else 0
    have hw : crm A (n + 1) b n = det A n := by
      -- the last column is 1 in the last row alone
      have e1 : crm A (n + 1) b n = ex (colR A n b n) (DT (RWs (colR A n b) n)) (List.range n ++ [n]) := by
        unfold crm det
        rw [List.range_succ]
        rfl
      rw [e1, ex_last (colR A n b n) n (List.range n) n (DT (RWs (colR A n b) n)) (by have := DT_as (RWs (colR A n b) n); rw [RWs_len] at this; exact this) List.length_range]
      have e2 : colR A n b n n = 1 := by unfold colR; rw [if_pos rfl]; exact if_pos rfl
      have e3 : DT (RWs (colR A n b) n) (List.range n) = det A n := DT_cong n _ fun i _ c hc => by
        have := List.mem_range.mp hc
        unfold colR
        rw [if_neg (by omega)]
      have e4 : smS (colR A n b n) (DT (RWs (colR A n b) n)) (List.range n) n = 0 := by
        rw [smS_sm, List.length_range]
        have : sm (fun j => colR A n b n ((List.range n).getD j 0) * DT (RWs (colR A n b) n) ((List.range n).set j n)) n = sm (fun _ => 0 * 0) n := sm_congr fun j hj => by
          rw [DT_nocol (s := n) (RWs (colR A n b) n) ((List.range n).set j n) (by rw [List.length_set, List.length_range, RWs_len]) (by
            refine List.mem_of_getElem? (i := j) ?_
            rw [List.getElem?_set_self (by rw [List.length_range]; exact hj)]) (fun r hr => by
            obtain ⟨i, hi, rfl⟩ := RWs_in hr
            unfold colR
            rw [if_pos rfl]
            exact if_neg (by omega))]
          simp
        rw [this, sm_mul]
        simp
      rw [e2, e3, e4]
      omega
    obtain ⟨m, hm, hmax⟩ := max_at (crm A (n + 1) b) (n + 1) (by omega)
    have hpos : 0 < crm A (n + 1) b m := by have := hmax n (by omega); omega
    have h1 := MM_top h hm hmax hpos
    rw [cramer_n A (n + 1) b hm] at h1
    by_cases e : m = n
    · have hb : b m = 1 := if_pos e
      rw [hb] at h1
      omega
    · have hb : b m = 0 := if_neg e
      rw [hb] at h1
      omega
/-- one answer alone -/
theorem MM_zero {A : Nat → Nat → Int} {n : Nat} (h : MM A n) {z : Nat → Int} (hz : ∀ i, i < n → sm (fun j => A i j * z j) n = 0) : ∀ j, j < n → z j = 0 := by
  have key : ∀ z : Nat → Int, (∀ i, i < n → sm (fun j => A i j * z j) n = 0) → ∀ j, j < n → z j ≤ 0 := by
    intro z hz j hj
    obtain ⟨m, hm, hmax⟩ := max_at z n (by omega)
    by_cases h0 : 0 < z m
    · have h1 := MM_top h hm hmax h0
      rw [hz m hm] at h1
      omega
    · have := hmax j hj
      omega
  intro j hj
  have h1 := key z hz j hj
  have h2 := key (fun j => -1 * z j) (fun i hi => by
    have e : sm (fun j => A i j * (-1 * z j)) n = -1 * sm (fun j => A i j * z j) n := by
      rw [← sm_mul]
      exact sm_congr fun j _ => by grind
    rw [e, hz i hi]; rfl) j hj
  omega
theorem MM_uniq {A : Nat → Nat → Int} {n : Nat} (h : MM A n) {u v : Nat → Int} (hz : ∀ i, i < n → sm (fun j => A i j * u j) n = sm (fun j => A i j * v j) n) : ∀ j, j < n → u j = v j := by
  intro j hj
  have h1 := MM_zero h (z := fun j => u j + -1 * v j) (fun i hi => by
    have e : sm (fun j => A i j * (u j + -1 * v j)) n = sm (fun j => A i j * u j) n + -1 * sm (fun j => A i j * v j) n := by
      rw [← sm_mul, ← sm_add]
      exact sm_congr fun j _ => by grind
    rw [e, hz i hi]
    omega) j hj
  omega
