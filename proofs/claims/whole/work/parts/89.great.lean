/-! MATHEMATICS: how great the numbers are. -/
def bd (X z : Int) : Prop := -X ≤ z ∧ z ≤ X
theorem sm_bd {W x : Nat → Int} {X : Int} (hX : 0 ≤ X) : ∀ {n}, (∀ j, j < n → 0 ≤ W j) → (∀ j, j < n → bd X (x j)) → bd (X * sm W n) (sm (fun j => W j * x j) n)
  | 0, _, _ => by simp [sm, bd]
  | n + 1, hW, hx => by
    obtain ⟨h1, h2⟩ := sm_bd hX (n := n) (fun j hj => hW j (by omega)) (fun j hj => hx j (by omega))
    obtain ⟨a1, a2⟩ := hx n (by omega)
    have hw := hW n (by omega)
    have b1 : W n * x n ≤ W n * X := Int.mul_le_mul_of_nonneg_left a2 hw
    have b2 : W n * -X ≤ W n * x n := Int.mul_le_mul_of_nonneg_left a1 hw
    show bd (X * (sm W n + W n)) (sm (fun j => W j * x j) n + W n * x n)
    rw [Int.mul_add, Int.mul_comm X (W n)]
    rw [Int.mul_neg] at b2
    exact ⟨by omega, by omega⟩
theorem sm_bd1 {x : Nat → Int} {X : Int} (n : Nat) (hx : ∀ j, j < n → bd X (x j)) : bd ((n : Int) * X) (sm x n) := by
  induction n with
  | zero => simp [sm, bd]
  | succ n ih =>
    obtain ⟨h1, h2⟩ := ih (fun j hj => hx j (by omega))
    obtain ⟨a1, a2⟩ := hx n (by omega)
    show bd (((n + 1 : Nat) : Int) * X) (sm x n + x n)
    have : ((n + 1 : Nat) : Int) * X = (n : Int) * X + X := by push_cast; grind
    rw [this]
    exact ⟨by omega, by omega⟩
theorem FLP_bd {W : Nat → Nat → Int} {n : Nat} {C : Nat → Int} {B : Nat → Nat → Nat → Int} (h : FLP W n C B) (hn : n ≤ 8) (hW : ∀ i j, i < n → j < n → 0 ≤ W i j) (hr : ∀ i, i < n → sm (W i) n ≤ 4) : ∀ m, m < n → (∀ i j, i < n → j < n → bd (36 ^ m) (B m i j)) ∧ bd (32 * 36 ^ m) (sm (fun i => sm (fun j => W i j * B m j i) n) n) ∧ bd (32 * 36 ^ m) (C (m + 1)) ∧ ∀ i j, i < n → j < n → bd (4 * 36 ^ m) (sm (fun k => W i k * B m k j) n) := by
  have row : ∀ m, (∀ i j, i < n → j < n → bd (36 ^ m) (B m i j)) → ∀ i j, i < n → j < n → bd (4 * 36 ^ m) (sm (fun k => W i k * B m k j) n) := by
    intro m hB i j hi hj
    have hp : (0 : Int) ≤ 36 ^ m := Int.le_of_lt (Int.pow_pos (by decide))
    obtain ⟨h1, h2⟩ := sm_bd (x := fun k => B m k j) hp (fun k hk => hW i k hi hk) (fun k hk => hB k j hk hj)
    have h3 : (36 : Int) ^ m * sm (W i) n ≤ 36 ^ m * 4 := Int.mul_le_mul_of_nonneg_left (hr i hi) hp
    exact ⟨by omega, by omega⟩
  have rest : ∀ m, m < n → (∀ i j, i < n → j < n → bd (36 ^ m) (B m i j)) → bd (32 * 36 ^ m) (sm (fun i => sm (fun j => W i j * B m j i) n) n) ∧ bd (32 * 36 ^ m) (C (m + 1)) := by
    intro m hm hB
    have hp : (0 : Int) ≤ 36 ^ m := Int.le_of_lt (Int.pow_pos (by decide))
    have h1 := sm_bd1 (X := 4 * 36 ^ m) n (fun i hi => row m hB i i hi hi)
    have h2 : (n : Int) * (4 * 36 ^ m) ≤ 8 * (4 * 36 ^ m) := Int.mul_le_mul_of_nonneg_right (by omega) (by omega)
    have ht : bd (32 * 36 ^ m) (sm (fun i => sm (fun j => W i j * B m j i) n) n) := ⟨by have := h1.1; omega, by have := h1.2; omega⟩
    refine ⟨ht, ?_⟩
    have h3 := h.2.2.1 (m + 1) (by omega) (by omega)
    rw [Nat.add_sub_cancel] at h3
    obtain ⟨t1, t2⟩ := ht
    have hm1 : (1 : Int) ≤ ((m + 1 : Nat) : Int) := by omega
    refine ⟨?_, ?_⟩
    · by_cases hc : C (m + 1) ≤ 0
      · have : ((m + 1 : Nat) : Int) * C (m + 1) ≤ 1 * C (m + 1) := Int.mul_le_mul_of_nonpos_right hm1 hc
        omega
      · omega
    · by_cases hc : 0 ≤ C (m + 1)
      · have : 1 * C (m + 1) ≤ ((m + 1 : Nat) : Int) * C (m + 1) := Int.mul_le_mul_of_nonneg_right hm1 hc
        omega
      · omega
  have all : ∀ m, m < n → ∀ i j, i < n → j < n → bd (36 ^ m) (B m i j) := by
    intro m
    induction m with
    | zero =>
      intro _ i j hi hj
      rw [h.2.1 i j hi hj]
      unfold dl bd
      split <;> simp
    | succ m ih =>
      intro hm i j hi hj
      have hB := ih (by omega)
      obtain ⟨r1, r2⟩ := row m hB i j hi hj
      obtain ⟨-, c1, c2⟩ := rest m (by omega) hB
      have h3 := h.2.2.2.1 (m + 1) (by omega) hm i j hi hj
      rw [Nat.add_sub_cancel] at h3
      have hp : (0 : Int) ≤ 36 ^ m := Int.le_of_lt (Int.pow_pos (by decide))
      have hd : bd (32 * 36 ^ m) (C (m + 1) * dl i j) := by
        unfold dl
        split
        · rw [Int.mul_one]; exact ⟨c1, c2⟩
        · rw [Int.mul_zero]; exact ⟨by omega, by omega⟩
      rw [h3, Int.pow_succ]
      exact ⟨by have := hd.1; omega, by have := hd.2; omega⟩
  intro m hm
  exact ⟨all m hm, (rest m hm (all m hm)).1, (rest m hm (all m hm)).2, row m (all m hm)⟩
theorem MM_top2 {A : Nat → Nat → Int} {n : Nat} (h : MM A n) {z : Nat → Int} {m : Nat} (hm : m < n) (hz : ∀ j, j < n → z j ≤ z m) : z m * sm (A m) n ≤ sm (fun j => A m j * z j) n := by
  have h1 : sm (fun j => A m j * z j) n = sm (fun j => A m j * (z j - z m)) n + z m * sm (A m) n := by
    rw [← sm_mul, ← sm_add]
    exact sm_congr fun j _ => by grind
  have h2 : 0 ≤ sm (fun j => A m j * (z j - z m)) n := sm_nonneg fun j hj => by
    by_cases e : m = j
    · subst e; simp
    · have a1 := h.1 m j hm hj e
      have a2 := hz j hj
      exact Int.mul_nonneg_of_nonpos_of_nonpos a1 (by omega)
  omega
/-- an answer is no greater than its right side over the least row -/
theorem MM_bd {A : Nat → Nat → Int} {n : Nat} (h : MM A n) {u : Nat → Int} {V R : Int} (hV : 0 ≤ V) (hR : ∀ i, i < n → R ≤ sm (A i) n) (hR0 : 0 < R) (hu : ∀ i, i < n → bd V (sm (fun j => A i j * u j) n)) : ∀ j, j < n → -V ≤ u j * R ∧ u j * R ≤ V := by
  have key : ∀ u : Nat → Int, (∀ i, i < n → sm (fun j => A i j * u j) n ≤ V) → ∀ j, j < n → u j * R ≤ V := by
    intro u hu j hj
    obtain ⟨m, hm, hmax⟩ := max_at u n (by omega)
    have h1 := MM_top2 h hm hmax
    have h2 := hu m hm
    by_cases h0 : 0 ≤ u m
    · have h3 : u m * R ≤ u m * sm (A m) n := Int.mul_le_mul_of_nonneg_left (hR m hm) h0
      have h4 : u j * R ≤ u m * R := Int.mul_le_mul_of_nonneg_right (hmax j hj) (by omega)
      omega
    · have h4 : u j * R ≤ 0 := Int.mul_nonpos_of_nonpos_of_nonneg (by have := hmax j hj; omega) (by omega)
      omega
  intro j hj
  refine ⟨?_, key u (fun i hi => (hu i hi).2) j hj⟩
  have h1 := key (fun j => -u j) (fun i hi => by
    have : sm (fun j => A i j * -u j) n = -sm (fun j => A i j * u j) n := by
      rw [← sm_neg]
      exact sm_congr fun j _ => by grind
    rw [this]
    have := (hu i hi).1
    omega) j hj
  have h2 : -u j * R = -(u j * R) := Int.neg_mul _ _
  omega
theorem crm_last (A : Nat → Nat → Int) (n : Nat) : crm A (n + 1) (fun i => dl i n) n = det A n := by
  let b : Nat → Int := fun i => dl i n
  have e1 : crm A (n + 1) b n = ex (colR A n b n) (DT (RWs (colR A n b) n)) (List.range n ++ [n]) := by
    unfold crm det
    rw [List.range_succ]
    rfl
  show crm A (n + 1) b n = _
  rw [e1, ex_last (colR A n b n) n (List.range n) n (DT (RWs (colR A n b) n)) (by have := DT_as (RWs (colR A n b) n); rw [RWs_len] at this; exact this) List.length_range]
  have e2 : colR A n b n n = 1 := by rw [colR_v, if_pos rfl]; exact dl_s n
  have e3 : DT (RWs (colR A n b) n) (List.range n) = det A n := DT_cong n _ fun i _ c hc => by
    have := List.mem_range.mp hc
    rw [colR_v, if_neg (by omega)]
  have e4 : smS (colR A n b n) (DT (RWs (colR A n b) n)) (List.range n) n = 0 := by
    rw [smS_sm, List.length_range]
    have : sm (fun j => colR A n b n ((List.range n).getD j 0) * DT (RWs (colR A n b) n) ((List.range n).set j n)) n = sm (fun _ => 0 * 0) n := sm_congr fun j hj => by
      rw [DT_nocol (s := n) (RWs (colR A n b) n) ((List.range n).set j n) (by rw [List.length_set, List.length_range, RWs_len]) (by
        refine List.mem_of_getElem? (i := j) ?_
        rw [List.getElem?_set_self (by rw [List.length_range]; exact hj)]) (fun r hr => by
        obtain ⟨i, hi, rfl⟩ := RWs_in hr
        rw [colR_v, if_pos rfl]
        exact dl_n (by omega))]
      simp
    rw [this, sm_mul]
    simp
  rw [e2, e3, e4]
  omega
theorem MM_le {d : Int} (hd : 0 ≤ d) : ∀ (n : Nat) (A : Nat → Nat → Int), MM A n → (∀ i, i < n → A i i ≤ d) → det A n ≤ d ^ n
  | 0, A, _, _ => by show (1 : Int) ≤ d ^ 0; simp
  | n + 1, A, h, hA => by
    have ih := MM_le hd n A (MM_pred h) (fun i hi => hA i (by omega))
    have hpos := MM_det (n + 1) A h
    have hposn := MM_det n A (MM_pred h)
    have hc : ∀ i, i < n + 1 → sm (fun j => A i j * crm A (n + 1) (fun i => dl i n) j) (n + 1) = det A (n + 1) * dl i n := fun i hi => cramer_n A (n + 1) (fun i => dl i n) hi
    have hw : ∀ j, j < n + 1 → 0 ≤ crm A (n + 1) (fun i => dl i n) j := by
      intro j hj
      obtain ⟨m, hm, hmax⟩ := max_at (fun j => -crm A (n + 1) (fun i => dl i n) j) (n + 1) (by omega)
      by_cases h0 : 0 < -crm A (n + 1) (fun i => dl i n) m
      · have h1 := MM_top h (z := fun j => -crm A (n + 1) (fun i => dl i n) j) hm hmax h0
        have h2 : sm (fun j => A m j * -crm A (n + 1) (fun i => dl i n) j) (n + 1) = -sm (fun j => A m j * crm A (n + 1) (fun i => dl i n) j) (n + 1) := by
          rw [← sm_neg]
          exact sm_congr fun j _ => by grind
        rw [h2, hc m hm] at h1
        have h3 : 0 ≤ det A (n + 1) * dl m n := Int.mul_nonneg (by omega) (by unfold dl; split <;> decide)
        omega
      · have := hmax j hj
        omega
    have h1 := hc n (by omega)
    rw [dl_s, Int.mul_one] at h1
    have h2 : sm (fun j => A n j * crm A (n + 1) (fun i => dl i n) j) (n + 1) = sm (fun j => A n j * crm A (n + 1) (fun i => dl i n) j) n + A n n * det A n := by
      rw [← crm_last A n]; rfl
    have h3 : 0 ≤ sm (fun j => -(A n j * crm A (n + 1) (fun i => dl i n) j)) n := sm_nonneg fun j hj => by
      have a1 := h.1 n j (by omega) (by omega) (by omega)
      have a2 := hw j (by omega)
      have := Int.mul_nonpos_of_nonpos_of_nonneg a1 a2
      omega
    rw [sm_neg] at h3
    have h4 : A n n * det A n ≤ d * det A n := Int.mul_le_mul_of_nonneg_right (hA n (by omega)) (by omega)
    have h5 : d * det A n ≤ d * d ^ n := Int.mul_le_mul_of_nonneg_left ih hd
    rw [Int.pow_succ, Int.mul_comm (d ^ n)]
    omega
