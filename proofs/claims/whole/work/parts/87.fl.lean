/-! MATHEMATICS: Faddeev and LeVerrier, whole. -/
theorem pv_add (c e : Nat → Int) (n : Nat) (x : Int) : pv (fun k => c k + e k) n x = pv c n x + pv e n x := by
  unfold pv
  rw [← sm_add]
  exact sm_congr fun j _ => by grind
theorem pv_mul (a : Int) (c : Nat → Int) (n : Nat) (x : Int) : pv (fun k => a * c k) n x = a * pv c n x := by
  unfold pv
  rw [← sm_mul]
  exact sm_congr fun j _ => by grind
theorem pv_sh (c : Nat → Int) (n : Nat) (x : Int) : pv (fun k => if k = 0 then 0 else c (k - 1)) (n + 1) x = x * pv c n x := by
  rw [pv_s, if_pos rfl, Int.zero_add]
  rfl
theorem pv_sm (a : Nat → Int) (g : Nat → Nat → Int) (N : Nat) (x : Int) : ∀ m, pv (fun k => sm (fun j => a j * g j k) m) N x = sm (fun j => a j * pv (g j) N x) m
  | 0 => by
    show pv (fun _ => 0) N x = 0
    have := pv_mul 0 (fun _ => 0) N x
    simp only [Int.zero_mul] at this
    exact this
  | m + 1 => by
    show pv (fun k => sm (fun j => a j * g j k) m + a m * g m k) N x = _ + _
    rw [pv_add, pv_sm a g N x m, pv_mul]
theorem AX_aff (W : Nat → Nat → Int) (x : Int) : AX W x = fun i c => -W i c + dl i c * x := rfl
theorem det_monic (W : Nat → Nat → Int) : ∀ n, ∃ c : Nat → Int, (∀ x, det (AX W x) n = pv c (n + 1) x) ∧ c n = 1
  | 0 => ⟨fun _ => 1, fun x => by show (1 : Int) = 0 + 1 * x ^ 0; simp, rfl⟩
  | n + 1 => by
    obtain ⟨c, hc, hn⟩ := det_monic W n
    have hF : ∀ j, j < n → Pol n (fun x => DT (RWs (AX W x) n) ((List.range n).set j n)) := fun j hj =>
      Pol_DT1 (α := fun i c => -W i c) (β := dl) (j := n) n _ (fun i hi => dl_n (by omega)) (by rw [List.length_set, List.length_range]) (List.mem_of_getElem? (i := j) (by rw [List.getElem?_set_self (by rw [List.length_range]; exact hj)]))
    have hg : Pol (n + 1) (fun x => -W n n * pv c (n + 1) x + sm (fun j => W n j * DT (RWs (AX W x) n) ((List.range n).set j n)) n) :=
      (Pol.mul ⟨c, fun x => rfl⟩ (-W n n)).add ((Pol.sum n (fun j hj => (hF j hj).mul (W n j))).le (Nat.le_succ n))
    obtain ⟨e, he⟩ := hg
    refine ⟨fun k => (if k = 0 then 0 else c (k - 1)) + (if k < n + 1 then e k else 0), fun x => ?_, ?_⟩
    · have e1 : det (AX W x) (n + 1) = ex (AX W x n) (DT (RWs (AX W x) n)) (List.range n ++ [n]) := by
        unfold det
        rw [List.range_succ]
        rfl
      rw [e1, ex_last (AX W x n) n (List.range n) n (DT (RWs (AX W x) n)) (by have := DT_as (RWs (AX W x) n); rw [RWs_len] at this; exact this) List.length_range, smS_sm, List.length_range]
      have e2 : sm (fun j => AX W x n ((List.range n).getD j 0) * DT (RWs (AX W x) n) ((List.range n).set j n)) n = -1 * sm (fun j => W n j * DT (RWs (AX W x) n) ((List.range n).set j n)) n := by
        rw [← sm_mul]
        refine sm_congr fun j hj => ?_
        rw [show (List.range n).getD j 0 = j by rw [List.getD_eq_getElem?_getD, List.getElem?_range hj]; rfl]
        have : AX W x n j = -W n j := by unfold AX; rw [dl_n (by omega)]; omega
        rw [this]; grind
      have e3 : DT (RWs (AX W x) n) (List.range n) = pv c (n + 1) x := hc x
      have e4 : AX W x n n = -W n n + x := by unfold AX; rw [dl_s]; omega
      have h5 := he x
      dsimp only at h5
      rw [e2, e3, e4, pv_add, pv_sh, pv_ext (Nat.le_succ (n + 1)), ← h5]
      grind
    · dsimp only
      rw [if_neg (by omega), if_neg (by omega), Nat.add_sub_cancel, hn]
      rfl
theorem adj_pol (W : Nat → Nat → Int) (n i j : Nat) (hj : j < n) : Pol n (fun x => crm (AX W x) n (fun k => dl k i) j) := by
  have h := Pol_DT1 (α := fun i' c => if c = j then dl i' i else -W i' c) (β := fun i' c => if c = j then 0 else dl i' c) (j := j) n (List.range n) (fun i' _ => if_pos rfl) List.length_range (List.mem_range.mpr hj)
  refine h.of fun x => ?_
  refine det_cong fun i' c _ _ => ?_
  rw [colR_v]
  by_cases e : c = j
  · simp only [if_pos e]; omega
  · simp only [if_neg e]; rfl
set_option maxHeartbeats 1000000 in
theorem cayley (W : Nat → Nat → Int) (n : Nat) : ∃ (c : Nat → Int) (b : Nat → Nat → Nat → Int), c n = 1 ∧ (∀ x, det (AX W x) n = pv c (n + 1) x) ∧ (∀ i' i, i' < n → i < n → ∀ k, k < n + 1 → (if k = 0 then 0 else b i' i (k - 1)) + -1 * sm (fun j => W i' j * (if k < n then b j i k else 0)) n = dl i' i * c k) ∧ ∀ k, k < n → sm (fun i => b i i k) n = ((k + 1 : Nat) : Int) * c (k + 1) := by
  obtain ⟨c, hc, hn⟩ := det_monic W n
  have hb0 : ∀ j i : Nat, ∃ e : Nat → Int, j < n → ∀ x, crm (AX W x) n (fun k => dl k i) j = pv e n x := fun j i => by
    by_cases hj : j < n
    · obtain ⟨e, he⟩ := adj_pol W n i j hj
      exact ⟨e, fun _ => he⟩
    · exact ⟨fun _ => 0, fun q => absurd q hj⟩
  have hb1 := fun j => Classical.axiomOfChoice (hb0 j)
  obtain ⟨b, hb⟩ := Classical.axiomOfChoice hb1
  refine ⟨c, b, hn, hc, fun i' i hi' hi => ?_, ?_⟩
  · refine pv_inj fun x _ => ?_
    rw [pv_add, pv_sh, pv_mul, pv_sm (fun j => W i' j) (fun j k => if k < n then b j i k else 0), pv_mul, ← hc]
    have h1 := cramer_n (AX W x) n (fun k => dl k i) hi'
    have h2 : sm (fun j => AX W x i' j * crm (AX W x) n (fun k => dl k i) j) n = -1 * sm (fun j => W i' j * pv (fun k => if k < n then b j i k else 0) (n + 1) x) n + x * pv (b i' i) n x := by
      have h3 : x * pv (b i' i) n x = x * sm (fun j => dl i' j * pv (b j i) n x) n := by rw [sm_dl, if_pos hi']
      rw [h3, ← sm_mul, ← sm_mul, ← sm_add]
      refine sm_congr fun j hj => ?_
      rw [hb j i hj x, pv_ext (Nat.le_succ n)]
      unfold AX; grind
    rw [h2] at h1
    rw [Int.mul_comm (det (AX W x) n)] at h1
    omega
  · -- traces
    refine pv_inj fun x _ => ?_
    have hG : Pol (n + 1) (fun h => sm (fun i => det (rowR (mix W x h i) i (dl i)) n) n) := Pol.sum n fun i _ => by
      have h := Pol_DT (α := fun k c => if k = i then dl i c else AX W x k c) (β := fun k c => if k < i then dl k c else 0) n (List.range n)
      refine h.of fun h => det_cong fun k c _ _ => ?_
      rw [rowR_v, mix_v]
      by_cases e : k = i
      · rw [if_pos e, if_pos e, if_neg (by omega)]; omega
      · rw [if_neg e, if_neg e]
        by_cases e2 : k < i
        · rw [if_pos e2, if_pos e2]; unfold AX; grind
        · rw [if_neg e2, if_neg e2]; omega
    have hQ : Pol (n + 1) (fun h => sm (fun k => c k * dq x h k) (n + 1)) := Pol.sum (n + 1) fun k hk => ((dq_pol x k).le (by omega)).mul (c k)
    have hGQ := Pol_at0 hG hQ (fun h hne => by
      have h1 := mix_all W x h n n (Nat.le_refl n)
      have h2 : det (mix W x h n) n = det (AX W (x + h)) n := det_cong fun k cc hk _ => by rw [mix_v, if_pos hk]
      rw [h2, hc, hc] at h1
      have h3 : pv c (n + 1) (x + h) = pv c (n + 1) x + h * sm (fun k => c k * dq x h k) (n + 1) := by
        unfold pv
        rw [← sm_mul, ← sm_add]
        refine sm_congr fun k _ => ?_
        have := dq_ok x h k
        have h4 : (x + h) ^ k = x ^ k + h * dq x h k := by omega
        rw [h4]; grind
      have h5 : h * sm (fun i => det (rowR (mix W x h i) i (dl i)) n) n = h * sm (fun k => c k * dq x h k) (n + 1) := by omega
      exact Int.eq_of_mul_eq_mul_left hne h5)
    have e1 : sm (fun i => det (rowR (mix W x 0 i) i (dl i)) n) n = sm (fun i => 1 * pv (b i i) n x) n := sm_congr fun i hi => by
      have h1 : det (rowR (mix W x 0 i) i (dl i)) n = det (rowR (AX W x) i (dl i)) n := det_cong fun k cc _ _ => by
        rw [rowR_v, rowR_v, mix_v, Int.add_zero]
        by_cases e : k < i
        · rw [if_pos e]
        · rw [if_neg e]
      rw [h1, det_unit (AX W x) n i hi, hb i i hi x]; omega
    have e2 : sm (fun k => c k * dq x 0 k) (n + 1) = pv (fun k => ((k + 1 : Nat) : Int) * c (k + 1)) n x := by
      rw [sm_front]
      unfold pv
      have : c 0 * dq x 0 0 = 0 := by show c 0 * 0 = 0; simp
      rw [this, Int.zero_add]
      exact sm_congr fun k _ => by rw [dq_0]; grind
    rw [e1, e2, ← pv_sm (fun _ => 1) (fun i => b i i)] at hGQ
    rw [← hGQ]
    unfold pv
    exact sm_congr fun k _ => by
      have : sm (fun j => 1 * b j j k) n = sm (fun j => b j j k) n := sm_congr fun j _ => by omega
      dsimp only
      rw [this]
theorem FLE (W : Nat → Nat → Int) (n : Nat) (hn : 1 ≤ n) : ∃ (C : Nat → Int) (B : Nat → Nat → Nat → Int), C 0 = 1 ∧ (∀ i j, i < n → j < n → B 0 i j = dl i j) ∧ (∀ m, 1 ≤ m → m ≤ n → (m : Int) * C m = -sm (fun i => sm (fun j => W i j * B (m - 1) j i) n) n) ∧ (∀ m, 1 ≤ m → m < n → ∀ i j, i < n → j < n → B m i j = sm (fun k => W i k * B (m - 1) k j) n + C m * dl i j) ∧ (∀ i j, i < n → j < n → sm (fun k => W i k * B (n - 1) k j) n + C n * dl i j = 0) ∧ ∀ x, det (AX W x) n = sm (fun k => C (n - k) * x ^ k) (n + 1) := by
  obtain ⟨c, b, h1, h2, h3, h4⟩ := cayley W n
  have hB : ∀ m, 1 ≤ m → m < n → ∀ i j, i < n → j < n → b i j (n - 1 - m) = sm (fun k => W i k * b k j (n - 1 - (m - 1))) n + c (n - m) * dl i j := by
    intro m hm hmn i j hi hj
    have h := h3 i j hi hj (n - m) (by omega)
    rw [if_neg (by omega), show n - m - 1 = n - 1 - m by omega] at h
    have e : sm (fun k => W i k * (if n - m < n then b k j (n - m) else 0)) n = sm (fun k => W i k * b k j (n - 1 - (m - 1))) n := sm_congr fun k _ => by rw [if_pos (by omega), show n - m = n - 1 - (m - 1) by omega]
    rw [e, Int.mul_comm (dl i j)] at h
    omega
  have hB0 : ∀ i j, i < n → j < n → b i j (n - 1) = dl i j := by
    intro i j hi hj
    have h := h3 i j hi hj n (by omega)
    have e : sm (fun k => W i k * (if n < n then b k j n else 0)) n = sm (fun k => 0 * 0) n := sm_congr fun k _ => by rw [if_neg (by omega)]; simp
    rw [if_neg (by omega), e, sm_mul, h1] at h
    omega
  have htr : ∀ m, m < n → sm (fun i => b i i (n - 1 - m)) n = ((n - m : Nat) : Int) * c (n - m) := by
    intro m hm
    have h := h4 (n - 1 - m) (by omega)
    rw [show n - 1 - m + 1 = n - m by omega] at h
    exact h
  have hsd : ∀ z : Int, sm (fun i => z * dl i i) n = (n : Int) * z := by
    intro z
    have : ∀ m, sm (fun i => z * dl i i) m = (m : Int) * z := by
      intro m
      induction m with
      | zero => simp [sm]
      | succ m ih =>
        show sm (fun i => z * dl i i) m + z * dl m m = _
        rw [ih, dl_s]; push_cast; grind
    exact this n
  refine ⟨fun m => c (n - m), fun m i j => b i j (n - 1 - m), ?_, ?_, ?_, hB, ?_, ?_⟩
  · exact h1
  · exact hB0
  · intro m hm hmn
    by_cases e : m = n
    · subst e
      have h := htr (m - 1) (by omega)
      rw [show m - (m - 1) = 1 by omega] at h
      -- the last: out of the zero square
      have hz : ∀ i, i < m → sm (fun j => W i j * b j i 0) m = -c 0 := fun i hi => by
        have h := h3 i i hi hi 0 (by omega)
        rw [if_pos rfl, dl_s] at h
        have e : sm (fun k => W i k * (if 0 < m then b k i 0 else 0)) m = sm (fun k => W i k * b k i 0) m := sm_congr fun k _ => by rw [if_pos (by omega)]
        rw [e] at h
        omega
      have e2 : sm (fun i => sm (fun j => W i j * b j i (m - 1 - (m - 1))) m) m = sm (fun i => -c 0 * dl i i) m := sm_congr fun i hi => by rw [Nat.sub_self, hz i hi, dl_s]; omega
      dsimp only
      rw [e2, hsd, Nat.sub_self]
      grind
    · have h := htr m (by omega)
      have e1 : sm (fun i => b i i (n - 1 - m)) n = sm (fun i => sm (fun k => W i k * b k i (n - 1 - (m - 1))) n + c (n - m) * dl i i) n := sm_congr fun i hi => hB m hm (by omega) i i hi hi
      rw [e1, sm_add, hsd] at h
      have : ((n - m : Nat) : Int) = (n : Int) - m := by omega
      rw [this] at h
      grind
  · intro i j hi hj
    have h := h3 i j hi hj 0 (by omega)
    rw [if_pos rfl] at h
    have e : sm (fun k => W i k * (if 0 < n then b k j 0 else 0)) n = sm (fun k => W i k * b k j (n - 1 - (n - 1))) n := sm_congr fun k _ => by rw [if_pos (by omega), Nat.sub_self]
    rw [e] at h
    dsimp only
    rw [Nat.sub_self n, Int.mul_comm (c 0)]
    omega
  · intro x
    rw [h2]
    unfold pv
    exact sm_congr fun k hk => by dsimp only; rw [show n - (n - k) = k by omega]
