/-! The start's entries are the cells. -/
def adG (g : Nat → Nat) (k : Nat) : Nat := if cells.contains k = true then g (ix k) else g k
def M0 (L : Nat) (xs : Nat → Int32) : Mm :=
  (fun k j => if k = 70001 then (if j = 4000 then nI L else xs j) else match amE[ix k]? with
    | some (.inl (_, fs)) => (match fs[j]? with
      | some (.int v) => v
      | _ => 0)
    | some (.inr (_, _, ws)) => wr ws j
    | none => 0,
   fun k j => match amE[ix k]? with
    | some (.inl (_, fs)) => (match fs[j]? with
      | some (.long v) => v
      | _ => 0)
    | _ => 0,
   fun k j => match amE[ix k]? with
    | some (.inl (_, fs)) => (match fs[j]? with
      | some (.ref r) => r
      | _ => 0)
    | _ => 0)
theorem am_cells : ∀ k ∈ cells, okE k = true ∧ k ≠ 70001 := by
  intro k hk
  have h := (and2 amE_ok).1
  refine ⟨List.all_eq_true.mp h k hk, fun e => ?_⟩
  subst e
  exact cells_no hk
theorem rf_cells0 : (cells.all fun k => Nat.ble 1024 k || (List.range (nfL.getD (k / 64) 0)).all fun s => (!(Nat.beq (fk (k / 64) s) 2) || cells.contains (RC k s)) && (!(Nat.beq (fk (k / 64) s) 3) || cells.contains (1024 + 64 * k + s))) = true := by decide +kernel
theorem by_cells : (cells.all fun k => match amE[ix k]? with
    | some (.inr (_, _, ws)) => !(Nat.beq (typ k) 3) || ws.isEmpty
    | _ => true) = true := by decide +kernel
theorem ty_cells : (cells.all fun k => Nat.blt k 1024 || (Nat.beq (typ k) 1 || (Nat.beq (typ k) 2 || (Nat.beq (typ k) 3 || Nat.beq (typ k) 4)))) = true := by decide +kernel
theorem adG_c {g : Nat → Nat} {k : Nat} (h : cells.contains k = true) : adG g k = g (ix k) := by unfold adG; rw [if_pos h]
set_option maxHeartbeats 2000000 in
theorem ent_start {cs : cid} {g : Nat → Nat} {L : Nat} {xs : Nat → Int32} (h7 : g 70100 = adG g 70100) {k : Nat} (hk : k ∈ cells) : ∃ x, amE[ix k]? = some x ∧ ent cs (adG g) (M0 L xs) k = trE cs g x := by
  obtain ⟨h, hne⟩ := am_cells k hk
  unfold okE at h
  split at h
  · rename_i c fs he
    refine ⟨_, he, ?_⟩
    have q := and2 h; have q2 := and2 q.2; have q3 := and2 q2.2
    have hlt : k < 1024 := Nat.blt_eq.mp q.1
    have hc := beqN q2.1
    have hl := beqN q3.1
    subst hc
    rw [ent_ob hlt]
    unfold trE
    dsimp only
    refine congrArg (fun l => (Sum.inr (k / 64, l) : va_E)) ?_
    apply List.ext_getElem?
    intro s
    by_cases hs : s < nfL.getD (k / 64) 0
    · rw [fvs_at hs, List.getElem?_map]
      have h1 := List.all_eq_true.mp q3.2 s (List.mem_range.mpr hs)
      have h2 := List.all_eq_true.mp rf_cells0 k hk
      rw [Bool.or_eq_true] at h2
      have h3 := h2.resolve_left (fun z => by have := Nat.le_of_ble_eq_true z; omega)
      have h4 := and2 (List.all_eq_true.mp h3 s (List.mem_range.mpr hs))
      unfold fv
      split at h1
      · rename_i hf hv
        rw [hf, hv]
        dsimp only [M0]
        rw [if_neg hne, he]
        dsimp only
        rw [hv]
        rfl
      · rename_i hf hv
        rw [hf, hv]
        dsimp only [M0]
        rw [he]
        dsimp only
        rw [hv]
        rfl
      · rename_i hf hv
        rw [hf, hv]
        have e1 := beqN h1
        have h5 := h4.1
        rw [hf] at h5
        show some (Value.ref (adG g (RC k s))) = some (Value.ref (g _))
        rw [adG_c (by simpa using h5), e1]
      · rename_i hf hv
        rw [hf, hv]
        have e1 := beqN h1
        have h5 := h4.2
        rw [hf] at h5
        show some (Value.ref (adG g (1024 + 64 * k + s))) = some (Value.ref (g _))
        rw [adG_c (by simpa using h5), e1]
      · rename_i hf hv
        rw [hf, hv]
        have e1 := beqN h1
        subst e1
        have e2 : (M0 L xs).2.2 k s = 70100 := by
          dsimp only [M0]
          rw [he]
          dsimp only
          rw [hv]
        rw [e2]
        show some (Value.ref (adG g 70100)) = some (Value.ref (g 70100))
        rw [h7]
      · rename_i hf hv
        rw [hf, hv]
        dsimp only [M0]
        rw [if_neg hne, he]
        dsimp only
        rw [hv]
        rfl
      · cases h1
    · rw [List.getElem?_eq_none (by rw [fvs_len]; omega), List.getElem?_eq_none (by rw [List.length_map]; omega)]
  · rename_i t n ws he
    refine ⟨_, he, ?_⟩
    have q := and2 h; have q2 := and2 q.2
    have hge : ¬ k < 1024 := by have := Nat.le_of_ble_eq_true q.1; omega
    have ht := beqN q2.1
    have hn := beqN q2.2
    subst ht; subst hn
    rw [ent_ar hge rfl]
    unfold arE trE
    dsimp only
    have e1 : (M0 L xs).1 k = wr ws := by
      funext j
      dsimp only [M0]
      rw [if_neg hne, he]
    have e2 : (M0 L xs).2.1 k = fun _ => 0 := by
      funext j
      dsimp only [M0]
      rw [he]
    have e3 : ∀ j, (M0 L xs).2.2 k j = 0 := by
      intro j
      dsimp only [M0]
      rw [he]
    have e4 : typ k = 3 → ∀ j, wr ws j = 0 := fun h3 j => by
      have h8 := List.all_eq_true.mp by_cells k hk
      rw [he, h3] at h8
      have h9 : ws = [] := by simpa using h8
      rw [h9]; rfl
    have ht := List.all_eq_true.mp ty_cells k hk
    rw [Bool.or_eq_true] at ht
    have ht2 := ht.resolve_left (fun z => hge (Nat.blt_eq.mp z))
    have ht3 : typ k = 1 ∨ typ k = 2 ∨ typ k = 3 ∨ typ k = 4 := by
      simp only [Bool.or_eq_true] at ht2
      exact ht2.imp beqN (fun z => z.imp beqN (fun z => z.imp beqN beqN))
    rcases ht3 with t1 | t1 | t1 | t1
    · rw [t1]; rw [e1]; rfl
    · rw [t1]; rw [e2]; rfl
    · have e5 : wr ws = fun _ => 0 := funext (e4 t1)
      rw [t1]; rw [e1, e5]; rfl
    · rw [t1]; simp only [e3]; rfl
  · cases h
