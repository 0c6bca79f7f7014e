/-! The start: the cells' world. -/
theorem ix_inj0 : (cells.all fun k => decide (ordL[ix k]? = some k)) = true := by decide +kernel
theorem ix_inj {j k : Nat} (hj : j ∈ cells) (hk : k ∈ cells) (h : ix j = ix k) : j = k := by
  have h1 : ordL[ix j]? = some j := of_decide_eq_true (List.all_eq_true.mp ix_inj0 j hj)
  have h2 : ordL[ix k]? = some k := of_decide_eq_true (List.all_eq_true.mp ix_inj0 k hk)
  rw [h] at h1
  exact Option.some.inj (h1.symm.trans h2)
theorem cells_c {k : Nat} (h : k ∈ cells) : cells.contains k = true := by simpa using h
theorem no_70100 : cells.contains 70100 = false := by decide +kernel
theorem no_above0 : (cells.all fun k => Nat.ble k 70000) = true := by decide +kernel
theorem adG_o {g : Nat → Nat} {k : Nat} (h : 70001 ≤ k) : adG g k = g k := by
  unfold adG
  rw [if_neg]
  intro hc
  have h1 : k ∈ cells := by simpa using hc
  have := Nat.le_of_ble_eq_true (List.all_eq_true.mp no_above0 k h1)
  omega
section HB
variable {D : va_G} {cs : cid} {base : Nat} {g : Nat → Nat} {L : Nat} {xs : Nat → Int32} {H : Heap}
theorem hok_born (h : AOK D cs base g amE H) (hL : L ≤ 3072) : HOK D cs (adG g) L xs (M0 L xs) H := by
  have h7 : g 70100 = adG g 70100 := (adG_o (by decide)).symm
  refine ⟨?_, fun k hk ht j => ?_, rfl, fun j hj => ?_⟩
  · refine va_P.by h.1 (fun k => ix (cells.getD k 0)) fun k q hq => ?_
    unfold wsO at hq
    rw [List.getElem?_map] at hq
    cases hc : cells[k]? with
    | none => rw [hc] at hq; cases hq
    | some c =>
      rw [hc] at hq
      cases hq
      have hm : c ∈ cells := List.mem_of_getElem? hc
      obtain ⟨x, hx, he⟩ := ent_start (cs := cs) (g := g) (L := L) (xs := xs) h7 hm
      have e1 : cells.getD k 0 = c := by rw [List.getD_eq_getElem?_getD, hc]; rfl
      rw [e1, wsA_get, hx]
      show some (g (ix c), trE cs g x) = some (adG g c, ent cs (adG g) (M0 L xs) c)
      rw [he, adG_c (cells_c hm)]
  · obtain ⟨hm, hge⟩ := isAr_spec hk
    obtain ⟨ho, hne⟩ := am_cells k hm
    have hb := List.all_eq_true.mp by_cells k hm
    have e0 : (M0 L xs).1 k j = 0 := by
      dsimp only [M0]
      rw [if_neg hne]
      unfold okE at ho
      split at ho
      · have := Nat.blt_eq.mp (and2 ho).1
        exact absurd this hge
      · rename_i t n ws he
        rw [he] at hb ⊢
        rw [ht] at hb
        have h9 : ws = [] := by simpa using hb
        rw [h9]; rfl
      · cases ho
    rw [e0]; rfl
  · show (if j = 4000 then nI L else xs j) = xs j
    rw [if_neg (by omega)]
theorem adk_born (h : AOK D cs base g amE H) : ADK (adG g) base := by
  have key : ∀ k, k ∈ cells → ∃ x, (wsA cs g amE)[ix k]? = some (adG g k, x) := by
    intro k hk
    obtain ⟨x, hx, -⟩ := ent_start (cs := cs) (g := g) (L := 0) (xs := fun _ => 0) (adG_o (g := g) (by decide : 70001 ≤ 70100)).symm hk
    exact ⟨trE cs g x, by rw [wsA_get, hx, adG_c (cells_c hk)]; rfl⟩
  refine ⟨fun j k hj hk e => ?_, fun k hk => ?_⟩
  · obtain ⟨x, hx⟩ := key j hj
    obtain ⟨y, hy⟩ := key k hk
    exact ix_inj hj hk (h.2.1 _ _ _ _ hx hy e)
  · obtain ⟨x, hx⟩ := key k hk
    exact h.2.2 _ _ hx
end HB
