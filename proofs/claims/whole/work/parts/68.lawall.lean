/-! The law's own text: all of it. -/
theorem ck9_all : ∀ b ∈ tx_900, lwb b = true := by
  intro b hb
  obtain ⟨j, hj⟩ := List.getElem?_of_mem hb
  have hl := (List.getElem?_eq_some_iff.mp hj).1
  rw [tx9_len] at hl
  have h1 : b ∈ pcs (j / 4) := by
    refine List.mem_of_getElem? (i := j % 4) ?_
    unfold pcs
    rw [List.getElem?_take, if_pos (by omega), List.getElem?_drop, show 4 * (j / 4) + j % 4 = j by omega]
    exact hj
  have h2 : ∀ i, i < 35 → (pcs i).all lwb = true := by
    have h0 : ∀ k, k < 0 → (pcs k).all lwb = true := fun k hk => absurd hk (Nat.not_lt_zero k)
    have h1 := lt_ck h0 ck9_0
    have h2 := lt_ck h1 ck9_1
    have h3 := lt_ck h2 ck9_2
    have h4 := lt_ck h3 ck9_3
    have h5 := lt_ck h4 ck9_4
    have h6 := lt_ck h5 ck9_5
    have h7 := lt_ck h6 ck9_6
    have h8 := lt_ck h7 ck9_7
    have h9 := lt_ck h8 ck9_8
    have h10 := lt_ck h9 ck9_9
    have h11 := lt_ck h10 ck9_10
    have h12 := lt_ck h11 ck9_11
    have h13 := lt_ck h12 ck9_12
    have h14 := lt_ck h13 ck9_13
    have h15 := lt_ck h14 ck9_14
    have h16 := lt_ck h15 ck9_15
    have h17 := lt_ck h16 ck9_16
    have h18 := lt_ck h17 ck9_17
    have h19 := lt_ck h18 ck9_18
    have h20 := lt_ck h19 ck9_19
    have h21 := lt_ck h20 ck9_20
    have h22 := lt_ck h21 ck9_21
    have h23 := lt_ck h22 ck9_22
    have h24 := lt_ck h23 ck9_23
    have h25 := lt_ck h24 ck9_24
    have h26 := lt_ck h25 ck9_25
    have h27 := lt_ck h26 ck9_26
    have h28 := lt_ck h27 ck9_27
    have h29 := lt_ck h28 ck9_28
    have h30 := lt_ck h29 ck9_29
    have h31 := lt_ck h30 ck9_30
    have h32 := lt_ck h31 ck9_31
    have h33 := lt_ck h32 ck9_32
    have h34 := lt_ck h33 ck9_33
    have h35 := lt_ck h34 ck9_34
    exact h35
  exact List.all_eq_true.mp (h2 (j / 4) (by omega)) b h1
