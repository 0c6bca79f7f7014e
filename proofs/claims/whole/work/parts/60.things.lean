/-! The start: the enum, the texts, the exceptions' words. -/
theorem nw_im : .methodLinkNest RX2 86 yX11_isMore RX11 ∈ lw_tbl := by decide +kernel
theorem ab_no {s : State} : ∀ a : Nat, a < s.heap.size → ¬ AB s.heap.size a := fun _ h z => absurd z (Nat.not_le.mpr h)
def adI (b w al : Nat) (en tk tv : Nat → Nat) (k : Nat) : Nat := if k = 70001 then b else if k = 70002 then w else if k = 70003 then al else if 70300 ≤ k then tv (k - 70300) else if 70200 ≤ k then tk (k - 70200) else en (k - 70100)
theorem adI_en {b w al : Nat} {en tk tv : Nat → Nat} {i : Nat} (h : i < 18) : adI b w al en tk tv (70100 + i) = en i := by
  unfold adI
  rw [if_neg (by omega), if_neg (by omega), if_neg (by omega), if_neg (by omega), if_neg (by omega), Nat.add_sub_cancel_left]
theorem adI_tk {b w al : Nat} {en tk tv : Nat → Nat} {i : Nat} (h : i < 27) : adI b w al en tk tv (70200 + i) = tk i := by
  unfold adI
  rw [if_neg (by omega), if_neg (by omega), if_neg (by omega), if_neg (by omega), if_pos (by omega), Nat.add_sub_cancel_left]
theorem adI_tv {b w al : Nat} {en tk tv : Nat → Nat} {i : Nat} : adI b w al en tk tv (70300 + i) = tv i := by
  unfold adI
  rw [if_neg (by omega), if_neg (by omega), if_neg (by omega), if_pos (by omega), Nat.add_sub_cancel_left]
/-- one text -/
theorem tx_start {args : Array Value} {s : State} (hn : ∀ w ∈ NWL, w.before args s = true) (i : Nat) : ∃ q : Nat × Nat, i < 27 → (txTm i).eval args s none [] s = some (.ref q.1) ∧ va_O "java/lang/String" q.1 (AB s.heap.size) s s.heap ∧ va_OF "java/lang/String" "coder" "B" (.int 0) q.1 (AB s.heap.size) s s.heap ∧ va_OF "java/lang/String" "value" "[B" (.ref q.2) q.1 (AB s.heap.size) s s.heap ∧ va_T .byte q.2 (strL.getD i []).length (fun j => .int (nI ((strL.getD i []).getD j 0))) (AB s.heap.size) s s.heap := by
  by_cases hi : i < 27
  · obtain ⟨a, c, cA, kA, q1, q2, q3, q4, q5, q6, -⟩ := Cond.exactly_spec (args := args) (first := s) (o := none) (s := s) (idx := []) (t := txTm i) (cls := "java/lang/String") (hn _ (nw_x i hi))
    obtain ⟨t, ht, hT⟩ := va_Tof (f := fun j => .int (nI ((strL.getD i []).getD j 0))) (A := AB s.heap.size) (nw_tl i hi) (hn _ (nw_a i hi)) (va_eqt (hn _ (nw_l i hi))) (fun j hj => va_eqt (hn _ (nw_e i hi j hj))) ab_no
    exact ⟨(a, t), fun _ => ⟨q1, ⟨cA, q3, q5, by rw [q6]; exact q2, ab_no a (Array.getElem?_eq_some_iff.mp q3).1⟩, vk_OFof q1 (va_eqt (hn _ (nw_c i hi))) ab_no, vk_OFof q1 ht ab_no, hT⟩⟩
  · exact ⟨(0, 0), fun h => absurd h hi⟩
/-- one constant -/
theorem en_start {args : Array Value} {s : State} (hn : ∀ w ∈ NWL, w.before args s = true) (i : Nat) : ∃ t : Nat, i < 18 → (enTm i).eval args s none [] s = some (.ref t) ∧ va_O "WellPumps$Thing" t (AB s.heap.size) s s.heap := by
  by_cases hi : i < 18
  · obtain ⟨a, c, cell, k, q1, q2, q3, q4, q5, q6, -⟩ := Cond.exactly_spec (hn _ (nw_sx i hi))
    exact ⟨a, fun _ => ⟨q1, cell, q3, q5, by rw [q6]; exact q2, ab_no a (Array.getElem?_eq_some_iff.mp q3).1⟩⟩
  · exact ⟨0, fun h => absurd h hi⟩
set_option maxHeartbeats 4000000 in
theorem stk_start {args : Array Value} {s : State} (hts : ∀ w ∈ lw_tbl, w.before args s = true) (hn : ∀ w ∈ NWL, w.before args s = true) (b : Nat) : ∃ a0 : Nat → Nat, a0 70001 = b ∧ va_Z "WellPumps$Thing" "END" "LWellPumps$Thing;" (.ref (a0 70100)) (AB s.heap.size) s s.heap ∧ ∀ ad : Nat → Nat, (∀ k, 70001 ≤ k → ad k = a0 k) → STK ad s.heap.size s ∧ WRK ad s := by
  obtain ⟨tk, htk⟩ := Classical.axiomOfChoice (tx_start hn)
  obtain ⟨en, hen⟩ := Classical.axiomOfChoice (en_start hn)
  obtain ⟨⟨n1, n2⟩, ⟨n3, n4⟩, n5, n6, n7, n8⟩ := nw_1
  obtain ⟨⟨l1, l2⟩, l3, l4, l5, l6⟩ := nw_2
  obtain ⟨⟨i1, i2⟩, i3, i4, i5⟩ := nw_3
  obtain ⟨al, hal, hAL⟩ := va_Tof (N := 18) (f := fun j => .ref (en j)) (A := AB s.heap.size) (by decide) (hn _ n1) (va_eqt (hn _ n2)) (fun j hj => va_eqv (hn _ (nw_al j hj)) (hen j hj).1) ab_no
  obtain ⟨we, hwe, hWE⟩ := va_Tof (N := 18) (f := fun j => .int (nI (weiL.getD j 0))) (A := AB s.heap.size) (by decide) (hn _ n3) (va_eqt (hn _ n4)) (fun j hj => va_eqt (hn _ (nw_we j hj))) ab_no
  have hz : ∀ i, i < 18 → va_Z "WellPumps$Thing" (enL.getD i "") "LWellPumps$Thing;" (.ref (en i)) (AB s.heap.size) s s.heap := fun i hi => va_Zref (hts _ (nw_sl i hi)) (hts _ i1) (hen i hi).1 ab_no
  refine ⟨adI b we al en (fun i => (tk i).1) (fun i => (tk i).2), rfl, ?_, fun ad had => ?_⟩
  · rw [show (70100 : Nat) = 70100 + 0 from rfl, adI_en (by decide)]
    exact hz 0 (by decide)
  · have he : ∀ i, i < 18 → ad (70100 + i) = en i := fun i hi => (had _ (by omega)).trans (adI_en hi)
    have hk : ∀ i, i < 27 → ad (70200 + i) = (tk i).1 := fun i hi => (had _ (by omega)).trans (adI_tk hi)
    have hv : ∀ i, ad (70300 + i) = (tk i).2 := fun i => (had _ (by omega)).trans adI_tv
    have h2 : ad 70002 = we := had 70002 (by decide)
    have h3 : ad 70003 = al := had 70003 (by decide)
    refine ⟨⟨⟨fun i hi => ?_, fun i j hi hj e => ?_⟩, fun i hi => ?_, ⟨?_, ?_⟩, ⟨?_, ?_⟩, fun i hi => ?_, ?_, ?_, ?_, ?_⟩, fun x hx => ?_, fun x hx => ?_, ?_, fun w hw => ?_, fun i hi j hj hij => ?_⟩
    · have hi : i < 18 := hi
      dsimp only
      rw [he i hi]
      exact ⟨hz i hi, (hen i hi).2, fun q hq => by cases hq⟩
    · have hi : i < 18 := hi
      have hj : j < 18 := hj
      dsimp only at e
      rw [he i hi, he j hj] at e
      by_cases hij : i = j
      · exact hij
      · rcases nw_sd i hi j hj hij with h | h
        · exact absurd e (va_neR (hn _ h) (hen i hi).1 (hen j hj).1)
        · exact absurd e.symm (va_neR (hn _ h) (hen j hj).1 (hen i hi).1)
    · dsimp only
      rw [he i hi, hk i (by omega)]
      exact vk_OFof (hen i hi).1 (va_eqv (hn _ (nw_sp i hi)) (htk i (by omega)).1) ab_no
    · rw [h3]
      exact va_Zref (hts _ l1) (hts _ i1) hal ab_no
    · rw [h3]
      obtain ⟨cell, t1, t2, t3, t4, t5, t6, t7⟩ := hAL
      exact ⟨cell, t1, t2, t3, t4, t5, fun j hj => by rw [t6 j hj]; dsimp only; rw [he j hj], t7⟩
    · rw [h2]
      exact va_Zref (hts _ l2) (hts _ i2) hwe ab_no
    · rw [h2]
      exact hWE
    · rw [hk i hi, hv i]
      exact (htk i hi).2
    · exact va_Zof (hts _ l3) (hts _ i3) (va_eqt (hn _ n5)) ab_no
    · exact va_Zqof (hts _ l4) (hts _ i4) (hn _ n6) ab_no
    · exact vx_Zqof (hts _ l5) (hts _ i5) (hn _ n7) ab_no
    · exact vx_Zqof (hts _ l6) (hts _ i5) (hn _ n8) ab_no
    · obtain ⟨⟨w1, w2⟩, w3, w4⟩ := nw_s x hx
      refine vk_R.of (hts _ w4) ?_
      have h1 := (htk (x.2.2.1 - 70200) (by omega)).1
      unfold txTm at h1
      rw [w3] at h1
      rw [show x.2.2.1 = 70200 + (x.2.2.1 - 70200) by omega, hk _ (by omega)]
      exact h1
    · obtain ⟨w1, w2⟩ := nw_t x hx
      obtain ⟨a, c, cell, k, q1, -⟩ := Cond.exactly_spec (hn _ w2)
      exact ⟨a, vk_R.of (hts _ w1) q1⟩
    · exact va_Nw.of rfl (hts _ nw_im)
    · exact va_Nw.of (nw_b w hw) (hts _ (tbl_of (List.mem_filter.mp hw).1))
    · exact va_Nc.of (hn _ (nw_nc i hi j hj hij))
