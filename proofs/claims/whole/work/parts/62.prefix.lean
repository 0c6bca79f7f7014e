/-! The start: the law's frame comes to its loop. -/
theorem na12 : (1 : Nat) = cond (Nat.beq 12 99) 1 (naI 12 + 1) := by decide +kernel
theorem am0_len : ([] : List AE).length < 60000 := show (0 : Nat) < 60000 from Nat.lt_of_sub_eq_succ rfl
section LW
variable {p : Program} {l : Launch} {e : Env} {s : State} {m : MethodId} {args : Array Value} {below : List Frame} {meth : Method} {c : Code} {D : va_G} {cs : cid} {e0 b : Nat} {Q : State → Prop}
set_option maxHeartbeats 4000000 in
theorem law_born0 {E1 E2 : List AE} {n7 : Nat} {cal : Nat → List Value → List AE → Option (List AE)} (hAV : AV p l e room_1 s m args below meth c code 8 200 20000 13 D cs s.heap.size e0 cal) (am1_c : (cond (Nat.beq 11 99) (some [.inl (11, dfl 11)]) (cal 11 [Value.ref 0] [.inl (11, dfl 11)])) = some E1) (am2_c : (cond (Nat.beq 12 99) (some (E1 ++ [.inl (12, dfl 12)])) (cal 12 [Value.ref E1.length] (E1 ++ [.inl (12, dfl 12)]))) = some E2) (hw1 : E1.all (wfE E1.length) = true) (hw2 : E2.all (wfE E2.length) = true) (z1 : E1.length = n7) (z2 : E2.length = 104) (x3 : n7 < 104) (z3 : sE E2 ≤ 18300) (hc : CI p room_1 s m args c 13 code 8 D cs s.heap.size e0 6 200 20000) {g0 : Nat → Nat} (he : g0 70100 = e0) {ls : Array Slot} (hl : lv_has ls 8 [(0, Value.ref b)])
    (kk : ∀ (g : Nat → Nat) (H : Heap) (locs : List Loc) (ls : Array Slot), (∀ i, 70000 ≤ i → g i = g0 i) → AOK D cs s.heap.size g (E2 ++ [.inr (2, 1, [])]) H → va_S (AB s.heap.size) s.heap H locs → lv_has ls 8 [(4, .int 0), (3, Value.ref (g 104)), (2, Value.ref (g n7)), (1, Value.ref (g 0)), (0, Value.ref b)] → W p l e room_1 s m args below meth c H locs 200 20000 Q (F0 m 23 ls [])) :
    W p l e room_1 s m args below meth c s.heap [] 0 0 Q (F0 m 0 ls []) := by
  have hc0 := hc
  obtain ⟨hx, hb, hml, hts, hown, hK, hfr, hlo, hmc, hms⟩ := hc
  obtain ⟨⟨d0, d3, d4, d7⟩, ⟨d8, d11, d12, d15⟩, ⟨d16, d17, d19⟩, d20, d21⟩ := law_d
  have hA0 : AOK D cs s.heap.size g0 [] s.heap := ⟨fun k q hq => by simp [wsA] at hq, ⟨fun i j p q hp => by simp [wsA] at hp, fun k q hq => by simp [wsA] at hq⟩⟩
  refine go_new hc0 hA0 va_S.rf rfl am0_len (k := 8) (c0 := 11) (by decide +kernel) d0 (by decide) (by decide) ?_
  intro q1 H1 hA1 hS1
  refine lv_dup hx hb d3 rfl ?_
  have g1r : gup g0 ([] : List AE).length q1 0 = q1 := by
    show (if (0 : Nat) = 0 then q1 else g0 0) = q1
    rw [if_pos rfl]
  obtain ⟨⟨k1, k2⟩, K1⟩ := hAV Q 4 128 11 [Value.ref 0] [Value.ref 0] [.inl (11, dfl 11)] E1 (by decide +kernel) rfl am1_c rfl rfl d4
  have s1 : sE [.inl (11, dfl 11)] = nfL.getD 11 0 := by unfold sE szE; simp
  have n1 : ([.inl (11, dfl 11)] : List AE).length = 1 := rfl
  rw [s1, n1] at K1
  rw [n1] at k1
  rw [s1] at k2
  have f11 : nfL.getD 11 0 = 12 := by decide
  have f12 : nfL.getD 12 0 = 41 := by decide
  obtain ⟨⟨k3, k4⟩, K2⟩ := hAV Q 12 131 12 [Value.ref E1.length] [Value.ref E1.length] (E1 ++ [.inl (12, dfl 12)]) E2 (by decide +kernel) na12 am2_c rfl rfl d12
  rw [len1, sE_po] at K2
  rw [len1] at k3
  rw [sE_po] at k4
  have st1 : F0 m 4 ls [Value.ref q1, Value.ref q1] = F0 m 4 ls ((([Value.ref 0] : List Value).reverse ++ [Value.ref 0]).map (rz (gup g0 ([] : List AE).length q1))) := by
    show F0 m 4 ls [Value.ref q1, Value.ref q1] = F0 m 4 ls [Value.ref (gup g0 ([] : List AE).length q1 0), Value.ref (gup g0 ([] : List AE).length q1 0)]
    rw [g1r]
  show W p l e room_1 s m args below meth c H1 [] _ _ Q (F0 m 4 ls [Value.ref q1, Value.ref q1])
  rw [st1]
  refine K1 _ ls H1 [] (0 + 1) (0 + nfL.getD 11 0) ((gup_ok am0_len 70100 (Or.inr (by decide))).trans he) hl.1 hA1 hS1 (by omega) (by omega) ?_
  intro g2 H2 locs2 hg2 hA2 hS2
  have t1 : F0 m (4 + 3) ls (([Value.ref 0] : List Value).map (rz (gup g0 ([] : List AE).length q1))) = F0 m 7 ls [Value.ref q1] := by
    show F0 m (4 + 3) ls [Value.ref (gup g0 ([] : List AE).length q1 0)] = _
    rw [g1r]
  show W p l e room_1 s m args below meth c H2 locs2 _ _ Q (F0 m (4 + 3) ls (([Value.ref 0] : List Value).map (rz (gup g0 ([] : List AE).length q1))))
  rw [t1]
  refine lv_astore_n (lv' := [(1, Value.ref q1), (0, Value.ref b)]) hx hb d7 rfl hl (by decide) rfl (fun ls hl => ?_)
  refine go_new hc0 hA2 hS2 hw1 (by omega) (k := 129) (c0 := 12) (by decide +kernel) d8 (by omega) (by omega) ?_
  intro q2 H3 hA3 hS3
  refine lv_dup hx hb d11 rfl ?_
  have g3r : gup g2 E1.length q2 E1.length = q2 := by unfold gup; rw [if_pos rfl]
  have st2 : F0 m 12 ls [Value.ref q2, Value.ref q2] = F0 m 12 ls ((([Value.ref E1.length] : List Value).reverse ++ [Value.ref E1.length]).map (rz (gup g2 E1.length q2))) := by
    show F0 m 12 ls [Value.ref q2, Value.ref q2] = F0 m 12 ls [Value.ref (gup g2 E1.length q2 E1.length), Value.ref (gup g2 E1.length q2 E1.length)]
    rw [g3r]
  show W p l e room_1 s m args below meth c H3 locs2 _ _ Q (F0 m 12 ls [Value.ref q2, Value.ref q2])
  rw [st2]
  refine K2 _ ls H3 locs2 _ _ ((gup_ok (by omega) 70100 (Or.inr (by decide))).trans ((hg2 70100 (Or.inr (by decide))).trans ((gup_ok am0_len 70100 (Or.inr (by decide))).trans he))) hl.1 hA3 hS3 (by omega) (by omega) ?_
  intro g4 H4 locs4 hg4 hA4 hS4
  have t2 : F0 m (12 + 3) ls (([Value.ref E1.length] : List Value).map (rz (gup g2 E1.length q2))) = F0 m 15 ls [Value.ref q2] := by
    show F0 m (12 + 3) ls [Value.ref (gup g2 E1.length q2 E1.length)] = _
    rw [g3r]
  show W p l e room_1 s m args below meth c H4 locs4 _ _ Q (F0 m (12 + 3) ls (([Value.ref E1.length] : List Value).map (rz (gup g2 E1.length q2))))
  rw [t2]
  refine lv_astore_n (lv' := [(2, Value.ref q2), (1, Value.ref q1), (0, Value.ref b)]) hx hb d15 rfl hl (by decide) rfl (fun ls hl => ?_)
  refine lv_iconst (v := 1) hx hb d16 (by decide) ?_
  have hone : (1 : Int32).toNatClampNeg = 1 := by decide
  refine go_newa hc0 hA4 hS4 hw2 (by omega) (t := .long) (k := 2) (i := 1) rfl (by decide) (by decide) d17 (by omega) (by rw [hone]; omega) ?_
  intro q3 H5 hA5 hS5
  refine lv_astore_n (lv' := [(3, Value.ref q3), (2, Value.ref q2), (1, Value.ref q1), (0, Value.ref b)]) hx hb d19 rfl hl (by decide) rfl (fun ls hl => ?_)
  refine lv_iconst (v := 0) hx hb d20 (by decide) ?_
  refine lv_istore (lv' := [(4, .int 0), (3, Value.ref q3), (2, Value.ref q2), (1, Value.ref q1), (0, Value.ref b)]) hx hb d21 hl (by decide) rfl (fun ls hl => ?_)
  rw [hone] at hA5 ⊢
  refine W.widen (by omega) (by omega) (kk (gup g4 E2.length q3) H5 locs4 ls (fun i hi => ?_) hA5 hS5 ?_)
  · rw [gup_ok (by omega) i (Or.inr hi), hg4 i (Or.inr hi), gup_ok (by omega) i (Or.inr hi), hg2 i (Or.inr hi), gup_ok am0_len i (Or.inr hi)]
  · have r3 : gup g4 E2.length q3 104 = q3 := by unfold gup; rw [if_pos z2.symm]
    have r2 : gup g4 E2.length q3 n7 = q2 := by
      unfold gup
      rw [if_neg (by omega), ← z1, hg4 _ (Or.inl (by omega)), g3r]
    have r1 : gup g4 E2.length q3 0 = q1 := by
      unfold gup
      rw [if_neg (by omega), hg4 _ (Or.inl (by omega)), gup_ne (by omega), hg2 _ (Or.inl (by omega)), g1r]
    rw [r1, r2, r3]
    exact hl
theorem law_born (hc : CI p room_1 s m args c 13 code 8 D cs s.heap.size e0 6 200 20000) {g0 : Nat → Nat} (he : g0 70100 = e0) {ls : Array Slot} (hl : lv_has ls 8 [(0, Value.ref b)])
    (kk : ∀ (g : Nat → Nat) (H : Heap) (locs : List Loc) (ls : Array Slot), (∀ i, 70000 ≤ i → g i = g0 i) → AOK D cs s.heap.size g amE H → va_S (AB s.heap.size) s.heap H locs → lv_has ls 8 [(4, .int 0), (3, Value.ref (g 104)), (2, Value.ref (g (ix 768))), (1, Value.ref (g 0)), (0, Value.ref b)] → W p l e room_1 s m args below meth c H locs 200 20000 Q (F0 m 23 ls [])) :
    W p l e room_1 s m args below meth c s.heap [] 0 0 Q (F0 m 0 ls []) := by
  obtain ⟨hw, ⟨z1, z2⟩, ⟨x1, x2, x3⟩, z3⟩ := am_num
  refine law_born0 (av_of (l := l) (e := e) (below := below) (meth := meth) hc (con_am 4)) am1_c am2_c (and2 hw).1 (and2 hw).2 z1 z2 x3 z3 hc he hl ?_
  rw [← amE_is]
  exact kk
end LW
