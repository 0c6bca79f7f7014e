/-! The start: the law's frame comes to its loop. -/
theorem law_d : (decode code 0 = .ok (.new 8, 3) ∧ decode code 3 = .ok (.dup, 1) ∧ decode code 4 = .ok (.invokespecial 128, 3) ∧ decode code 7 = .ok (.astore_n 1, 1)) ∧ (decode code 8 = .ok (.new 129, 3) ∧ decode code 11 = .ok (.dup, 1) ∧ decode code 12 = .ok (.invokespecial 131, 3) ∧ decode code 15 = .ok (.astore_n 2, 1)) ∧ (decode code 16 = .ok (.iconst 1, 1) ∧ decode code 17 = .ok (.newarray .long, 2) ∧ decode code 19 = .ok (.astore_n 3, 1)) ∧ decode code 20 = .ok (.iconst 0, 1) ∧ decode code 21 = .ok (.istore 4, 2) := by decide +kernel
def am1 : List AE := (am 4 11 [.ref 0] [.inl (11, dfl 11)]).getD []
def am2 : List AE := (am 4 12 [.ref am1.length] (am1 ++ [.inl (12, dfl 12)])).getD []
theorem am1_ok : ((am 4 11 [.ref 0] [.inl (11, dfl 11)]).isSome && (am 4 12 [.ref am1.length] (am1 ++ [.inl (12, dfl 12)])).isSome) = true := by decide +kernel
theorem am1_is : am 4 11 [.ref 0] [.inl (11, dfl 11)] = some am1 := by
  have h := (and2 am1_ok).1
  unfold am1
  cases hq : am 4 11 [.ref 0] [.inl (11, dfl 11)] with
  | none => rw [hq] at h; cases h
  | some x => rfl
theorem am2_is : am 4 12 [.ref am1.length] (am1 ++ [.inl (12, dfl 12)]) = some am2 := by
  have h := (and2 am1_ok).2
  unfold am2
  cases hq : am 4 12 [.ref am1.length] (am1 ++ [.inl (12, dfl 12)]) with
  | none => rw [hq] at h; cases h
  | some x => rfl
theorem amE_is : amE = am2 ++ [.inr (2, 1, [])] := by
  unfold amE amS
  rw [am1_is]
  dsimp only
  rw [am2_is]
  rfl
theorem am_num : (am1.all (wfE am1.length) && am2.all (wfE am2.length)) = true ∧ (am1.length = ix 768 ∧ am2.length = 104) ∧ (ix 704 = 0 ∧ ix 70000 = 104 ∧ ix 768 < 104) ∧ sE am2 ≤ 18300 := by decide +kernel
theorem gup_ne {g : Nat → Nat} {n q i : Nat} (h : i ≠ n) : gup g n q i = g i := by unfold gup; rw [if_neg h]
section LW
variable {p : Program} {l : Launch} {e : Env} {s : State} {m : MethodId} {args : Array Value} {below : List Frame} {meth : Method} {c : Code} {D : va_G} {cs : cid} {e0 b : Nat} {Q : State → Prop}
set_option maxHeartbeats 4000000 in
theorem law_born (hc : CI p room_1 s m args c 13 code 8 D cs s.heap.size e0 6 200 20000) {g0 : Nat → Nat} (he : g0 70100 = e0) {ls : Array Slot} (hl : lv_has ls 8 [(0, .ref b)])
    (kk : ∀ (g : Nat → Nat) (H : Heap) (locs : List Loc) (ls : Array Slot), (∀ i, 70000 ≤ i → g i = g0 i) → AOK D cs s.heap.size g amE H → va_S (AB s.heap.size) s.heap H locs → lv_has ls 8 [(4, .int 0), (3, .ref (g 104)), (2, .ref (g (ix 768))), (1, .ref (g 0)), (0, .ref b)] → W p l e room_1 s m args below meth c H locs 200 20000 Q (F0 m 23 ls [])) :
    W p l e room_1 s m args below meth c s.heap [] 0 0 Q (F0 m 0 ls []) := by
  have hc0 := hc
  obtain ⟨hx, hb, hml, hts, hown, hK, hfr, hlo, hmc, hms⟩ := hc
  obtain ⟨⟨d0, d3, d4, d7⟩, ⟨d8, d11, d12, d15⟩, ⟨d16, d17, d19⟩, d20, d21⟩ := law_d
  obtain ⟨hw, ⟨z1, z2⟩, ⟨x1, x2, x3⟩, z3⟩ := am_num
  have hw1 := (and2 hw).1
  have hw2 := (and2 hw).2
  have hAV := fun Q => av_of (l := l) (e := e) (below := below) (meth := meth) hc0 (con_am (l := l) (D := D) (cs := cs) (base := s.heap.size) (e0 := e0) 4) (Q := Q)
  have hA0 : AOK D cs s.heap.size g0 [] s.heap := ⟨fun k q hq => by simp [wsA] at hq, ⟨fun i j p q hp => by simp [wsA] at hp, fun k q hq => by simp [wsA] at hq⟩⟩
  refine go_new hc0 hA0 va_S.rf rfl (by decide) (k := 8) (c0 := 11) rfl d0 (by decide) (by decide) ?_
  intro q1 H1 hA1 hS1
  refine lv_dup hx hb d3 rfl ?_
  have g1r : gup g0 ([] : List AE).length q1 0 = q1 := by unfold gup; rw [if_pos rfl]
  obtain ⟨⟨k1, k2⟩, K1⟩ := hAV Q 4 128 11 [.ref 0] [.ref 0] [.inl (11, dfl 11)] am1 rfl rfl am1_is rfl rfl d4
  have s1 : sE [.inl (11, dfl 11)] = nfL.getD 11 0 := by unfold sE szE; simp
  have n1 : ([.inl (11, dfl 11)] : List AE).length = 1 := rfl
  rw [s1, n1] at K1 k1
  rw [s1] at k2
  have f11 : nfL.getD 11 0 = 12 := by decide
  have f12 : nfL.getD 12 0 = 41 := by decide
  obtain ⟨⟨k3, k4⟩, K2⟩ := hAV Q 12 131 12 [.ref am1.length] [.ref am1.length] (am1 ++ [.inl (12, dfl 12)]) am2 rfl rfl am2_is rfl rfl d12
  rw [len1, sE_po] at K2
  rw [len1] at k3
  rw [sE_po] at k4
  have st1 : F0 m 4 ls [.ref q1, .ref q1] = F0 m 4 ls ((([.ref 0] : List Value).reverse ++ [.ref 0]).map (rz (gup g0 ([] : List AE).length q1))) := by
    show F0 m 4 ls [.ref q1, .ref q1] = F0 m 4 ls [.ref (gup g0 ([] : List AE).length q1 0), .ref (gup g0 ([] : List AE).length q1 0)]
    rw [g1r]
  rw [st1]
  refine K1 _ ls H1 [] _ _ ((gup_ok (by decide) 70100 (Or.inr (by decide))).trans he) hl.1 hA1 hS1 (by omega) (by omega) ?_
  intro g2 H2 locs2 hg2 hA2 hS2
  have t1 : F0 m (4 + 3) ls (([.ref 0] : List Value).map (rz (gup g0 ([] : List AE).length q1))) = F0 m 7 ls [.ref q1] := by
    show F0 m (4 + 3) ls [.ref (gup g0 ([] : List AE).length q1 0)] = _
    rw [g1r]
  rw [t1]
  refine lv_astore_n (lv' := [(1, .ref q1), (0, .ref b)]) hx hb d7 rfl hl (by decide) rfl (fun ls hl => ?_)
  refine go_new hc0 hA2 hS2 hw1 (by omega) (k := 129) (c0 := 12) rfl d8 (by omega) (by omega) ?_
  intro q2 H3 hA3 hS3
  refine lv_dup hx hb d11 rfl ?_
  have g3r : gup g2 am1.length q2 am1.length = q2 := by unfold gup; rw [if_pos rfl]
  have st2 : F0 m 12 ls [.ref q2, .ref q2] = F0 m 12 ls ((([.ref am1.length] : List Value).reverse ++ [.ref am1.length]).map (rz (gup g2 am1.length q2))) := by
    show F0 m 12 ls [.ref q2, .ref q2] = F0 m 12 ls [.ref (gup g2 am1.length q2 am1.length), .ref (gup g2 am1.length q2 am1.length)]
    rw [g3r]
  rw [st2]
  refine K2 _ ls H3 locs2 _ _ ((gup_ok (by omega) 70100 (Or.inr (by decide))).trans ((hg2 70100 (Or.inr (by decide))).trans ((gup_ok (by decide) 70100 (Or.inr (by decide))).trans he))) hl.1 hA3 hS3 (by omega) (by omega) ?_
  intro g4 H4 locs4 hg4 hA4 hS4
  have t2 : F0 m (12 + 3) ls (([.ref am1.length] : List Value).map (rz (gup g2 am1.length q2))) = F0 m 15 ls [.ref q2] := by
    show F0 m (12 + 3) ls [.ref (gup g2 am1.length q2 am1.length)] = _
    rw [g3r]
  rw [t2]
  refine lv_astore_n (lv' := [(2, .ref q2), (1, .ref q1), (0, .ref b)]) hx hb d15 rfl hl (by decide) rfl (fun ls hl => ?_)
  refine lv_iconst (v := 1) hx hb d16 (by decide) ?_
  refine go_newa hc0 hA4 hS4 hw2 (by omega) (t := .long) (k := 2) (i := 1) rfl (by decide) (by decide) d17 (by omega) (by have : (1 : Int32).toNatClampNeg = 1 := by decide
                                                                                                                      omega) ?_
  intro q3 H5 hA5 hS5
  refine lv_astore_n (lv' := [(3, .ref q3), (2, .ref q2), (1, .ref q1), (0, .ref b)]) hx hb d19 rfl hl (by decide) rfl (fun ls hl => ?_)
  refine lv_iconst (v := 0) hx hb d20 (by decide) ?_
  refine lv_istore (lv' := [(4, .int 0), (3, .ref q3), (2, .ref q2), (1, .ref q1), (0, .ref b)]) hx hb d21 hl (by decide) rfl (fun ls hl => ?_)
  have hone : (1 : Int32).toNatClampNeg = 1 := by decide
  rw [hone] at hA5 ⊢
  rw [← amE_is] at hA5
  refine W.widen (by omega) (by omega) (kk (gup g4 am2.length q3) H5 locs4 ls (fun i hi => ?_) hA5 hS5 ?_)
  · rw [gup_ok (by omega) i (Or.inr hi), hg4 i (Or.inr hi), gup_ok (by omega) i (Or.inr hi), hg2 i (Or.inr hi), gup_ok (by decide) i (Or.inr hi)]
  · have r3 : gup g4 am2.length q3 104 = q3 := by unfold gup; rw [if_pos z2.symm]
    have r2 : gup g4 am2.length q3 (ix 768) = q2 := by
      unfold gup
      rw [if_neg (by omega), ← z1, hg4 _ (Or.inl (by rw [len1]; omega)), g3r]
    have r1 : gup g4 am2.length q3 0 = q1 := by
      unfold gup
      rw [if_neg (by omega), hg4 _ (Or.inl (by rw [len1]; omega)), gup_ne (by omega), hg2 _ (Or.inl (by rw [n1]; omega)), g1r]
    rw [r1, r2, r3]
    exact hl
end LW
