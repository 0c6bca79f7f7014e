section SM2
variable {p : Program} {l : Launch} {e : Env} {R : Room} {s : State} {m : MethodId} {args : Array Value} {below : List Frame} {meth : Method} {c : Code} {H : Heap} {locs : List Loc} {cl sl : Nat} {Q : State → Prop}
variable {cc : ByteArray} {pc : Nat} {ls : Array Slot} {D : va_G} {cs : cid} {ad : Nat → Nat} {L : Nat} {xs : Nat → Int32} {base own : Nat} {M : Mm} {rest : List Value}
theorem er_some {ad : Nat → Nat} {r : Nat} (h : isE r = true) : er ad r = some (ad r) := by
  unfold er
  rw [if_neg]
  intro e0
  subst e0
  cases h
theorem isE_spec {r : Nat} (h : isE r = true) : ∃ i, i < 18 ∧ r = 70100 + i := by
  unfold isE at h
  simp only [Bool.and_eq_true] at h
  have h1 := Nat.le_of_ble_eq_true h.1
  have h2 : r < 70118 := Nat.blt_eq.mp h.2
  exact ⟨r - 70100, by omega, by omega⟩
theorem and2 {a b : Bool} (h : (a && b) = true) : a = true ∧ b = true := by simpa using h
theorem dec {P : Prop} [Decidable P] (h : decide P = true) : P := of_decide_eq_true h
theorem HOK.I {k j : Nat} {v : Int32} {H1 : Heap} (h : HOK D cs ad L xs M H) (hp : va_P D vwCl (wsO cs ad (sI M k j v)) H1) (hk : isAr k = true → typ k = 3 → v.toInt8.toInt32 = v) (hc : k ∈ cells) : HOK D cs ad L xs (sI M k j v) H1 :=
  ⟨hp, BY_I h.2.1 hk, SC_I h.2.2 (fun q => cells_no (q ▸ hc))⟩
theorem HOK.J {k j : Nat} {v : Int64} {H1 : Heap} (h : HOK D cs ad L xs M H) (hp : va_P D vwCl (wsO cs ad (sJ M k j v)) H1) : HOK D cs ad L xs (sJ M k j v) H1 := ⟨hp, h.2.1, h.2.2⟩
theorem HOK.Rf {k j v : Nat} {H1 : Heap} (h : HOK D cs ad L xs M H) (hp : va_P D vwCl (wsO cs ad (sR M k j v)) H1) : HOK D cs ad L xs (sR M k j v) H1 := ⟨hp, h.2.1, h.2.2⟩
theorem ar_I {a : Nat} (ha : isAr a = true) {t : Nat} (ht : typ a = t) (hH : HOK D cs ad L xs M H) : ∃ q0 : Nat, cells[q0]? = some a ∧ (wsO cs ad M)[q0]? = some (ad a, arE cs ad M a t) := by
  obtain ⟨h1, h2⟩ := isAr_spec ha
  obtain ⟨q0, e1, e2⟩ := ws_at (cs := cs) (ad := ad) (M := M) h1
  rw [ent_ar h2 ht] at e2
  exact ⟨q0, e1, e2⟩
theorem nar_b (v : Int32) : vp_nar .byte v = v.toInt8.toInt32 := rfl
theorem b88 (v : Int32) : v.toInt8.toInt32.toInt8.toInt32 = v.toInt8.toInt32 := by
  rw [Int8.toInt8_toInt32]
theorem sm_iast (hx : p.tables.exec = Jvm.exec) (hb : c.code = cc) (hK : va_K D vwCl (tysO cs) s) (hA : ADK ad base) (hH : HOK D cs ad L xs M H) (hS : va_S (AB base) s.heap H locs) {a : Nat} {i v : Int32} (ha : isAr a = true) (ht : typ a = 1) (hin : vp_in i (len a)) (hd : decode cc pc = .ok (.iastore, 1))
    (kk : ∀ (H1 : Heap) (locs1 : List Loc), HOK D cs ad L xs (sI M a i.toNatClampNeg v) H1 → va_S (AB base) s.heap H1 locs1 → W p l e R s m args below meth c H1 locs1 cl sl Q (F0 m (pc + 1) ls rest)) : W p l e R s m args below meth c H locs cl sl Q (F0 m pc ls (.int v :: .int i :: .ref (ad a) :: rest)) := by
  obtain ⟨q0, e1, e2⟩ := ar_I ha ht hH
  refine va_iast hx hb hK hH.1 (ws_D hA) hS q0 0 e2 (tys0 cs) hin hd (fun H1 locs1 p1 _ p3 => kk H1 locs1 (hH.I ?_ (fun _ h3 => by rw [ht] at h3; cases h3) (isAr_spec ha).1) p3)
  have e3 : (ad a, (.inl (cs.1, len a, .inl (upd (M.1 a) i.toNatClampNeg v)) : va_E)) = (ad a, ent cs ad (sI M a i.toNatClampNeg v) a) := by
    rw [ent_ar (isAr_spec ha).2 ht]
    show _ = (ad a, (.inl (cs.1, len a, .inl ((sI M a i.toNatClampNeg v).1 a)) : va_E))
    rw [sI_row]
  rw [e3, ws_set e1 (fun j _ hne => ent_sI hne)] at p1
  exact p1
theorem sm_bast (hx : p.tables.exec = Jvm.exec) (hb : c.code = cc) (hK : va_K D vwCl (tysO cs) s) (hA : ADK ad base) (hH : HOK D cs ad L xs M H) (hS : va_S (AB base) s.heap H locs) {a : Nat} {i v : Int32} (ha : isAr a = true) (ht : typ a = 3) (hin : vp_in i (len a)) (hd : decode cc pc = .ok (.bastore, 1))
    (kk : ∀ (H1 : Heap) (locs1 : List Loc), HOK D cs ad L xs (sI M a i.toNatClampNeg v.toInt8.toInt32) H1 → va_S (AB base) s.heap H1 locs1 → W p l e R s m args below meth c H1 locs1 cl sl Q (F0 m (pc + 1) ls rest)) : W p l e R s m args below meth c H locs cl sl Q (F0 m pc ls (.int v :: .int i :: .ref (ad a) :: rest)) := by
  obtain ⟨q0, e1, e2⟩ := ar_I ha ht hH
  refine va_bast hx hb hK hH.1 (ws_D hA) hS q0 2 e2 (tys2 cs) hin hd (fun H1 locs1 p1 _ p3 => kk H1 locs1 (hH.I ?_ (fun _ _ => b88 v) (isAr_spec ha).1) p3)
  have e3 : (ad a, (.inl (cs.2.2.1, len a, .inl (upd (M.1 a) i.toNatClampNeg (vp_nar .byte v))) : va_E)) = (ad a, ent cs ad (sI M a i.toNatClampNeg v.toInt8.toInt32) a) := by
    rw [ent_ar (isAr_spec ha).2 ht]
    show _ = (ad a, (.inl (cs.2.2.1, len a, .inl ((sI M a i.toNatClampNeg v.toInt8.toInt32).1 a)) : va_E))
    rw [sI_row]; rfl
  rw [e3, ws_set e1 (fun j _ hne => ent_sI hne)] at p1
  exact p1
theorem sm_last (hx : p.tables.exec = Jvm.exec) (hb : c.code = cc) (hK : va_K D vwCl (tysO cs) s) (hA : ADK ad base) (hH : HOK D cs ad L xs M H) (hS : va_S (AB base) s.heap H locs) {a : Nat} {i : Int32} {v : Int64} (ha : isAr a = true) (ht : typ a = 2) (hin : vp_in i (len a)) (hd : decode cc pc = .ok (.lastore, 1))
    (kk : ∀ (H1 : Heap) (locs1 : List Loc), HOK D cs ad L xs (sJ M a i.toNatClampNeg v) H1 → va_S (AB base) s.heap H1 locs1 → W p l e R s m args below meth c H1 locs1 cl sl Q (F0 m (pc + 1) ls rest)) : W p l e R s m args below meth c H locs cl sl Q (F0 m pc ls (.long v :: .int i :: .ref (ad a) :: rest)) := by
  obtain ⟨q0, e1, e2⟩ := ar_I ha ht hH
  refine va_last hx hb hK hH.1 (ws_D hA) hS q0 1 e2 (tys1 cs) hin hd (fun H1 locs1 p1 _ p3 => kk H1 locs1 (hH.J ?_) p3)
  have e3 : (ad a, (.inl (cs.2.1, len a, .inr (.inl (vp_updL (M.2.1 a) i.toNatClampNeg v))) : va_E)) = (ad a, ent cs ad (sJ M a i.toNatClampNeg v) a) := by
    rw [ent_ar (isAr_spec ha).2 ht]
    show _ = (ad a, (.inl (cs.2.1, len a, .inr (.inl ((sJ M a i.toNatClampNeg v).2.1 a))) : va_E))
    rw [sJ_row]
  rw [e3, ws_set e1 (fun j _ hne => ent_sJ hne)] at p1
  exact p1
theorem sm_aast (hx : p.tables.exec = Jvm.exec) (hb : c.code = cc) (hK : va_K D vwCl (tysO cs) s) (hSt : STK ad base s) (hA : ADK ad base) (hH : HOK D cs ad L xs M H) (hS : va_S (AB base) s.heap H locs) {a v : Nat} {i : Int32} (ha : isAr a = true) (ht : typ a = 4) (hv : isE v = true) (hin : vp_in i (len a)) (hd : decode cc pc = .ok (.aastore, 1))
    (kk : ∀ (H1 : Heap) (locs1 : List Loc), HOK D cs ad L xs (sR M a i.toNatClampNeg v) H1 → va_S (AB base) s.heap H1 locs1 → W p l e R s m args below meth c H1 locs1 cl sl Q (F0 m (pc + 1) ls rest)) : W p l e R s m args below meth c H locs cl sl Q (F0 m pc ls (.ref (ad v) :: .int i :: .ref (ad a) :: rest)) := by
  obtain ⟨q0, e1, e2⟩ := ar_I ha ht hH
  have hany : va_Any "WellPumps$Thing" s H (ad v) := by
    obtain ⟨w, hw, rfl⟩ := isE_spec hv
    obtain ⟨cell, g1, g2, g3⟩ := va_recvE hSt.1 (i := w) hw hS
    obtain ⟨k9, h9, -⟩ := Vm.findClass_spec g3
    refine ⟨cell, g1, g2, ⟨k9, h9⟩, fun comp hc => ?_⟩
    cases Option.some.inj (g3.symm.trans hc)
    exact va_asg _ _
  refine va_astqM hx hb hK hH.1 (ws_D hA) hS q0 3 e2 (tys3 cs) hany hin hd (fun H1 locs1 p1 _ p3 => kk H1 locs1 (hH.Rf ?_) p3)
  have e3 : (ad a, (.inl (cs.2.2.2, len a, .inr (.inr (.inr (.inr (va_up (fun j => er ad (M.2.2 a j)) i.toNatClampNeg (some (ad v))))))) : va_E)) = (ad a, ent cs ad (sR M a i.toNatClampNeg v) a) := by
    rw [ent_ar (isAr_spec ha).2 ht]
    show _ = (ad a, (.inl (cs.2.2.2, len a, .inr (.inr (.inr (.inr (fun j => er ad ((sR M a i.toNatClampNeg v).2.2 a j)))))) : va_E))
    congr 8
    funext j
    by_cases ej : j = i.toNatClampNeg
    · subst ej; rw [sR_at, er_some hv]; simp [va_up]
    · rw [sR_ne M v (fun q => ej q.2)]; simp [va_up, ej]
  rw [e3, ws_set e1 (fun j _ hne => ent_sR hne)] at p1
  exact p1
theorem sm_ld (hx : p.tables.exec = Jvm.exec) (hb : c.code = cc) (hK : va_K D vwCl (tysO cs) s) (hH : HOK D cs ad L xs M H) {a : Nat} (ha : isAr a = true) (hd : decode cc pc = .ok (.arraylength, 1))
    (ht : typ a ≠ 0) (kk : W p l e R s m args below meth c H locs cl sl Q (F0 m (pc + 1) ls (.int (nI (len a)) :: rest))) : W p l e R s m args below meth c H locs cl sl Q (F0 m pc ls (.ref (ad a) :: rest)) := by
  obtain ⟨q0, e1, e2⟩ := ar_I ha rfl hH
  unfold arE at e2
  split at e2
  · exact va_alen hx hb hK hH.1 q0 0 e2 (tys0 cs) rfl hd kk
  · exact va_alen hx hb hK hH.1 q0 1 e2 (tys1 cs) rfl hd kk
  · exact va_alen hx hb hK hH.1 q0 2 e2 (tys2 cs) rfl hd kk
  · exact va_alen hx hb hK hH.1 q0 3 e2 (tys3 cs) rfl hd kk
end SM2
