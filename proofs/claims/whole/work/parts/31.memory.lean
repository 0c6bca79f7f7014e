/-! The memory's instructions. -/
theorem two14 {n : Nat} : n / 64 % 16 < 16 := Nat.mod_lt _ (by decide)
theorem lf_in {own k n : Nat} (h : lkf lfL own k = some n) : Cond.fieldLink (on own) k (txc (n / 64) (n % 64)).1 (txc (n / 64) (n % 64)).2.1 (txc (n / 64) (n % 64)).2.2.1 ∈ BIG ∧ n / 64 < 13 ∧ n % 64 < nfL.getD (n / 64) 0 := by
  obtain ⟨e, he, h1, h2, h3⟩ := lkf_mem h
  have h4 := lfL_ok e he
  rw [h1, h2, h3] at h4
  exact ⟨big_of (tbl_of (List.mem_of_getElem? h4.1)) rfl, h4.2⟩
theorem cond_true {b : Bool} {P : Prop} (h : cond b P False) : b = true ∧ P := by
  cases b with
  | true => exact ⟨rfl, h⟩
  | false => exact h.elim
theorem tys0 (cs : cid) : (tysO cs)[0]? = some (cs.1, .int) := rfl
theorem tys1 (cs : cid) : (tysO cs)[1]? = some (cs.2.1, .long) := rfl
theorem tys2 (cs : cid) : (tysO cs)[2]? = some (cs.2.2.1, .byte) := rfl
theorem tys3 (cs : cid) : (tysO cs)[3]? = some (cs.2.2.2, .object "WellPumps$Thing") := rfl
theorem ent_ob {cs : cid} {ad : Nat → Nat} {M : Mm} {o : Nat} (h : o < 1024) : ent cs ad M o = .inr (o / 64, fvs ad M o) := by unfold ent; rw [if_pos h]
theorem ent_ar {cs : cid} {ad : Nat → Nat} {M : Mm} {k t : Nat} (h : ¬ k < 1024) (ht : typ k = t) : ent cs ad M k = arE cs ad M k t := by unfold ent; rw [if_neg h, ht]
theorem BY_I {M : Mm} {k j : Nat} {v : Int32} (h : BY M) (hk : isAr k = true → typ k = 3 → v.toInt8.toInt32 = v) : BY (sI M k j v) := by
  intro a ha ht i
  by_cases e : a = k ∧ i = j
  · rw [e.1, e.2, sI_at]; exact hk (e.1 ▸ ha) (e.1 ▸ ht)
  · rw [sI_ne M v e]; exact h a ha ht i
theorem SC_I {L : Nat} {xs : Nat → Int32} {M : Mm} {k j : Nat} {v : Int32} (h : SCO L xs M) (hk : k ≠ 70001) : SCO L xs (sI M k j v) :=
  ⟨by rw [sI_ne M v (fun q => hk q.1.symm)]; exact h.1, fun i hi => by rw [sI_ne M v (fun q => hk q.1.symm)]; exact h.2 i hi⟩
theorem cells_no : (70001 : Nat) ∉ cells := by decide +kernel
section SM
variable {p : Program} {l : Launch} {e : Env} {R : Room} {s : State} {m : MethodId} {args : Array Value} {below : List Frame} {meth : Method} {c : Code} {H : Heap} {locs : List Loc} {cl sl : Nat} {Q : State → Prop}
variable {cc : ByteArray} {pc : Nat} {ls : Array Slot} {D : va_G} {cs : cid} {ad : Nat → Nat} {L : Nat} {xs : Nat → Int32} {base own : Nat} {M : Mm} {rest : List Value}
/-- a field is read -/
theorem sm_get (hx : p.tables.exec = Jvm.exec) (hb : c.code = cc) (hts : ∀ w ∈ BIG, w.before args s = true) (hown : s.vm.findClass (on own) = some m.cls) (hK : va_K D vwCl (tysO cs) s) (hH : HOK D cs ad L xs M H)
    {o n k : Nat} (ho : isOb (n / 64 % 16) o = true) (hl : lkf lfL own k = some n) (hd : decode cc pc = .ok (.getfield k, 3))
    (kk : W p l e R s m args below meth c H locs cl sl Q (F0 m (pc + 3) ls (fv ad M o (n % 64) :: rest))) : W p l e R s m args below meth c H locs cl sl Q (F0 m pc ls (.ref (ad o) :: rest)) := by
  obtain ⟨h1, h2, h3⟩ := lf_in hl
  obtain ⟨g1, g2, g3, g4⟩ := isOb_spec ho
  rw [Nat.mod_eq_of_lt (show n / 64 < 16 by omega)] at g2
  obtain ⟨q0, -, hq⟩ := ws_at (cs := cs) (ad := ad) (M := M) g1
  rw [ent_ob g3, g2] at hq
  exact va_get (D := D) (C := on (n / 64)) (T := txc (n / 64)) (N := nfL.getD (n / 64) 0) hx hb hts (clW _ h2) hown hK hH.1 q0 hq (clA _ h2) (n % 64) h3 (hts _ h1) (fun _ h => h) (fvs_at (by rw [g2]; exact h3)) hd kk
/-- a field is written -/
theorem sm_put (hx : p.tables.exec = Jvm.exec) (hb : c.code = cc) (hts : ∀ w ∈ BIG, w.before args s = true) (hown : s.vm.findClass (on own) = some m.cls) (hK : va_K D vwCl (tysO cs) s) (hA : ADK ad base) (hH : va_P D vwCl (wsO cs ad M) H) (hS : va_S (AB base) s.heap H locs)
    {o n k : Nat} (ho : isOb (n / 64 % 16) o = true) (hl : lkf lfL own k = some n) (hd : decode cc pc = .ok (.putfield k, 3)) {M' : Mm} {v : Value} {ty : FieldType}
    (hty : n / 64 < 13 → n % 64 < nfL.getD (n / 64) 0 → tyc (n / 64) (n % 64) = ty ∧ (txc (n / 64) (n % 64)).2.2.2 = false) (hn : narrow ty v = v) (hf : fits ty v = true)
    (hv : o / 64 = n / 64 → fv ad M' o (n % 64) = v) (hj : ∀ j, j ≠ n % 64 → fv ad M' o j = fv ad M o j) (hj2 : ∀ j, j ≠ o → ent cs ad M' j = ent cs ad M j)
    (kk : ∀ (H1 : Heap) (locs1 : List Loc), va_P D vwCl (wsO cs ad M') H1 → va_S (AB base) s.heap H1 locs1 → W p l e R s m args below meth c H1 locs1 cl sl Q (F0 m (pc + 3) ls rest)) : W p l e R s m args below meth c H locs cl sl Q (F0 m pc ls (v :: .ref (ad o) :: rest)) := by
  obtain ⟨h1, h2, h3⟩ := lf_in hl
  obtain ⟨g1, g2, g3, g4⟩ := isOb_spec ho
  rw [Nat.mod_eq_of_lt (show n / 64 < 16 by omega)] at g2
  obtain ⟨q0, hq0, hq⟩ := ws_at (cs := cs) (ad := ad) (M := M) g1
  rw [ent_ob g3, g2] at hq
  obtain ⟨t1, t2⟩ := hty h2 h3
  have hfs : (fvs ad M o).set (n % 64) v = fvs ad M' o := fvs_set (hv g2) hj
  refine va_put (D := D) (C := on (n / 64)) (T := txc (n / 64)) (N := nfL.getD (n / 64) 0) hx hb hts (clW _ h2) (tyc (n / 64)) (clT _ h2) (clN _ h2) hown hK hH (ws_D hA) hS q0 hq (clA _ h2) (n % 64) h3 (hts _ h1) (fun _ h => h) t2 (ty := ty) (by rw [← t1]; exact clT _ h2 _ h3) hn hf (by rw [fvs_len, g2]; exact h3) hd (fun H1 locs1 p1 _ p3 => kk H1 locs1 ?_ p3)
  rw [hfs] at p1
  have e2 : (wsO cs ad M).set q0 (ad o, .inr (n / 64, fvs ad M' o)) = wsO cs ad M' := by
    rw [← g2, ← ent_ob (cs := cs) g3]
    exact ws_set hq0 (fun j _ hne => hj2 j hne)
  rw [e2] at p1
  exact p1
end SM
