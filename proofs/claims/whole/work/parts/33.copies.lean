section SM3
variable {p : Program} {l : Launch} {e : Env} {R : Room} {s : State} {m : MethodId} {args : Array Value} {below : List Frame} {meth : Method} {c : Code} {H : Heap} {locs : List Loc} {cl sl : Nat} {Q : State → Prop}
variable {cc : ByteArray} {pc : Nat} {ls : Array Slot} {D : va_G} {cs : cid} {ad : Nat → Nat} {L : Nat} {xs : Nat → Int32} {base own : Nat} {M : Mm} {rest : List Value}
theorem sp_in : Cond.fieldLink RX7 77 "WellPumps$Thing" "spelling" "Ljava/lang/String;" ∈ BIG := big_of (by decide +kernel) rfl
theorem na_in : Cond.native arraycopyName ∈ BIG := big_of (by decide +kernel) rfl
theorem sa_in : Cond.static arraycopyName ∈ BIG := big_of (by decide +kernel) rfl
theorem si_in : Cond.initialized "java/lang/System" ∈ BIG := big_of (by decide +kernel) rfl
theorem la_in {own k : Nat} (h : laL.any (fun e => Nat.beq e.1 own && Nat.beq e.2.1 k) = true) : Cond.methodLink (on own) k arraycopyName ∈ BIG := by
  obtain ⟨e, he, h1⟩ := List.any_eq_true.mp h
  have h2 := and2 h1
  have h3 := laL_ok e he
  rw [beqN h2.1, beqN h2.2] at h3
  exact big_of (tbl_of (List.mem_of_getElem? h3)) rfl
theorem cpI_row (M : Mm) (x y sp dp n : Nat) : (cpI M x y sp dp n).1 y = va_cpy (M.1 x) (M.1 y) sp dp n := by
  funext b
  by_cases hb : dp ≤ b ∧ b < dp + n
  · simp [cpI, va_cpy, hb]
  · simp only [cpI, va_cpy, hb, and_false, if_false]
theorem cpJ_row (M : Mm) (x y sp dp n : Nat) : (cpJ M x y sp dp n).2.1 y = va_cpy (M.2.1 x) (M.2.1 y) sp dp n := by
  funext b
  by_cases hb : dp ≤ b ∧ b < dp + n
  · simp [cpJ, va_cpy, hb]
  · simp only [cpJ, va_cpy, hb, and_false, if_false]
theorem cpI_ne (M : Mm) {x y sp dp n a : Nat} (h : a ≠ y) (b : Nat) : (cpI M x y sp dp n).1 a b = M.1 a b := by simp [cpI, h]
theorem cpJ_ne (M : Mm) {x y sp dp n a : Nat} (h : a ≠ y) (b : Nat) : (cpJ M x y sp dp n).2.1 a b = M.2.1 a b := by simp [cpJ, h]
theorem ent_cpI {M : Mm} {x y sp dp n a : Nat} (h : a ≠ y) : ent cs ad (cpI M x y sp dp n) a = ent cs ad M a := by
  have e0 : (cpI M x y sp dp n).1 a = M.1 a := funext (cpI_ne M h)
  unfold ent
  have e1 : fvs ad (cpI M x y sp dp n) a = fvs ad M a := by
    unfold fvs; congr 1; funext s; unfold fv
    rw [e0]; rfl
  have e2 : arE cs ad (cpI M x y sp dp n) a (typ a) = arE cs ad M a (typ a) := by
    unfold arE; rw [e0]; rfl
  rw [e1, e2]
theorem ent_cpJ {M : Mm} {x y sp dp n a : Nat} (h : a ≠ y) : ent cs ad (cpJ M x y sp dp n) a = ent cs ad M a := by
  have e0 : (cpJ M x y sp dp n).2.1 a = M.2.1 a := funext (cpJ_ne M h)
  unfold ent
  have e1 : fvs ad (cpJ M x y sp dp n) a = fvs ad M a := by
    unfold fvs; congr 1; funext s; unfold fv
    rw [e0]; rfl
  have e2 : arE cs ad (cpJ M x y sp dp n) a (typ a) = arE cs ad M a (typ a) := by
    unfold arE; rw [e0]; rfl
  rw [e1, e2]
theorem sm_cpy1 (hx : p.tables.exec = Jvm.exec) (hb : c.code = cc) (hml : c.maxLocals = ls.size) (hts : ∀ w ∈ BIG, w.before args s = true) (hown : s.vm.findClass (on own) = some m.cls) (hK : va_K D vwCl (tysO cs) s) (hA : ADK ad base) (hH : HOK D cs ad L xs M H) (hS : va_S (AB base) s.heap H locs) (hf1 : 1 ≤ R.frames) (hf2 : 60 ≤ R.locals)
    {k x y : Nat} {n dp sp : Int32} (hl : laL.any (fun e => Nat.beq e.1 own && Nat.beq e.2.1 k) = true) (hd : decode cc pc = .ok (.invokestatic k, 3)) (hx1 : isAr x = true) (hy1 : isAr y = true) (hx2 : typ x = 1) (hy2 : typ y = 1)
    (hq : ¬ sp < 0 ∧ ¬ dp < 0 ∧ ¬ n < 0 ∧ sp.toNatClampNeg + n.toNatClampNeg ≤ len x ∧ dp.toNatClampNeg + n.toNatClampNeg ≤ len y)
    (kk : ∀ (H1 : Heap) (locs1 : List Loc), HOK D cs ad L xs (cpI M x y sp.toNatClampNeg dp.toNatClampNeg n.toNatClampNeg) H1 → va_S (AB base) s.heap H1 locs1 → W p l e R s m args below meth c H1 locs1 cl sl Q (F0 m (pc + 3) ls [])) : W p l e R s m args below meth c H locs cl sl Q (F0 m pc ls [.int n, .int dp, .ref (ad y), .int sp, .ref (ad x)]) := by
  obtain ⟨p0, -, e0⟩ := ar_I hx1 hx2 hH
  obtain ⟨p1, f1, e1⟩ := ar_I hy1 hy2 hH
  refine va_copyi hx hb hml hown (hts _ (la_in hl)) (hts _ na_in) (hts _ sa_in) (hts _ si_in) hK hH.1 (ws_D hA) hS p0 p1 0 0 e0 e1 (tys0 cs) (tys0 cs) rfl hq.1 hq.2.1 hq.2.2.1 hq.2.2.2.1 hq.2.2.2.2 (fun i _ => rfl) hf1 (by show 0 + (7 + 11) ≤ _; omega) hd (fun H1 locs1 q1 _ q3 => kk H1 locs1 ⟨?_, ?_, ?_⟩ q3)
  · have e3 : (ad y, (.inl (cs.1, len y, .inl (va_cpy (M.1 x) (M.1 y) sp.toNatClampNeg dp.toNatClampNeg n.toNatClampNeg)) : va_E)) = (ad y, ent cs ad (cpI M x y sp.toNatClampNeg dp.toNatClampNeg n.toNatClampNeg) y) := by
      rw [ent_ar (isAr_spec hy1).2 hy2]
      show _ = (ad y, (.inl (cs.1, len y, .inl ((cpI M x y sp.toNatClampNeg dp.toNatClampNeg n.toNatClampNeg).1 y)) : va_E))
      rw [cpI_row]
    rw [e3, ws_set f1 (fun j _ hne => ent_cpI hne)] at q1
    exact q1
  · intro a ha ht j
    have hne : a ≠ y := fun e9 => by rw [e9, hy2] at ht; cases ht
    rw [cpI_ne M hne]
    exact hH.2.1 a ha ht j
  · have hne : (70001 : Nat) ≠ y := fun e9 => cells_no (e9 ▸ (isAr_spec hy1).1)
    exact ⟨by rw [cpI_ne M hne]; exact hH.2.2.1, fun j hj => by rw [cpI_ne M hne]; exact hH.2.2.2 j hj⟩
theorem sm_cpy3 (hx : p.tables.exec = Jvm.exec) (hb : c.code = cc) (hml : c.maxLocals = ls.size) (hts : ∀ w ∈ BIG, w.before args s = true) (hown : s.vm.findClass (on own) = some m.cls) (hK : va_K D vwCl (tysO cs) s) (hA : ADK ad base) (hH : HOK D cs ad L xs M H) (hS : va_S (AB base) s.heap H locs) (hf1 : 1 ≤ R.frames) (hf2 : 60 ≤ R.locals)
    {k x y : Nat} {n dp sp : Int32} (hl : laL.any (fun e => Nat.beq e.1 own && Nat.beq e.2.1 k) = true) (hd : decode cc pc = .ok (.invokestatic k, 3)) (hx1 : isAr x = true) (hy1 : isAr y = true) (hx2 : typ x = 3) (hy2 : typ y = 3)
    (hq : ¬ sp < 0 ∧ ¬ dp < 0 ∧ ¬ n < 0 ∧ sp.toNatClampNeg + n.toNatClampNeg ≤ len x ∧ dp.toNatClampNeg + n.toNatClampNeg ≤ len y)
    (kk : ∀ (H1 : Heap) (locs1 : List Loc), HOK D cs ad L xs (cpI M x y sp.toNatClampNeg dp.toNatClampNeg n.toNatClampNeg) H1 → va_S (AB base) s.heap H1 locs1 → W p l e R s m args below meth c H1 locs1 cl sl Q (F0 m (pc + 3) ls [])) : W p l e R s m args below meth c H locs cl sl Q (F0 m pc ls [.int n, .int dp, .ref (ad y), .int sp, .ref (ad x)]) := by
  obtain ⟨p0, -, e0⟩ := ar_I hx1 hx2 hH
  obtain ⟨p1, f1, e1⟩ := ar_I hy1 hy2 hH
  refine va_copyi hx hb hml hown (hts _ (la_in hl)) (hts _ na_in) (hts _ sa_in) (hts _ si_in) hK hH.1 (ws_D hA) hS p0 p1 2 2 e0 e1 (tys2 cs) (tys2 cs) rfl hq.1 hq.2.1 hq.2.2.1 hq.2.2.2.1 hq.2.2.2.2 (fun i _ => by rw [← hH.2.1 x hx1 hx2]; exact pk_fb _) hf1 (by show 0 + (7 + 11) ≤ _; omega) hd (fun H1 locs1 q1 _ q3 => kk H1 locs1 ⟨?_, ?_, ?_⟩ q3)
  · have e3 : (ad y, (.inl (cs.2.2.1, len y, .inl (va_cpy (M.1 x) (M.1 y) sp.toNatClampNeg dp.toNatClampNeg n.toNatClampNeg)) : va_E)) = (ad y, ent cs ad (cpI M x y sp.toNatClampNeg dp.toNatClampNeg n.toNatClampNeg) y) := by
      rw [ent_ar (isAr_spec hy1).2 hy2]
      show _ = (ad y, (.inl (cs.2.2.1, len y, .inl ((cpI M x y sp.toNatClampNeg dp.toNatClampNeg n.toNatClampNeg).1 y)) : va_E))
      rw [cpI_row]
    rw [e3, ws_set f1 (fun j _ hne => ent_cpI hne)] at q1
    exact q1
  · intro a ha ht j
    by_cases hne : a = y
    · subst hne
      rw [cpI_row]
      unfold va_cpy
      split
      · exact hH.2.1 x hx1 hx2 _
      · exact hH.2.1 a ha ht j
    · rw [cpI_ne M hne]
      exact hH.2.1 a ha ht j
  · have hne : (70001 : Nat) ≠ y := fun e9 => cells_no (e9 ▸ (isAr_spec hy1).1)
    exact ⟨by rw [cpI_ne M hne]; exact hH.2.2.1, fun j hj => by rw [cpI_ne M hne]; exact hH.2.2.2 j hj⟩
theorem sm_cpy2 (hx : p.tables.exec = Jvm.exec) (hb : c.code = cc) (hml : c.maxLocals = ls.size) (hts : ∀ w ∈ BIG, w.before args s = true) (hown : s.vm.findClass (on own) = some m.cls) (hK : va_K D vwCl (tysO cs) s) (hA : ADK ad base) (hH : HOK D cs ad L xs M H) (hS : va_S (AB base) s.heap H locs) (hf1 : 1 ≤ R.frames) (hf2 : 60 ≤ R.locals)
    {k x y : Nat} {n dp sp : Int32} (hl : laL.any (fun e => Nat.beq e.1 own && Nat.beq e.2.1 k) = true) (hd : decode cc pc = .ok (.invokestatic k, 3)) (hx1 : isAr x = true) (hy1 : isAr y = true) (hx2 : typ x = 2) (hy2 : typ y = 2)
    (hq : ¬ sp < 0 ∧ ¬ dp < 0 ∧ ¬ n < 0 ∧ sp.toNatClampNeg + n.toNatClampNeg ≤ len x ∧ dp.toNatClampNeg + n.toNatClampNeg ≤ len y)
    (kk : ∀ (H1 : Heap) (locs1 : List Loc), HOK D cs ad L xs (cpJ M x y sp.toNatClampNeg dp.toNatClampNeg n.toNatClampNeg) H1 → va_S (AB base) s.heap H1 locs1 → W p l e R s m args below meth c H1 locs1 cl sl Q (F0 m (pc + 3) ls [])) : W p l e R s m args below meth c H locs cl sl Q (F0 m pc ls [.int n, .int dp, .ref (ad y), .int sp, .ref (ad x)]) := by
  obtain ⟨p0, -, e0⟩ := ar_I hx1 hx2 hH
  obtain ⟨p1, f1, e1⟩ := ar_I hy1 hy2 hH
  refine va_copyl hx hb hml hown (hts _ (la_in hl)) (hts _ na_in) (hts _ sa_in) (hts _ si_in) hK hH.1 (ws_D hA) hS p0 p1 1 1 e0 e1 (tys1 cs) (tys1 cs) rfl hq.1 hq.2.1 hq.2.2.1 hq.2.2.2.1 hq.2.2.2.2 (fun i _ => rfl) hf1 (by show 0 + (7 + 11) ≤ _; omega) hd (fun H1 locs1 q1 _ q3 => kk H1 locs1 ⟨?_, hH.2.1, hH.2.2⟩ q3)
  have e3 : (ad y, (.inl (cs.2.1, len y, .inr (.inl (va_cpy (M.2.1 x) (M.2.1 y) sp.toNatClampNeg dp.toNatClampNeg n.toNatClampNeg))) : va_E)) = (ad y, ent cs ad (cpJ M x y sp.toNatClampNeg dp.toNatClampNeg n.toNatClampNeg) y) := by
    rw [ent_ar (isAr_spec hy1).2 hy2]
    show _ = (ad y, (.inl (cs.2.1, len y, .inr (.inl ((cpJ M x y sp.toNatClampNeg dp.toNatClampNeg n.toNatClampNeg).2.1 y))) : va_E))
    rw [cpJ_row]
  rw [e3, ws_set f1 (fun j _ hne => ent_cpJ hne)] at q1
  exact q1
end SM3
