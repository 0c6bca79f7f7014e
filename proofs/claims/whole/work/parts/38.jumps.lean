/-! Locals, jumps. -/
section SJ
variable {p : Program} {l : Launch} {e : Env} {R : Room} {s : State} {m : MethodId} {args : Array Value} {below : List Frame} {meth : Method} {c : Code} {H : Heap} {locs : List Loc} {cl sl : Nat} {Q : State → Prop}
variable {cc : ByteArray} {pc n own len : Nat} {ls : Array Slot} {ad : Nat → Nat} {rest : List Value} {ri : Instr} {L : Lo}
theorem go_iload (hx : p.tables.exec = Jvm.exec) (hb : c.code = cc) (hL : LOK ad ls n L) {i : Nat} {x : Int32} (hv : lgt L i = some (.int x)) (hr : relC own pc ri len (.iload i) = true) (hd : decode cc pc = .ok (ri, len))
    (kk : W p l e R s m args below meth c H locs cl sl Q (F0 m (pc + len) ls (.int x :: rest))) : W p l e R s m args below meth c H locs cl sl Q (F0 m pc ls rest) := by
  have h1 := hL.at hv
  unfold relC at hr; dsimp only at hr; split at hr <;> (try (cases hr; done))
  · have q := and2 hr; have e1 := beqN q.1; have e2 := beqN q.2; subst e1; subst e2
    exact lv_iload hx hb hd h1 kk
  · have q := and2 hr; have e1 := beqN q.1; have e2 := beqN q.2; subst e1
    exact lv_iload_n hx hb hd e2 h1 kk
theorem go_lload (hx : p.tables.exec = Jvm.exec) (hb : c.code = cc) (hL : LOK ad ls n L) {i : Nat} {x : Int64} (hv : lgt L i = some (.long x)) (hr : relC own pc ri len (.lload i) = true) (hd : decode cc pc = .ok (ri, len))
    (kk : W p l e R s m args below meth c H locs cl sl Q (F0 m (pc + len) ls (.long x :: rest))) : W p l e R s m args below meth c H locs cl sl Q (F0 m pc ls rest) := by
  have h1 := hL.at hv
  unfold relC at hr; dsimp only at hr; split at hr <;> (try (cases hr; done))
  · have q := and2 hr; have e1 := beqN q.1; have e2 := beqN q.2; subst e1; subst e2
    exact lv_lload hx hb hd h1 kk
  · have q := and2 hr; have e1 := beqN q.1; have e2 := beqN q.2; subst e1
    exact lv_lload_n hx hb hd e2 h1 kk
theorem go_aload (hx : p.tables.exec = Jvm.exec) (hb : c.code = cc) (hL : LOK ad ls n L) {i x : Nat} (hv : lgt L i = some (.ref x)) (hr : relC own pc ri len (.aload i) = true) (hd : decode cc pc = .ok (ri, len))
    (kk : W p l e R s m args below meth c H locs cl sl Q (F0 m (pc + len) ls (.ref (ad x) :: rest))) : W p l e R s m args below meth c H locs cl sl Q (F0 m pc ls rest) := by
  have h1 := hL.at hv
  unfold relC at hr; dsimp only at hr; split at hr <;> (try (cases hr; done))
  · have q := and2 hr; have e1 := beqN q.1; have e2 := beqN q.2; subst e1; subst e2
    exact lv_aload hx hb hd h1 kk
  · have q := and2 hr; have e1 := beqN q.1; have e2 := beqN q.2; subst e1
    exact lv_aload_n hx hb hd e2 h1 kk
theorem go_istore (hx : p.tables.exec = Jvm.exec) (hb : c.code = cc) (hL : LOK ad ls n L) {i : Nat} {x : Int32} (hn : i < n) (hr : relC own pc ri len (.istore i) = true) (hd : decode cc pc = .ok (ri, len))
    (kk : ∀ ls', LOK ad ls' n (lst1 L i (some (.int x))) → W p l e R s m args below meth c H locs cl sl Q (F0 m (pc + len) ls' rest)) : W p l e R s m args below meth c H locs cl sl Q (F0 m pc ls (.int x :: rest)) := by
  have k2 := fun ls' (h : lv_has ls' n ((i, rz ad (.int x)) :: (lol ad 0 L).filter (fun q => !(q.1 == i) && !(q.1 + 1 == i && q.2.category == 2)))) => kk ls' (hL.st1 (v := .int x) trivial h)
  unfold relC at hr; dsimp only at hr; split at hr <;> (try (cases hr; done))
  · have q := and2 hr; have e1 := beqN q.1; have e2 := beqN q.2; subst e1; subst e2
    exact lv_istore hx hb hd hL.1 hn rfl k2
  · have q := and2 hr; have e1 := beqN q.1; have e2 := beqN q.2; subst e1
    exact lv_istore_n hx hb hd e2 hL.1 hn rfl k2
theorem go_astore (hx : p.tables.exec = Jvm.exec) (hb : c.code = cc) (hL : LOK ad ls n L) {i x : Nat} (hn : i < n) (hr : relC own pc ri len (.astore i) = true) (hd : decode cc pc = .ok (ri, len))
    (kk : ∀ ls', LOK ad ls' n (lst1 L i (some (.ref x))) → W p l e R s m args below meth c H locs cl sl Q (F0 m (pc + len) ls' rest)) : W p l e R s m args below meth c H locs cl sl Q (F0 m pc ls (.ref (ad x) :: rest)) := by
  have k2 := fun ls' (h : lv_has ls' n ((i, rz ad (.ref x)) :: (lol ad 0 L).filter (fun q => !(q.1 == i) && !(q.1 + 1 == i && q.2.category == 2)))) => kk ls' (hL.st1 (v := .ref x) trivial h)
  unfold relC at hr; dsimp only at hr; split at hr <;> (try (cases hr; done))
  · have q := and2 hr; have e1 := beqN q.1; have e2 := beqN q.2; subst e1; subst e2
    exact lv_astore hx hb hd hL.1 hn rfl k2
  · have q := and2 hr; have e1 := beqN q.1; have e2 := beqN q.2; subst e1
    exact lv_astore_n hx hb hd e2 hL.1 hn rfl k2
theorem go_lstore (hx : p.tables.exec = Jvm.exec) (hb : c.code = cc) (hL : LOK ad ls n L) {i : Nat} {x : Int64} (hn : i + 1 < n) (hr : relC own pc ri len (.lstore i) = true) (hd : decode cc pc = .ok (ri, len))
    (kk : ∀ ls', LOK ad ls' n (lst2 L i (some (.long x))) → W p l e R s m args below meth c H locs cl sl Q (F0 m (pc + len) ls' rest)) : W p l e R s m args below meth c H locs cl sl Q (F0 m pc ls (.long x :: rest)) := by
  have k2 := fun ls' (h : lv_has ls' n ((i, rz ad (.long x)) :: (lol ad 0 L).filter (fun q => !(q.1 == i) && (!(q.1 == i + 1) && !(q.1 + 1 == i && q.2.category == 2))))) => kk ls' (hL.st2 (v := .long x) trivial h)
  unfold relC at hr; dsimp only at hr; split at hr <;> (try (cases hr; done))
  · have q := and2 hr; have e1 := beqN q.1; have e2 := beqN q.2; subst e1; subst e2
    exact lv_lstore hx hb hd hL.1 hn rfl k2
  · have q := and2 hr; have e1 := beqN q.1; have e2 := beqN q.2; subst e1
    exact lv_lstore_n hx hb hd e2 hL.1 hn rfl k2
theorem go_iinc (hx : p.tables.exec = Jvm.exec) (hb : c.code = cc) (hL : LOK ad ls n L) {i : Nat} {x : Int32} {d : Int} (hv : lgt L i = some (.int x)) (hn : i < n) (hr : relC own pc ri len (.iinc i d) = true) (hd : decode cc pc = .ok (ri, len))
    (kk : ∀ ls', LOK ad ls' n (lst1 L i (some (.int (x + Int32.ofInt d)))) → W p l e R s m args below meth c H locs cl sl Q (F0 m (pc + len) ls' rest)) : W p l e R s m args below meth c H locs cl sl Q (F0 m pc ls rest) := by
  have k2 := fun ls' (h : lv_has ls' n ((i, rz ad (.int (x + Int32.ofInt d))) :: (lol ad 0 L).filter (fun q => !(q.1 == i) && !(q.1 + 1 == i && q.2.category == 2)))) => kk ls' (hL.st1 (v := .int (x + Int32.ofInt d)) trivial h)
  have hm := lol_mem (ad := ad) (k := 0) hv
  rw [Nat.zero_add] at hm
  obtain ⟨k, hk⟩ := List.getElem?_of_mem hm
  unfold relC at hr; dsimp only at hr; split at hr <;> (try (cases hr; done))
  have q := and2 hr; have q2 := and2 q.2; have e1 := beqN q.1; have e2 := beqN q2.1; have e3 := dec q2.2; subst e1; subst e2; subst e3
  exact lv_iinc hx hb hd hL.1 hk rfl hn rfl k2
theorem go_icmp (hx : p.tables.exec = Jvm.exec) (hb : c.code = cc) {k : Jvm.ClassFile.Cond} {t : Int} {x y : Int32} {A B : Prop} (h : br k x y A B) (hr : relC own pc ri len (.if_icmp k t) = true) (hd : decode cc pc = .ok (ri, len))
    (ka : A → W p l e R s m args below meth c H locs cl sl Q (F0 m t.toNat ls rest)) (kb : B → W p l e R s m args below meth c H locs cl sl Q (F0 m (pc + len) ls rest)) : W p l e R s m args below meth c H locs cl sl Q (F0 m pc ls (.int y :: .int x :: rest)) := by
  unfold relC at hr; dsimp only at hr; split at hr <;> (try (cases hr; done))
  have q := and2 hr; have q2 := and2 q.2; have e1 := beqN q.1; have e2 := dec q2.1; have e3 := dec q2.2; subst e1; subst e2
  rename_i k2 f
  cases k2
  · exact lv_icmp_eq hx hb hd e3 (fun q => ka (h.1 q)) (fun q => kb (h.2 q))
  · exact lv_icmp_ne hx hb hd e3 (fun q => ka (h.1 q)) (fun q => kb (h.2 q))
  · exact lv_icmp_lt hx hb hd e3 (fun q => ka (h.1 q)) (fun q => kb (h.2 q))
  · exact lv_icmp_ge hx hb hd e3 (fun q => ka (h.1 q)) (fun q => kb (h.2 q))
  · exact lv_icmp_gt hx hb hd e3 (fun q => ka (h.1 q)) (fun q => kb (h.2 q))
  · exact lv_icmp_le hx hb hd e3 (fun q => ka (h.1 q)) (fun q => kb (h.2 q))
theorem go_ifc (hx : p.tables.exec = Jvm.exec) (hb : c.code = cc) {k : Jvm.ClassFile.Cond} {t : Int} {x : Int32} {A B : Prop} (h : br k x 0 A B) (hr : relC own pc ri len (.ifCond k t) = true) (hd : decode cc pc = .ok (ri, len))
    (ka : A → W p l e R s m args below meth c H locs cl sl Q (F0 m t.toNat ls rest)) (kb : B → W p l e R s m args below meth c H locs cl sl Q (F0 m (pc + len) ls rest)) : W p l e R s m args below meth c H locs cl sl Q (F0 m pc ls (.int x :: rest)) := by
  unfold relC at hr; dsimp only at hr; split at hr <;> (try (cases hr; done))
  have q := and2 hr; have q2 := and2 q.2; have e1 := beqN q.1; have e2 := dec q2.1; have e3 := dec q2.2; subst e1; subst e2
  rename_i k2 f
  cases k2
  · exact lv_if_eq hx hb hd e3 (fun q => ka (h.1 q)) (fun q => kb (h.2 q))
  · exact lv_if_ne hx hb hd e3 (fun q => ka (h.1 q)) (fun q => kb (h.2 q))
  · exact lv_if_lt hx hb hd e3 (fun q => ka (h.1 q)) (fun q => kb (h.2 q))
  · exact lv_if_ge hx hb hd e3 (fun q => ka (h.1 q)) (fun q => kb (h.2 q))
  · exact lv_if_gt hx hb hd e3 (fun q => ka (h.1 q)) (fun q => kb (h.2 q))
  · exact lv_if_le hx hb hd e3 (fun q => ka (h.1 q)) (fun q => kb (h.2 q))
theorem isE_inj {base x y : Nat} (hSt : STK ad base s) (h1 : isE x = true) (h2 : isE y = true) (h : ad x = ad y) : x = y := by
  obtain ⟨i, hi, rfl⟩ := isE_spec h1
  obtain ⟨j, hj, rfl⟩ := isE_spec h2
  rw [hSt.1.2 i j hi hj h]
theorem go_acmp (hx : p.tables.exec = Jvm.exec) (hb : c.code = cc) {base : Nat} (hSt : STK ad base s) {k : Jvm.ClassFile.ACond} {t : Int} {x y : Nat} {A B : Prop} (he : isE x = true ∧ isE y = true)
    (h1 : k = .eq → (x = y → A) ∧ (¬ x = y → B)) (h2 : k = .ne → (¬ x = y → A) ∧ (x = y → B)) (hr : relC own pc ri len (.if_acmp k t) = true) (hd : decode cc pc = .ok (ri, len))
    (ka : A → W p l e R s m args below meth c H locs cl sl Q (F0 m t.toNat ls rest)) (kb : B → W p l e R s m args below meth c H locs cl sl Q (F0 m (pc + len) ls rest)) : W p l e R s m args below meth c H locs cl sl Q (F0 m pc ls (.ref (ad y) :: .ref (ad x) :: rest)) := by
  have i1 : some (ad x) = some (ad y) → x = y := fun q => isE_inj hSt he.1 he.2 (Option.some.inj q)
  have i2 : ¬ some (ad x) = some (ad y) → ¬ x = y := fun q e => q (by rw [e])
  unfold relC at hr; dsimp only at hr; split at hr <;> (try (cases hr; done))
  have q := and2 hr; have q2 := and2 q.2; have e1 := beqN q.1; have e2 := dec q2.1; have e3 := dec q2.2; subst e1; subst e2
  rename_i k2 f
  cases k2
  · exact lv_acmp_eq (rx := some (ad x)) (ry := some (ad y)) hx hb hd e3 (fun q => ka ((h1 rfl).1 (i1 q))) (fun q => kb ((h1 rfl).2 (i2 q)))
  · exact lv_acmp_ne (rx := some (ad x)) (ry := some (ad y)) hx hb hd e3 (fun q => ka ((h2 rfl).1 (i2 q))) (fun q => kb ((h2 rfl).2 (i1 q)))
theorem go_goto (hx : p.tables.exec = Jvm.exec) (hb : c.code = cc) {t : Int} (hr : relC own pc ri len (.goto t) = true) (hd : decode cc pc = .ok (ri, len))
    (kk : W p l e R s m args below meth c H locs cl sl Q (F0 m t.toNat ls rest)) : W p l e R s m args below meth c H locs cl sl Q (F0 m pc ls rest) := by
  unfold relC at hr; dsimp only at hr; split at hr <;> (try (cases hr; done))
  have q := and2 hr; have e1 := beqN q.1; have e2 := dec q.2; subst e1
  exact lv_goto hx hb hd e2 kk
theorem swt_spec {x : Int32} {K : Nat → Prop} {Dd : Prop} : ∀ (ts : List Int) (lo : Nat), swt x K lo ts Dd → (∃ (j : Nat) (t : Int), ts[j]? = some t ∧ x = nI (lo + j) ∧ K t.toNat) ∨ ((∀ j, j < ts.length → ¬ x = nI (lo + j)) ∧ Dd)
  | [], lo, h => Or.inr ⟨fun j hj => absurd hj (Nat.not_lt_zero j), h⟩
  | t :: ts, lo, h => by
    by_cases e : x = nI lo
    · exact Or.inl ⟨0, t, rfl, e, h.1 e⟩
    · rcases swt_spec ts (lo + 1) (h.2 e) with ⟨j, t2, h1, h2, h3⟩ | ⟨h1, h2⟩
      · exact Or.inl ⟨j + 1, t2, h1, by rw [h2, show lo + 1 + j = lo + (j + 1) by omega], h3⟩
      · refine Or.inr ⟨fun j hj => ?_, h2⟩
        cases j with
        | zero => exact e
        | succ j =>
          have h4 := h1 j (by simpa using hj)
          rwa [show lo + 1 + j = lo + (j + 1) by omega] at h4
theorem go_switch (hx : p.tables.exec = Jvm.exec) (hb : c.code = cc) {d lo hi : Int} {offs : Array Int} {x : Int32} {K : Nat → Prop} {Dd : Prop} (h : swt x K lo.toNat offs.toList Dd) (hr : relC own pc ri len (.tableswitch d lo hi offs) = true) (hd : decode cc pc = .ok (ri, len))
    (kt : ∀ t : Nat, K t → W p l e R s m args below meth c H locs cl sl Q (F0 m t ls rest)) (kd : Dd → W p l e R s m args below meth c H locs cl sl Q (F0 m d.toNat ls rest)) : W p l e R s m args below meth c H locs cl sl Q (F0 m pc ls (.int x :: rest)) := by
  unfold relC at hr; dsimp only at hr; split at hr <;> (try (cases hr; done))
  have q := and2 hr; have q2 := and2 q.2; have q3 := and2 q2.2; have q4 := and2 q3.2; have q5 := and2 q4.2; have q6 := and2 q5.2
  have e1 := dec q.1; have e2 := dec q2.1; have e3 := dec q3.1; have e4 := dec q4.1; have e5 := dec q5.1; have e6 := dec q6.1; have e7 := dec q6.2
  subst e1; subst e2
  rename_i d2 lo2 hi2 offs2
  rcases swt_spec _ _ h with ⟨j, t, h1, h2, h3⟩ | ⟨h1, h2⟩
  · have hj : j < offs.size := by
      have := (List.getElem?_eq_some_iff.mp h1).1
      simpa using this
    have hx3 : x.toInt = lo2 + (j : Int) := by
      rw [h2, nI_toInt (by omega)]
      omega
    have h4 : (offs2.toList.map (fun f => (pc : Int) + f))[j]? = some (t.toNat : Int) := by
      rw [e7, List.getElem?_map, h1]; rfl
    rw [List.getElem?_map] at h4
    obtain ⟨f, h5, h6⟩ := Option.map_eq_some_iff.mp h4
    refine lv_tableIn hx hb hd (off := f) (tgt := t.toNat) (by omega) (by omega) ?_ h6 (kt _ h3)
    rw [show (x.toInt - lo2).toNat = j by omega, ← Array.getElem?_toList]
    exact h5
  · refine lv_tableOut hx hb hd (tgt := d.toNat) ?_ e6 (kd h2)
    by_cases h3 : x.toInt < lo2
    · exact Or.inl h3
    · by_cases h4 : hi2 < x.toInt
      · exact Or.inr h4
      · exfalso
        refine h1 (x.toInt - lo2).toNat ?_ ?_
        · have : offs.toList.length = offs.size := by simp
          omega
        · apply Int32.toInt_inj.mp
          rw [nI_toInt (by omega)]
          omega
end SJ
