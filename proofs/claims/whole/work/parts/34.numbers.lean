section SN4
variable {p : Program} {l : Launch} {e : Env} {R : Room} {s : State} {m : MethodId} {args : Array Value} {below : List Frame} {meth : Method} {c : Code} {H : Heap} {locs : List Loc} {cl sl : Nat} {Q : State → Prop}
variable {cc : ByteArray} {pc : Nat} {ls : Array Slot} {D : va_G} {cs : cid} {ad : Nat → Nat} {L : Nat} {xs : Nat → Int32} {base own : Nat} {M : Mm} {rest : List Value}
theorem lk_in {own k n : Nat} (h : lkf lkL own k = some n) : Cond.constant (on own) k (nI n) ∈ BIG := by
  obtain ⟨e, he, h1, h2, h3⟩ := lkf_mem h
  have h4 := lkL_ok e he
  rw [h1, h2, h3] at h4
  exact big_of (tbl_of (List.mem_of_getElem? h4)) rfl
theorem ll_in {own k : Nat} {n : Int} (h : lkg llL own k = some n) : Cond.constantLong (on own) k (Int64.ofInt n) ∈ BIG := by
  obtain ⟨e, he, h1, h2, h3⟩ := lkg_mem h
  have h4 := llL_ok e he
  rw [h1, h2, h3] at h4
  exact big_of (tbl_of (List.mem_of_getElem? h4)) rfl
theorem ls_in {own k n : Nat} (h : lkf lsL own k = some n) : Cond.fieldLink (on own) k "WellPumps$Thing" (enL.getD n "") "LWellPumps$Thing;" ∈ BIG ∧ n < 18 := by
  obtain ⟨e, he, h1, h2, h3⟩ := lkf_mem h
  have h4 := lsL_ok e he
  rw [h1, h2, h3] at h4
  exact ⟨big_of (tbl_of (List.mem_of_getElem? h4.1)) rfl, h4.2⟩
theorem all_in : Cond.fieldLink RX7 101 "WellPumps$Thing" "ALL" "[LWellPumps$Thing;" ∈ BIG := big_of (by decide +kernel) rfl
theorem wei_in : Cond.fieldLink RX11 270 "WellPumps" "WEIGHTS" "[I" ∈ BIG := big_of (by decide +kernel) rfl
set_option maxHeartbeats 4000000 in
theorem sndN (hx : p.tables.exec = Jvm.exec) (hb : c.code = cc) (hts : ∀ w ∈ BIG, w.before args s = true) (hown : s.vm.findClass (on own) = some m.cls) (hSt : STK ad base s) (hWr : WRK ad s) (hS : va_S (AB base) s.heap H locs)
    {i ri : Instr} {len : Nat} {st : List Value} {k : List Value → Prop} (hr : relN own ri len i = true) (hd : decode cc pc = .ok (ri, len)) (h : exN i st k)
    (kk : ∀ st, k st → W p l e R s m args below meth c H locs cl sl Q (F0 m (pc + len) ls (st.map (rz ad)))) : W p l e R s m args below meth c H locs cl sl Q (F0 m pc ls (st.map (rz ad))) := by
  unfold relN at hr
  split at hr
  · rename_i n
    have h : k (.int (nI n) :: st) := h
    split at hr
    · have q := and2 hr; have e1 := beqN q.1; have e2 := dec q.2; subst e1; subst e2
      exact lv_iconst hx hb hd (ofInt_nat n) (kk _ h)
    · have q := and2 hr; have q2 := and2 q.2; have e1 := beqN q.1; have e2 := dec q2.1; subst e1; subst e2
      exact lv_bipush hx hb hd (b8 n (Nat.blt_eq.mp q2.2)) (kk _ h)
    · have q := and2 hr; have q2 := and2 q.2; have e1 := beqN q.1; have e2 := dec q2.1; subst e1; subst e2
      exact lv_sipush hx hb hd (b16 (Nat.blt_eq.mp q2.2)) (kk _ h)
    · have q := and2 hr; have e1 := beqN q.1; subst e1
      exact lv_ldc hx hb hown (hts _ (lk_in (dec q.2))) hd (kk _ h)
    · have q := and2 hr; have e1 := beqN q.1; subst e1
      exact lv_ldcw hx hb hown (hts _ (lk_in (dec q.2))) hd (kk _ h)
    · cases hr
  · rename_i n
    have h : k (.int (-(nI n)) :: st) := h
    split at hr
    · have q := and2 hr; have e1 := beqN q.1; have e2 := dec q.2; subst e1; subst e2
      exact lv_iconst hx hb hd (neg_nat n) (kk _ h)
    · cases hr
  · rename_i n
    have h : k (.long (lN n) :: st) := h
    split at hr
    · have q := and2 hr; have e1 := beqN q.1; have e2 := beqN q.2; subst e1
      exact lv_lconst hx hb hd (by rw [e2]; rfl) (kk _ h)
    · have q := and2 hr; have e1 := beqN q.1; subst e1
      have h9 := ll_in (dec q.2)
      rw [l_nat] at h9
      exact lv_ldc2 hx hb hown (hts _ h9) hd (kk _ h)
    · cases hr
  · rename_i n
    have h : k (.long (-(lN n)) :: st) := h
    split at hr
    · have q := and2 hr; have e1 := beqN q.1; subst e1
      have h9 := ll_in (dec q.2)
      rw [l_neg] at h9
      exact lv_ldc2 hx hb hown (hts _ h9) hd (kk _ h)
    · cases hr
  · rename_i n
    have h : k (.ref n :: st) := h
    split at hr
    · have q := and2 hr; have e1 := beqN q.1; subst e1
      have q2 := q.2
      simp only [Bool.or_eq_true] at q2
      rcases q2 with (q2 | q2) | q2
      · have q3 := and2 q2
        have hn := Nat.le_of_ble_eq_true q3.1
        obtain ⟨h8, h9⟩ := ls_in (dec q3.2)
        have hZ : va_Z "WellPumps$Thing" (enL.getD (n - 70100) "") "LWellPumps$Thing;" (.ref (ad n)) (AB base) s s.heap := by
          have h7 := (hSt.1.1 (n - 70100) h9).1
          have e7 : (70100 + (n - 70100)) = n := by omega
          rw [show (Value.ref (ad n)) = Value.ref (ad (70100 + (n - 70100))) by rw [e7]]
          exact h7
        exact va_gets hx hb hZ hS hown (hts _ h8) (fun _ h => h) hd (kk _ h)
      · have q3 := and2 q2; have q4 := and2 q3.2; have e2 := beqN q3.1; have e3 := beqN q4.1; have e4 := beqN q4.2; subst e2; subst e3; subst e4
        exact va_gets hx hb hSt.2.2.1.1 hS hown (hts _ all_in) (fun _ h => h) hd (kk _ h)
      · have q3 := and2 q2; have q4 := and2 q3.2; have e2 := beqN q3.1; have e3 := beqN q4.1; have e4 := beqN q4.2; subst e2; subst e3; subst e4
        exact va_gets hx hb hSt.2.2.2.1.1 hS hown (hts _ wei_in) (fun _ h => h) hd (kk _ h)
    · have q := and2 hr; have e1 := beqN q.1; subst e1
      obtain ⟨x, hx1, hx2, hx3, hx4⟩ := lkf_mem (dec q.2)
      have hZ := hWr.1 x hx1
      rw [hx2, hx3, hx4] at hZ
      exact va_ldcS hx hb hown hZ hd (kk _ h)
    · cases hr
  · rename_i n1 n2 n3 n4 n5
    have q := and2 hr; have e1 := beqN q.1; have e2 := dec q.2; subst e1; subst e2
    exact sndA hx hb hd h ⟨n1, n2, n3, n4, n5⟩ kk
theorem vp_lt {i : Int32} {n : Nat} (h : vp_in i n) : i.toNatClampNeg < n := Nat.not_le.mp fun z => h (Or.inr z)
theorem ob_n {k n o : Nat} (hl : lkf lfL own k = some n) (ho : isOb (n / 64 % 16) o = true) : o / 64 = n / 64 := by
  obtain ⟨-, g2, -, -⟩ := isOb_spec ho
  obtain ⟨-, g5, -⟩ := lf_in hl
  rw [Nat.mod_eq_of_lt (show n / 64 < 16 by omega)] at g2
  exact g2
theorem fv_0 {o k q : Nat} (g : o / 64 = q) (h : fk q k = 0 ∨ fk q k = 5) : fv ad M o k = .int (M.1 o k) := by
  unfold fv; rw [g]
  rcases h with h | h <;> rw [h] <;> rfl
theorem fv_1 {o k q : Nat} (g : o / 64 = q) (h : fk q k = 1) : fv ad M o k = .long (M.2.1 o k) := by unfold fv; rw [g, h]; rfl
theorem fv_2 {o k q : Nat} (g : o / 64 = q) (h : fk q k = 2) : fv ad M o k = .ref (ad (RC o k)) := by unfold fv; rw [g, h]; rfl
theorem fv_3 {o k q : Nat} (g : o / 64 = q) (h : fk q k = 3) : fv ad M o k = .ref (ad (1024 + 64 * o + k)) := by unfold fv; rw [g, h]; rfl
theorem fv_4 {o k q : Nat} (g : o / 64 = q) (h : fk q k = 4) (h1 : isE (M.2.2 o k) = true) : fv ad M o k = .ref (ad (M.2.2 o k)) := by
  unfold fv; rw [g, h]
  show va_rf (er ad _) = _
  rw [er_some h1]; rfl
theorem fv_sI {o k j : Nat} {v : Int32} (h : j ≠ k) : fv ad (sI M o k v) o j = fv ad M o j := by
  unfold fv
  rw [sI_ne M v (fun z => h z.2)]
  rfl
theorem fv_sJ {o k j : Nat} {v : Int64} (h : j ≠ k) : fv ad (sJ M o k v) o j = fv ad M o j := by
  unfold fv
  rw [sJ_ne M v (fun z => h z.2)]
  rfl
theorem fv_sR {o k j v : Nat} (h : j ≠ k) : fv ad (sR M o k v) o j = fv ad M o j := by
  unfold fv
  rw [sR_ne M v (fun z => h z.2)]
  rfl
theorem HOK.If {o k : Nat} {v : Int32} {H1 : Heap} {q : Nat} (h : HOK D cs ad L xs M H) (ho : isOb q o = true) (hp : va_P D vwCl (wsO cs ad (sI M o k v)) H1) : HOK D cs ad L xs (sI M o k v) H1 :=
  h.I hp (fun z _ => absurd (isOb_spec ho).2.2.1 (isAr_spec z).2) (isOb_spec ho).1
theorem sm_put0 (hx : p.tables.exec = Jvm.exec) (hb : c.code = cc) (hts : ∀ w ∈ BIG, w.before args s = true) (hown : s.vm.findClass (on own) = some m.cls) (hK : va_K D vwCl (tysO cs) s) (hA : ADK ad base) (hH : HOK D cs ad L xs M H) (hS : va_S (AB base) s.heap H locs)
    {o n k : Nat} (ho : isOb (n / 64 % 16) o = true) (hl : lkf lfL own k = some n) (hd : decode cc pc = .ok (.putfield k, 3)) (hk : fk (n / 64) (n % 64) = 0) {v : Int32} 
    (kk : ∀ (H1 : Heap) (locs1 : List Loc), HOK D cs ad L xs (sI M o (n % 64) v) H1 → va_S (AB base) s.heap H1 locs1 → W p l e R s m args below meth c H1 locs1 cl sl Q (F0 m (pc + 3) ls rest)) : W p l e R s m args below meth c H locs cl sl Q (F0 m pc ls (.int v :: .ref (ad o) :: rest)) := by
  have g := ob_n hl ho
  exact sm_put hx hb hts hown hK hA hH.1 hS (M' := sI M o (n % 64) v) ho hl hd (ty := .int) (fun a b => clF0 _ a _ b hk) rfl rfl (fun _ => by rw [fv_0 g (Or.inl hk), sI_at]) (fun j hj => fv_sI hj) (fun j hj => ent_sI hj) (fun H1 locs1 p1 p3 => kk _ _ (hH.If ho p1) p3)
theorem sm_put1 (hx : p.tables.exec = Jvm.exec) (hb : c.code = cc) (hts : ∀ w ∈ BIG, w.before args s = true) (hown : s.vm.findClass (on own) = some m.cls) (hK : va_K D vwCl (tysO cs) s) (hA : ADK ad base) (hH : HOK D cs ad L xs M H) (hS : va_S (AB base) s.heap H locs)
    {o n k : Nat} (ho : isOb (n / 64 % 16) o = true) (hl : lkf lfL own k = some n) (hd : decode cc pc = .ok (.putfield k, 3)) (hk : fk (n / 64) (n % 64) = 1) {v : Int64} 
    (kk : ∀ (H1 : Heap) (locs1 : List Loc), HOK D cs ad L xs (sJ M o (n % 64) v) H1 → va_S (AB base) s.heap H1 locs1 → W p l e R s m args below meth c H1 locs1 cl sl Q (F0 m (pc + 3) ls rest)) : W p l e R s m args below meth c H locs cl sl Q (F0 m pc ls (.long v :: .ref (ad o) :: rest)) := by
  have g := ob_n hl ho
  exact sm_put hx hb hts hown hK hA hH.1 hS (M' := sJ M o (n % 64) v) ho hl hd (ty := .long) (fun a b => clF1 _ a _ b hk) rfl rfl (fun _ => by rw [fv_1 g hk, sJ_at]) (fun j hj => fv_sJ hj) (fun j hj => ent_sJ hj) (fun H1 locs1 p1 p3 => kk _ _ (hH.J p1) p3)
theorem sm_put5 (hx : p.tables.exec = Jvm.exec) (hb : c.code = cc) (hts : ∀ w ∈ BIG, w.before args s = true) (hown : s.vm.findClass (on own) = some m.cls) (hK : va_K D vwCl (tysO cs) s) (hA : ADK ad base) (hH : HOK D cs ad L xs M H) (hS : va_S (AB base) s.heap H locs)
    {o n k : Nat} (ho : isOb (n / 64 % 16) o = true) (hl : lkf lfL own k = some n) (hd : decode cc pc = .ok (.putfield k, 3)) (hk : fk (n / 64) (n % 64) = 5) {v : Int32} (h1 : v = 0 ∨ v = 1)
    (kk : ∀ (H1 : Heap) (locs1 : List Loc), HOK D cs ad L xs (sI M o (n % 64) v) H1 → va_S (AB base) s.heap H1 locs1 → W p l e R s m args below meth c H1 locs1 cl sl Q (F0 m (pc + 3) ls rest)) : W p l e R s m args below meth c H locs cl sl Q (F0 m pc ls (.int v :: .ref (ad o) :: rest)) := by
  have g := ob_n hl ho
  exact sm_put hx hb hts hown hK hA hH.1 hS (M' := sI M o (n % 64) v) ho hl hd (ty := .boolean) (fun a b => clF5 _ a _ b hk) (by rcases h1 with h1 | h1 <;> rw [h1] <;> rfl) (by rcases h1 with h1 | h1 <;> rw [h1] <;> rfl) (fun _ => by rw [fv_0 g (Or.inr hk), sI_at]) (fun j hj => fv_sI hj) (fun j hj => ent_sI hj) (fun H1 locs1 p1 p3 => kk _ _ (hH.If ho p1) p3)
theorem sm_put4 (hx : p.tables.exec = Jvm.exec) (hb : c.code = cc) (hts : ∀ w ∈ BIG, w.before args s = true) (hown : s.vm.findClass (on own) = some m.cls) (hK : va_K D vwCl (tysO cs) s) (hA : ADK ad base) (hH : HOK D cs ad L xs M H) (hS : va_S (AB base) s.heap H locs)
    {o n k : Nat} (ho : isOb (n / 64 % 16) o = true) (hl : lkf lfL own k = some n) (hd : decode cc pc = .ok (.putfield k, 3)) (hk : fk (n / 64) (n % 64) = 4) {v : Nat} (h1 : isE v = true)
    (kk : ∀ (H1 : Heap) (locs1 : List Loc), HOK D cs ad L xs (sR M o (n % 64) v) H1 → va_S (AB base) s.heap H1 locs1 → W p l e R s m args below meth c H1 locs1 cl sl Q (F0 m (pc + 3) ls rest)) : W p l e R s m args below meth c H locs cl sl Q (F0 m pc ls (.ref (ad v) :: .ref (ad o) :: rest)) := by
  have g := ob_n hl ho
  exact sm_put hx hb hts hown hK hA hH.1 hS (M' := sR M o (n % 64) v) ho hl hd (ty := (.object "WellPumps$Thing")) (fun a b => clF4 _ a _ b hk) rfl rfl (fun _ => by rw [fv_4 g hk (by rw [sR_at]; exact h1), sR_at]) (fun j hj => fv_sR hj) (fun j hj => ent_sR hj) (fun H1 locs1 p1 p3 => kk _ _ (hH.Rf p1) p3)
theorem isAr_typ {a : Nat} (h : isAr a = true) : typ a ≠ 0 := by
  by_cases e : a = 70000
  · subst e; decide
  · unfold isAr at h
    simp only [Bool.or_eq_true, Bool.and_eq_true] at h
    rcases h with h | ⟨-, h⟩
    · exact absurd (beqN h) e
    · intro e2
      rw [e2] at h
      cases h
set_option maxHeartbeats 8000000 in
theorem sndM (hx : p.tables.exec = Jvm.exec) (hb : c.code = cc) (hml : c.maxLocals = ls.size) (hts : ∀ w ∈ BIG, w.before args s = true) (hown : s.vm.findClass (on own) = some m.cls) (hK : KOK D cs ad L xs base s) (hL : L < 2 ^ 31) (hA : ADK ad base) (hH : HOK D cs ad L xs M H) (hS : va_S (AB base) s.heap H locs) (hf1 : 1 ≤ R.frames) (hf2 : 60 ≤ R.locals)
    {i ri : Instr} {ln : Nat} {st : List Value} {k : List Value → Mm → Prop} (hr : relM own ri ln i = true) (hd : decode cc pc = .ok (ri, ln)) (h : exM i st M k)
    (kk : ∀ (st : List Value) (M' : Mm) (H1 : Heap) (locs1 : List Loc), k st M' → HOK D cs ad L xs M' H1 → va_S (AB base) s.heap H1 locs1 → W p l e R s m args below meth c H1 locs1 cl sl Q (F0 m (pc + ln) ls (st.map (rz ad)))) : W p l e R s m args below meth c H locs cl sl Q (F0 m pc ls (st.map (rz ad))) := by
  obtain ⟨hK0, hSt, hWr, hX, hX2, hX3⟩ := hK
  have hXS := hS
  unfold exM at h
  split at h
  -- getfield and its like
  · split at h <;> first | exact h.elim | skip
    obtain ⟨ho, h⟩ := cond_true h
    unfold relM at hr; dsimp only at hr; split at hr <;> first | cases hr; done | skip
    have q := and2 hr; have e1 := beqN q.1; subst e1; have q2 := and2 q.2
    refine sm_get hx hb hts hown hK0 hH ho (dec q2.1) hd ?_
    simp only [Bool.or_eq_true] at q2
    rw [fv_0 (ob_n (dec q2.1) ho) (q2.2.imp beqN beqN)]
    exact kk _ _ _ _ h hH hS
  · split at h <;> first | exact h.elim | skip
    obtain ⟨ho, h⟩ := cond_true h
    unfold relM at hr; dsimp only at hr; split at hr <;> first | cases hr; done | skip
    have q := and2 hr; have e1 := beqN q.1; subst e1; have q2 := and2 q.2
    refine sm_get hx hb hts hown hK0 hH ho (dec q2.1) hd ?_
    rw [fv_1 (ob_n (dec q2.1) ho) (beqN q2.2)]
    exact kk _ _ _ _ h hH hS
  · split at h <;> first | exact h.elim | skip
    obtain ⟨ho, h⟩ := cond_true h
    unfold relM at hr; dsimp only at hr; split at hr <;> first | cases hr; done | skip
    have q := and2 hr; have e1 := beqN q.1; subst e1; have q2 := and2 q.2
    refine sm_get hx hb hts hown hK0 hH ho (dec q2.1) hd ?_
    rw [fv_2 (ob_n (dec q2.1) ho) (beqN q2.2)]
    exact kk _ _ _ _ h hH hS
  · split at h <;> first | exact h.elim | skip
    obtain ⟨ho, h⟩ := cond_true h
    unfold relM at hr; dsimp only at hr; split at hr <;> first | cases hr; done | skip
    have q := and2 hr; have e1 := beqN q.1; subst e1; have q2 := and2 q.2
    refine sm_get hx hb hts hown hK0 hH ho (dec q2.1) hd ?_
    rw [fv_3 (ob_n (dec q2.1) ho) (beqN q2.2)]
    exact kk _ _ _ _ h hH hS
  · split at h <;> first | exact h.elim | skip
    obtain ⟨ho, h1, h⟩ := cond_true h
    unfold relM at hr; dsimp only at hr; split at hr <;> first | cases hr; done | skip
    have q := and2 hr; have e1 := beqN q.1; subst e1; have q2 := and2 q.2
    refine sm_get hx hb hts hown hK0 hH ho (dec q2.1) hd ?_
    rw [fv_4 (ob_n (dec q2.1) ho) (beqN q2.2) h1]
    exact kk _ _ _ _ h hH hS
  -- putfield and its like
  · split at h <;> first | exact h.elim | skip
    obtain ⟨ho, h⟩ := cond_true h
    unfold relM at hr; dsimp only at hr; split at hr <;> first | cases hr; done | skip
    have q := and2 hr; have e1 := beqN q.1; subst e1; have q2 := and2 q.2
    exact sm_put0 hx hb hts hown hK0 hA hH hS ho (dec q2.1) hd (beqN q2.2) (fun H1 locs1 p1 p3 => kk _ _ _ _ h p1 p3)
  · split at h <;> first | exact h.elim | skip
    obtain ⟨ho, h⟩ := cond_true h
    unfold relM at hr; dsimp only at hr; split at hr <;> first | cases hr; done | skip
    have q := and2 hr; have e1 := beqN q.1; subst e1; have q2 := and2 q.2
    exact sm_put1 hx hb hts hown hK0 hA hH hS ho (dec q2.1) hd (beqN q2.2) (fun H1 locs1 p1 p3 => kk _ _ _ _ h p1 p3)
  · split at h <;> first | exact h.elim | skip
    obtain ⟨ho, h1, h⟩ := cond_true h
    unfold relM at hr; dsimp only at hr; split at hr <;> first | cases hr; done | skip
    have q := and2 hr; have e1 := beqN q.1; subst e1; have q2 := and2 q.2
    exact sm_put5 hx hb hts hown hK0 hA hH hS ho (dec q2.1) hd (beqN q2.2) h1 (fun H1 locs1 p1 p3 => kk _ _ _ _ h p1 p3)
  · split at h <;> first | exact h.elim | skip
    obtain ⟨ho, h1, h⟩ := cond_true h
    unfold relM at hr; dsimp only at hr; split at hr <;> first | cases hr; done | skip
    have q := and2 hr; have e1 := beqN q.1; subst e1; have q2 := and2 q.2
    exact sm_put4 hx hb hts hown hK0 hA hH hS ho (dec q2.1) hd (beqN q2.2) h1 (fun H1 locs1 p1 p3 => kk _ _ _ _ h p1 p3)
  -- arrays
  · split at h <;> first | exact h.elim | skip
    obtain ⟨ho, h1, h⟩ := cond_true h
    have ho := and2 ho
    have q := and2 (show (Nat.beq ln 1 && decide (ri = .iaload)) = true from hr); have e1 := beqN q.1; have e2 := dec q.2; subst e1; subst e2
    obtain ⟨q0, -, e3⟩ := ar_I ho.1 (beqN ho.2) hH
    exact va_iald hx hb hK0 hH.1 q0 0 e3 (tys0 cs) h1 hd (kk _ _ _ _ h hH hS)
  · split at h <;> first | exact h.elim | skip
    obtain ⟨ho, h1, h⟩ := cond_true h
    have ho := and2 ho
    have q := and2 (show (Nat.beq ln 1 && decide (ri = .laload)) = true from hr); have e1 := beqN q.1; have e2 := dec q.2; subst e1; subst e2
    obtain ⟨q0, -, e3⟩ := ar_I ho.1 (beqN ho.2) hH
    exact va_lald hx hb hK0 hH.1 q0 1 e3 (tys1 cs) h1 hd (kk _ _ _ _ h hH hS)
  · split at h <;> first | exact h.elim | skip
    obtain ⟨ho, h1, h⟩ := cond_true h
    have ho := and2 ho
    have q := and2 (show (Nat.beq ln 1 && decide (ri = .baload)) = true from hr); have e1 := beqN q.1; have e2 := dec q.2; subst e1; subst e2
    obtain ⟨q0, -, e3⟩ := ar_I ho.1 (beqN ho.2) hH
    exact va_bald hx hb hK0 hH.1 q0 2 e3 (tys2 cs) h1 hd (kk _ _ _ _ h hH hS)
  · split at h <;> first | exact h.elim | skip
    obtain ⟨ho, h1, h2, h⟩ := cond_true h
    have ho := and2 ho
    have q := and2 (show (Nat.beq ln 1 && decide (ri = .aaload)) = true from hr); have e1 := beqN q.1; have e2 := dec q.2; subst e1; subst e2
    obtain ⟨q0, -, e3⟩ := ar_I ho.1 (beqN ho.2) hH
    refine va_aldq hx hb hK0 hH.1 q0 3 e3 (tys3 cs) h1 hd ?_
    rw [er_some h2]
    exact kk _ _ _ _ h hH hS
  · split at h <;> first | exact h.elim | skip
    obtain ⟨ho, h1, h⟩ := cond_true h
    have ho := and2 ho
    have q := and2 (show (Nat.beq ln 1 && decide (ri = .iastore)) = true from hr); have e1 := beqN q.1; have e2 := dec q.2; subst e1; subst e2
    exact sm_iast hx hb hK0 hA hH hS ho.1 (beqN ho.2) h1 hd (fun H1 locs1 p1 p3 => kk _ _ _ _ h p1 p3)
  · split at h <;> first | exact h.elim | skip
    obtain ⟨ho, h1, h⟩ := cond_true h
    have ho := and2 ho
    have q := and2 (show (Nat.beq ln 1 && decide (ri = .lastore)) = true from hr); have e1 := beqN q.1; have e2 := dec q.2; subst e1; subst e2
    exact sm_last hx hb hK0 hA hH hS ho.1 (beqN ho.2) h1 hd (fun H1 locs1 p1 p3 => kk _ _ _ _ h p1 p3)
  · split at h <;> first | exact h.elim | skip
    obtain ⟨ho, h1, h⟩ := cond_true h
    have ho := and2 ho
    have q := and2 (show (Nat.beq ln 1 && decide (ri = .bastore)) = true from hr); have e1 := beqN q.1; have e2 := dec q.2; subst e1; subst e2
    exact sm_bast hx hb hK0 hA hH hS ho.1 (beqN ho.2) h1 hd (fun H1 locs1 p1 p3 => kk _ _ _ _ h p1 p3)
  · split at h <;> first | exact h.elim | skip
    obtain ⟨ho, h1, h2, h⟩ := cond_true h
    have ho := and2 ho
    have q := and2 (show (Nat.beq ln 1 && decide (ri = .aastore)) = true from hr); have e1 := beqN q.1; have e2 := dec q.2; subst e1; subst e2
    exact sm_aast hx hb hK0 hSt hA hH hS ho.1 (beqN ho.2) h2 h1 hd (fun H1 locs1 p1 p3 => kk _ _ _ _ h p1 p3)
  · split at h <;> first | exact h.elim | skip
    obtain ⟨ho, h⟩ := cond_true h
    have q := and2 (show (Nat.beq ln 1 && decide (ri = .arraylength)) = true from hr); have e1 := beqN q.1; have e2 := dec q.2; subst e1; subst e2
    exact sm_ld hx hb hK0 hH ho hd (isAr_typ ho) (kk _ _ _ _ h hH hS)
  · split at h <;> first | exact h.elim | skip
    obtain ⟨⟨h1, h2, h3⟩, h⟩ := h
    have q := and2 (show (Nat.beq ln 1 && decide (ri = .iaload)) = true from hr); have e1 := beqN q.1; have e2 := dec q.2; subst e1; subst e2
    obtain ⟨q0, -, e3⟩ := ar_I h1 h2 hH
    exact va_iald hx hb hK0 hH.1 q0 0 e3 (tys0 cs) h3 hd (kk _ _ _ _ h hH hS)
  · split at h <;> first | exact h.elim | skip
    obtain ⟨⟨h1, h2, h3⟩, h⟩ := h
    have q := and2 (show (Nat.beq ln 1 && decide (ri = .laload)) = true from hr); have e1 := beqN q.1; have e2 := dec q.2; subst e1; subst e2
    obtain ⟨q0, -, e3⟩ := ar_I h1 h2 hH
    exact va_lald hx hb hK0 hH.1 q0 1 e3 (tys1 cs) h3 hd (kk _ _ _ _ h hH hS)
  · split at h <;> first | exact h.elim | skip
    obtain ⟨⟨h1, h2, h3⟩, h⟩ := h
    have q := and2 (show (Nat.beq ln 1 && decide (ri = .iastore)) = true from hr); have e1 := beqN q.1; have e2 := dec q.2; subst e1; subst e2
    exact sm_iast hx hb hK0 hA hH hS h1 h2 h3 hd (fun H1 locs1 p1 p3 => kk _ _ _ _ h p1 p3)
  · split at h <;> first | exact h.elim | skip
    obtain ⟨⟨h1, h2, h3⟩, h⟩ := h
    have q := and2 (show (Nat.beq ln 1 && decide (ri = .lastore)) = true from hr); have e1 := beqN q.1; have e2 := dec q.2; subst e1; subst e2
    exact sm_last hx hb hK0 hA hH hS h1 h2 h3 hd (fun H1 locs1 p1 p3 => kk _ _ _ _ h p1 p3)
  · split at h <;> first | exact h.elim | skip
    obtain ⟨ho, h⟩ := h
    have q := and2 (show (Nat.beq ln 1 && decide (ri = .arraylength)) = true from hr); have e1 := beqN q.1; have e2 := dec q.2; subst e1; subst e2
    exact sm_ld hx hb hK0 hH ho hd (isAr_typ ho) (kk _ _ _ _ h hH hS)
  · split at h <;> first | exact h.elim | skip
    obtain ⟨ho, h1, h2⟩ := cond_true h
    clear h
    have e0 := beqN ho; subst e0
    have q := and2 (show (Nat.beq ln 1 && decide (ri = .iaload)) = true from hr); have e1 := beqN q.1; have e2 := dec q.2; subst e1; subst e2
    rw [hH.2.2.1, nI_clamp hL] at h1
    have hlt := vp_lt h1
    rw [hH.2.2.2 _ hlt] at h2
    exact va_sld hx hb hX (Nat.lt_of_lt_of_le hX2 hX3) (Nat.not_le.mpr hX2) hS h1 hd (kk _ _ _ _ h2 hH hS)
  · split at h <;> first | exact h.elim | skip
    obtain ⟨ho, h2⟩ := cond_true h
    clear h
    have e0 := beqN ho; subst e0
    have q := and2 (show (Nat.beq ln 1 && decide (ri = .arraylength)) = true from hr); have e1 := beqN q.1; have e2 := dec q.2; subst e1; subst e2
    rw [hH.2.2.1] at h2
    exact va_slen hx hb hX (Nat.lt_of_lt_of_le hX2 hX3) (Nat.not_le.mpr hX2) hS hd (kk _ _ _ _ h2 hH hS)
  · split at h <;> first | exact h.elim | skip
    obtain ⟨ho, h1, h2⟩ := cond_true h
    clear h
    have e0 := beqN ho; subst e0
    have q := and2 (show (Nat.beq ln 1 && decide (ri = .iaload)) = true from hr); have e1 := beqN q.1; have e2 := dec q.2; subst e1; subst e2
    exact va_ti hx hb hSt.2.2.2.1.2 hS h1 rfl hd (kk _ _ _ _ h2 hH hS)
  · split at h <;> first | exact h.elim | skip
    obtain ⟨ho, h2⟩ := cond_true h
    clear h
    have e0 := beqN ho; subst e0
    have q := and2 (show (Nat.beq ln 1 && decide (ri = .arraylength)) = true from hr); have e1 := beqN q.1; have e2 := dec q.2; subst e1; subst e2
    exact va_tlen hx hb hSt.2.2.2.1.2 hS rfl hd (kk _ _ _ _ h2 hH hS)
  · split at h <;> first | exact h.elim | skip
    obtain ⟨ho, h1, h2⟩ := cond_true h
    clear h
    have e0 := beqN ho; subst e0
    have q := and2 (show (Nat.beq ln 1 && decide (ri = .aaload)) = true from hr); have e1 := beqN q.1; have e2 := dec q.2; subst e1; subst e2
    exact vb_tq hx hb hSt.2.2.1.2 hS h1 rfl hd (kk _ _ _ _ h2 hH hS)
  · split at h <;> first | exact h.elim | skip
    obtain ⟨ho, h2⟩ := cond_true h
    clear h
    have e0 := beqN ho; subst e0
    have q := and2 (show (Nat.beq ln 1 && decide (ri = .arraylength)) = true from hr); have e1 := beqN q.1; have e2 := dec q.2; subst e1; subst e2
    exact va_tlen hx hb hSt.2.2.1.2 hS rfl hd (kk _ _ _ _ h2 hH hS)
  · split at h <;> first | exact h.elim | skip
    obtain ⟨h1, h⟩ := h
    unfold relM at hr; dsimp only at hr; split at hr <;> first | cases hr; done | skip
    have q := and2 hr; have q2 := and2 q.2; have e1 := beqN q.1; have e2 := beqN q2.1; have e3 := beqN q2.2; subst e1; subst e2; subst e3
    obtain ⟨w, hw, rfl⟩ := isE_spec h1
    refine va_getX (ad := fun i => ad (70100 + i)) hx hb hSt.2.1 hw hS hown (hts _ sp_in) (fun _ h => h) hd ?_
    rw [show 70100 + w + 100 = 70200 + w by omega] at h
    exact kk _ _ _ _ h hH hS
  · split at h <;> first | exact h.elim | skip
    obtain ⟨ho, h1, h⟩ := cond_true h
    have o1 := and2 ho; have o2 := and2 o1.2; have o3 := and2 o2.2
    unfold relM at hr; dsimp only at hr; split at hr <;> first | cases hr; done | skip
    have q := and2 hr; have e1 := beqN q.1; subst e1
    exact sm_cpy1 hx hb hml hts hown hK0 hA hH hS hf1 hf2 q.2 hd o1.1 o2.1 (beqN o3.1) (beqN o3.2) h1 (fun H1 locs1 p1 p3 => kk _ _ _ _ h p1 p3)
  · split at h <;> first | exact h.elim | skip
    obtain ⟨ho, h1, h⟩ := cond_true h
    have o1 := and2 ho; have o2 := and2 o1.2; have o3 := and2 o2.2
    unfold relM at hr; dsimp only at hr; split at hr <;> first | cases hr; done | skip
    have q := and2 hr; have e1 := beqN q.1; subst e1
    exact sm_cpy3 hx hb hml hts hown hK0 hA hH hS hf1 hf2 q.2 hd o1.1 o2.1 (beqN o3.1) (beqN o3.2) h1 (fun H1 locs1 p1 p3 => kk _ _ _ _ h p1 p3)
  · split at h <;> first | exact h.elim | skip
    obtain ⟨ho, h1, h⟩ := cond_true h
    have o1 := and2 ho; have o2 := and2 o1.2; have o3 := and2 o2.2
    unfold relM at hr; dsimp only at hr; split at hr <;> first | cases hr; done | skip
    have q := and2 hr; have e1 := beqN q.1; subst e1
    exact sm_cpy2 hx hb hml hts hown hK0 hA hH hS hf1 hf2 q.2 hd o1.1 o2.1 (beqN o3.1) (beqN o3.2) h1 (fun H1 locs1 p1 p3 => kk _ _ _ _ h p1 p3)
  · exact h.elim
end SN4
