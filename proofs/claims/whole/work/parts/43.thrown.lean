/-! Contracts: what sem says of a method, the machine does. -/
theorem aOK_spec {ad : Nat → Nat} : ∀ (as : List Value) (n : Nat), aOK as n = true → (lg_sl (as.map (rz ad))).length ≤ n ∧ (entL as n).length = n ∧ (∀ i v, lgt (entL as n) i = some v → okV v)
  | [], n, _ => by
    refine ⟨Nat.zero_le _, by simp [entL], fun i v h => ?_⟩
    exfalso
    have key : ∀ (n i : Nat) (v : Value), lgt (List.replicate n none) i = some v → False := by
      intro n
      induction n with
      | zero => intro i v h; cases h
      | succ n ih => intro i v h; cases i with
        | zero => cases h
        | succ i => exact ih i v h
    exact key n i v h
  | .int x :: t, n + 1, h => by
    obtain ⟨h1, h2, h3⟩ := aOK_spec (ad := ad) t n h
    refine ⟨?_, ?_, fun i v hv => ?_⟩
    · show (lg_sl (.int x :: t.map (rz ad))).length ≤ n + 1
      have e : (lg_sl (.int x :: t.map (rz ad))).length = 1 + (lg_sl (t.map (rz ad))).length := by
        unfold lg_sl
        rw [List.flatMap_cons, List.length_append]
        rfl
      omega
    · show (some (.int x) :: entL t (n + 1 - 1)).length = n + 1
      rw [List.length_cons, Nat.add_sub_cancel, h2]
    · cases i with
      | zero => have e : Value.int x = v := Option.some.inj hv; subst e; trivial
      | succ i => exact h3 i v hv
  | .ref x :: t, n + 1, h => by
    obtain ⟨h1, h2, h3⟩ := aOK_spec (ad := ad) t n h
    refine ⟨?_, ?_, fun i v hv => ?_⟩
    · show (lg_sl (.ref (ad x) :: t.map (rz ad))).length ≤ n + 1
      have e : (lg_sl (.ref (ad x) :: t.map (rz ad))).length = 1 + (lg_sl (t.map (rz ad))).length := by
        unfold lg_sl
        rw [List.flatMap_cons, List.length_append]
        rfl
      omega
    · show (some (.ref x) :: entL t (n + 1 - 1)).length = n + 1
      rw [List.length_cons, Nat.add_sub_cancel, h2]
    · cases i with
      | zero => have e : Value.ref x = v := Option.some.inj hv; subst e; trivial
      | succ i => exact h3 i v hv
  | .long x :: t, n + 2, h => by
    obtain ⟨h1, h2, h3⟩ := aOK_spec (ad := ad) t n h
    refine ⟨?_, ?_, fun i v hv => ?_⟩
    · show (lg_sl (.long x :: t.map (rz ad))).length ≤ n + 2
      have e : (lg_sl (.long x :: t.map (rz ad))).length = 2 + (lg_sl (t.map (rz ad))).length := by
        unfold lg_sl
        rw [List.flatMap_cons, List.length_append]
        rfl
      omega
    · show (some (.long x) :: none :: entL t (n + 2 - 2)).length = n + 2
      rw [List.length_cons, List.length_cons, Nat.add_sub_cancel, h2]
    · cases i with
      | zero => have e : Value.long x = v := Option.some.inj hv; subst e; trivial
      | succ i => cases i with
        | zero => cases hv
        | succ i => exact h3 i v hv
theorem lol_none {ad : Nat → Nat} : ∀ (n k : Nat), lol ad k (List.replicate n none) = []
  | 0, _ => rfl
  | n + 1, k => lol_none n (k + 1)
theorem entL_args {ad : Nat → Nat} : ∀ (as : List Value) (n k : Nat), aOK as n = true → lol ad k (entL as n) = lv_args k (as.map (rz ad))
  | [], n, k, _ => lol_none n k
  | .int x :: t, n + 1, k, h => by
    show (k, Value.int x) :: lol ad (k + 1) (entL t (n + 1 - 1)) = (k, Value.int x) :: lv_args (k + 1) (t.map (rz ad))
    rw [Nat.add_sub_cancel, entL_args t n (k + 1) h]
  | .ref x :: t, n + 1, k, h => by
    show (k, Value.ref (ad x)) :: lol ad (k + 1) (entL t (n + 1 - 1)) = (k, Value.ref (ad x)) :: lv_args (k + 1) (t.map (rz ad))
    rw [Nat.add_sub_cancel, entL_args t n (k + 1) h]
  | .long x :: t, n + 2, k, h => by
    show (k, Value.long x) :: lol ad (k + 1 + 1) (entL t (n + 2 - 2)) = (k, Value.long x) :: lv_args (k + 2) (t.map (rz ad))
    rw [Nat.add_sub_cancel, entL_args t n (k + 1 + 1) h]
theorem entry_ok {ad : Nat → Nat} {as : List Value} {n : Nat} (h : aOK as n = true) (m : MethodId) : ∃ ls, entryFrame m (as.map (rz ad)).toArray n = F0 m 0 ls [] ∧ LOK ad ls n (entL as n) := by
  obtain ⟨h1, h2, h3⟩ := aOK_spec (ad := ad) as n h
  refine ⟨_, lg_entry_eq m (as.map (rz ad)) n, ⟨?_, h2, h3⟩⟩
  rw [entL_args as n 0 h]
  exact lv_entry _ h1
theorem txf_mem {q m : Nat} {is : List Ins} : ∀ {tx : Tx}, txf tx q = some (m, is) → (q, m, is) ∈ tx
  | [], h => by cases h
  | (p, m2, is2) :: t, h => by
    have h : cond (Nat.beq p q) (some (m2, is2)) (txf t q) = some (m, is) := h
    cases hb : Nat.beq p q with
    | true =>
      rw [hb] at h
      have e := beqN hb
      have h2 : (m2, is2) = (m, is) := Option.some.inj h
      subst e
      cases h2
      exact List.mem_cons_self
    | false =>
      rw [hb] at h
      exact List.mem_cons_of_mem _ (txf_mem h)
theorem va_P_to {D : va_G} {cs : cid} {ad : Nat → Nat} {M : Mm} {H H1 : Heap} (h : va_P D vwCl (wsO cs ad M) H) (hk : ∀ q : Nat, q < H.size → H1[q]? = H[q]?) : va_P D vwCl (wsO cs ad M) H1 := h.kept fun k q hq => by
  have h2 := h k q hq
  refine hk _ ?_
  rcases Nat.lt_or_ge q.1 H.size with h3 | h3
  · exact h3
  · exfalso
    have h4 : H[q.1]? = none := Array.getElem?_eq_none h3
    unfold va_at at h2
    split at h2
    · rw [h4] at h2; cases h2
    · obtain ⟨a, -, cell, g1, -⟩ := h2
      rw [h4] at g1; cases g1
def upN : List String := ["java/lang/RuntimeException", "java/lang/Exception"]
section TH
variable {p : Program} {l : Launch} {e : Env} {R : Room} {s : State} {m : MethodId} {args : Array Value} {below : List Frame} {meth : Method} {c : Code} {H : Heap} {locs : List Loc} {cl sl : Nat}
variable {cc : ByteArray} {pc n d : Nat} {ls : Array Slot} {D : va_G} {cs : cid} {ad : Nat → Nat} {Ls : Nat} {xs : Nat → Int32} {base : Nat} {M : Mm}
theorem xc_of {E : Nat} {QE : Nat → Mm → Prop} (hE : E < 4) (hq : QE E M) (hH : HOK D cs ad Ls xs M H) (hS : va_S (AB base) s.heap H locs) {t : State} (h1 : H.size ≤ t.heap.size) (h2 : ∀ q : Nat, q < H.size → t.heap[q]? = H[q]?) : XcC D cs ad Ls xs base QE (exN4.getD E "") s t :=
  ⟨E, M, hE, rfl, hq, ⟨va_P_to hH.1 h2, hH.2⟩, Nat.le_trans hS.1 h1, fun q k1 k2 => (h2 q (Nat.lt_of_lt_of_le k1 hS.1)).trans (hS.2.1 q k1 k2)⟩
/-- throw new E(text) -/
theorem throw_1 (hl : l.stackTraces = false) (hc : CX p R s m args c 11 cc n D cs ad Ls xs base d 1 6) (hlk : meth.locks = false) (htb : ∀ x ∈ c.exceptionTable.toList, False) {E : Nat} {QE : Nat → Mm → Prop} (hE : E < 4) (hq : QE E M) (hH : HOK D cs ad Ls xs M H) (hS : va_S (AB base) s.heap H locs) (hls : ls.size = n) (hcl : cl + 1 ≤ 1) (hsl : sl + 6 ≤ 6)
    {ik is ic : Nat} {text : String} (hk : Cond.classLink RX11 ik (exN4.getD E "") ∈ BIG) (hini : Cond.initialized (exN4.getD E "") ∈ BIG) (hstr : (is, text) ∈ thT) (hf : Bundle.fit (exN4.getD E "") = true) (hat1 : ∀ w ∈ (vx_atS RX11 ic (exN4.getD E "") upN).filter goodWord, w ∈ BIG) (hat2 : ∀ w ∈ (vx_atS RX11 ic (exN4.getD E "") upN).filter (fun w => !goodWord w), w ∈ badL)
    (hot : ∀ w ∈ Cond.classLink RX11 ik (exN4.getD E "") :: Cond.initialized (exN4.getD E "") :: vx_atS RX11 ic (exN4.getD E "") upN, vx_ot w = true) (d0 : decode cc pc = .ok (.new ik, 3)) (d3 : decode cc (pc + 3) = .ok (.dup, 1))
    (dd : (decode cc (pc + 4) = .ok (.ldc is, 2) ∧ decode cc (pc + 6) = .ok (.invokespecial ic, 3) ∧ decode cc (pc + 9) = .ok (.athrow, 1)) ∨ (decode cc (pc + 4) = .ok (.ldc_w is, 3) ∧ decode cc (pc + 7) = .ok (.invokespecial ic, 3) ∧ decode cc (pc + 10) = .ok (.athrow, 1))) :
    W p l e R s m args below meth c H locs cl sl (vx_MQ below (fun _ _ _ _ => False) (XcC D cs ad Ls xs base QE) args s 1 6 (AB base)) (F0 m pc ls []) := by
  obtain ⟨hx, hb, hml, hts, hown, hKO, hL31, hA, hfr, hlo, hGc, hGs⟩ := hc
  obtain ⟨sa, hsa⟩ := hKO.2.2.1.2.1 _ hstr
  have hown : s.vm.findClass RX11 = some m.cls := hown
  have hU := hKO.2.1.2.2.2.2.2.2.2.1
  have hN := hKO.2.1.2.2.2.2.2.2.2.2
  have hat : ∀ w ∈ vx_atS RX11 ic (exN4.getD E "") upN, w.before args s = true := vx_hat (fun w hw => hts w (hat1 w hw)) hat2 (fun w hw => by
    have h1 := (List.mem_filter.mp hw).2
    have h2 := hKO.2.2.1.2.2.2.1 w hw
    unfold isBad at h1
    split at h1
    · exact va_Nw.use rfl h2
    · exact va_Nw.use rfl h2
    · cases h1)
  rcases dd with ⟨d4, d6, d9⟩ | ⟨d4, d7, d10⟩
  · exact vx_throwS (text := text) (names := upN) hx hb hl hown hf (by decide) (hts _ hk) (hts _ hini) hsa hat hot hU hN hS (by rw [hls, hml]) d0 d3 d4 d6 d9 (fun x hx => (htb x hx).elim) (by show 2 + 3 < R.frames; omega) (by show 0 + (13 * (2 + 1) + 43) ≤ R.locals; omega) (by omega) (by omega) hlk (fun t _ h1 h2 => xc_of hE hq hH hS h1 h2) hS.2.2 hcl hsl
  · exact vx_throwSW (text := text) (names := upN) hx hb hl hown hf (by decide) (hts _ hk) (hts _ hini) hsa hat hot hU hN hS (by rw [hls, hml]) d0 d3 d4 d7 d10 (fun x hx => (htb x hx).elim) (by show 2 + 3 < R.frames; omega) (by show 0 + (13 * (2 + 1) + 43) ≤ R.locals; omega) (by omega) (by omega) hlk (fun t _ h1 h2 => xc_of hE hq hH hS h1 h2) hS.2.2 hcl hsl
end TH
def exE : List (Nat × Nat × Nat × String) := [(0, 144, 148, "the text is wrong"), (0, 144, 148, "the number is none"), (1, 346, 350, "there is no such one"), (2, 353, 357, "there are no more"), (3, 332, 336, "a run tells no such thing")]
theorem ex_in : ∀ e ∈ exE, (Cond.classLink RX11 e.2.1 (exN4.getD e.1 "") ∈ lw_tbl ∧ goodWord (Cond.classLink RX11 e.2.1 (exN4.getD e.1 "")) = true) ∧ (Cond.initialized (exN4.getD e.1 "") ∈ lw_tbl ∧ goodWord (Cond.initialized (exN4.getD e.1 "")) = true) ∧ Bundle.fit (exN4.getD e.1 "") = true := by decide +kernel
theorem wsL_x0 : ∀ w ∈ (vx_atS RX11 148 "java/lang/IllegalArgumentException" ["java/lang/RuntimeException", "java/lang/Exception"]).filter goodWord, w ∈ lw_tbl := by decide +kernel
theorem wsL_x1 : ∀ w ∈ (vx_atS RX11 357 "java/lang/UnsupportedOperationException" ["java/lang/RuntimeException", "java/lang/Exception"]).filter goodWord, w ∈ lw_tbl := by decide +kernel
theorem wsL_x2 : ∀ w ∈ (vx_atS RX11 350 "java/lang/IndexOutOfBoundsException" ["java/lang/RuntimeException", "java/lang/Exception"]).filter goodWord, w ∈ lw_tbl := by decide +kernel
theorem ex_good : ∀ e ∈ exE, e.1 ≠ 3 → ∀ w ∈ (vx_atS RX11 e.2.2.1 (exN4.getD e.1 "") upN).filter goodWord, w ∈ lw_tbl := by
  intro e he
  simp only [exE, List.mem_cons, List.not_mem_nil, or_false] at he
  rcases he with rfl | rfl | rfl | rfl | rfl
  · exact fun _ => wsL_x0
  · exact fun _ => wsL_x0
  · exact fun _ => wsL_x2
  · exact fun _ => wsL_x1
  · exact fun q => absurd rfl q
theorem ex_bad : ∀ e ∈ exE, ∀ w ∈ (vx_atS RX11 e.2.2.1 (exN4.getD e.1 "") upN).filter (fun w => !goodWord w), w ∈ tables_1 ∧ isBad w = true := by decide +kernel
theorem ex_ot : ∀ e ∈ exE, ∀ w ∈ Cond.classLink RX11 e.2.1 (exN4.getD e.1 "") :: Cond.initialized (exN4.getD e.1 "") :: vx_atS RX11 e.2.2.1 (exN4.getD e.1 "") upN, vx_ot w = true := by decide +kernel
/-- what a throw of E does -/
def THR (l : Launch) (E : Nat) : Prop := ∀ {p : Program} {e : Env} {R : Room} {s : State} {m : MethodId} {args : Array Value} {below : List Frame} {meth : Method} {c : Code} {H : Heap} {locs : List Loc} {cl sl : Nat} {cc : ByteArray} {pc n d : Nat} {ls : Array Slot} {D : va_G} {cs : cid} {ad : Nat → Nat} {Ls : Nat} {xs : Nat → Int32} {base : Nat} {M : Mm} {QE : Nat → Mm → Prop} {ik is ic : Nat} {text : String},
  CX p R s m args c 11 cc n D cs ad Ls xs base d 1 6 → meth.locks = false → (∀ x ∈ c.exceptionTable.toList, False) → QE E M → HOK D cs ad Ls xs M H → va_S (AB base) s.heap H locs → ls.size = n → cl + 1 ≤ 1 → sl + 6 ≤ 6 → (E, ik, ic, text) ∈ exE → (is, text) ∈ thT → decode cc pc = .ok (.new ik, 3) → decode cc (pc + 3) = .ok (.dup, 1) →
  ((decode cc (pc + 4) = .ok (.ldc is, 2) ∧ decode cc (pc + 6) = .ok (.invokespecial ic, 3) ∧ decode cc (pc + 9) = .ok (.athrow, 1)) ∨ (decode cc (pc + 4) = .ok (.ldc_w is, 3) ∧ decode cc (pc + 7) = .ok (.invokespecial ic, 3) ∧ decode cc (pc + 10) = .ok (.athrow, 1))) →
  W p l e R s m args below meth c H locs cl sl (vx_MQ below (fun _ _ _ _ => False) (XcC D cs ad Ls xs base QE) args s 1 6 (AB base)) (F0 m pc ls [])
theorem thr_012 {l : Launch} (hl : l.stackTraces = false) {E : Nat} (hE : E < 4) (h3 : E ≠ 3) : THR l E := by
  intro p e R s m args below meth c H locs cl sl cc pc n d ls D cs ad Ls xs base M QE ik is ic text hc hlk htb hq hH hS hls hcl hsl hex hth d0 d3 dd
  obtain ⟨⟨i1, i2⟩, ⟨i3, i4⟩, i5⟩ := ex_in _ hex
  refine throw_1 hl hc hlk htb hE hq hH hS hls hcl hsl (text := text) (big_of i1 i2) (big_of i3 i4) hth i5 (fun w hw => big_of (ex_good _ hex h3 w hw) ?_) (fun w hw => List.mem_filter.mpr (ex_bad _ hex w hw)) (ex_ot _ hex) d0 d3 dd
  exact (List.mem_filter.mp hw).2
theorem thL_in : ∀ e ∈ thL, ∃ text, (e.2.1, e.2.2.1, e.2.2.2.2, text) ∈ exE ∧ (e.2.2.2.1, text) ∈ thT := by
  intro e he
  simp only [thL, List.mem_cons, List.not_mem_nil, or_false] at he
  rcases he with rfl | rfl | rfl | rfl | rfl
  · exact ⟨"the text is wrong", by decide +kernel, by decide +kernel⟩
  · exact ⟨"the number is none", by decide +kernel, by decide +kernel⟩
  · exact ⟨"there is no such one", by decide +kernel, by decide +kernel⟩
  · exact ⟨"there are no more", by decide +kernel, by decide +kernel⟩
  · exact ⟨"a run tells no such thing", by decide +kernel, by decide +kernel⟩
theorem chT_spec {own : Nat} {b : ByteArray} {pc E : Nat} (h : chT own b pc E = true) : own = 11 ∧ E < 4 ∧ ∃ ik is ic text, (E, ik, ic, text) ∈ exE ∧ (is, text) ∈ thT ∧ decode b pc = .ok (.new ik, 3) ∧ decode b (pc + 3) = .ok (.dup, 1) ∧
  ((decode b (pc + 4) = .ok (.ldc is, 2) ∧ decode b (pc + 6) = .ok (.invokespecial ic, 3) ∧ decode b (pc + 9) = .ok (.athrow, 1)) ∨ (decode b (pc + 4) = .ok (.ldc_w is, 3) ∧ decode b (pc + 7) = .ok (.invokespecial ic, 3) ∧ decode b (pc + 10) = .ok (.athrow, 1))) := by
  unfold chT at h
  obtain ⟨e, he, h⟩ := List.any_eq_true.mp h
  have q := and2 h; have q2 := and2 q.2; have q3 := and2 q2.2; have q4 := and2 q3.2
  have e1 := beqN q.1; have e2 := beqN q2.1
  obtain ⟨text, t1, t2⟩ := thL_in e he
  rw [e2] at t1
  have hb : ∀ e ∈ thL, e.1 = 11 ∧ e.2.1 < 4 := by decide +kernel
  refine ⟨by rw [← e1]; exact (hb e he).1, by rw [← e2]; exact (hb e he).2, e.2.2.1, e.2.2.2.1, e.2.2.2.2, text, t1, t2, dec q3.1, dec q4.1, ?_⟩
  have q5 := q4.2
  rw [Bool.or_eq_true] at q5
  rcases q5 with q5 | q5
  · have r := and2 q5; have r2 := and2 r.2
    exact Or.inl ⟨dec r.1, dec r2.1, dec r2.2⟩
  · have r := and2 q5; have r2 := and2 r.2
    exact Or.inr ⟨dec r.1, dec r2.1, dec r2.2⟩
