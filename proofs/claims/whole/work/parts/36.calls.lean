/-! Calls. -/
def PcC (D : va_G) (cs : cid) (ad : Nat → Nat) (L : Nat) (xs : Nat → Int32) (base : Nat) (as : List Value) (M : Mm) : Array Value → State → Prop := fun v U => v = (as.map (rz ad)).toArray ∧ HOK D cs ad L xs M U.heap ∧ KOK D cs ad L xs base U
def QcC (D : va_G) (cs : cid) (ad : Nat → Nat) (L : Nat) (xs : Nat → Int32) (base : Nat) (Q : List Value → Mm → Prop) : Array Value → State → Outcome → State → Prop := fun _ st o t => (∃ (vs : List Value) (M' : Mm), o = .returned ((vs.map (rz ad)).head?) ∧ vs.length ≤ 1 ∧ Q vs M' ∧ HOK D cs ad L xs M' t.heap) ∧ va_F (AB base) st t
def rmD (d g : Nat) : Room := { frames := d + 8, cells := g, slots := 6 * g, locals := 64 * d + 300 }
def XcC (D : va_G) (cs : cid) (ad : Nat → Nat) (L : Nat) (xs : Nat → Int32) (base : Nat) (QE : Nat → Mm → Prop) : String → State → State → Prop := fun E st t => ∃ (k : Nat) (M' : Mm), k < 4 ∧ E = exN4.getD k "" ∧ QE k M' ∧ HOK D cs ad L xs M' t.heap ∧ va_F (AB base) st t
/-- what holds of a frame all the while -/
def CX (p : Program) (R : Room) (s : State) (m : MethodId) (args : Array Value) (c : Code) (own : Nat) (cc : ByteArray) (n : Nat) (D : va_G) (cs : cid) (ad : Nat → Nat) (L : Nat) (xs : Nat → Int32) (base d G GS : Nat) : Prop :=
  p.tables.exec = Jvm.exec ∧ c.code = cc ∧ c.maxLocals = n ∧ (∀ w ∈ BIG, w.before args s = true) ∧ s.vm.findClass (on own) = some m.cls ∧ KOK D cs ad L xs base s ∧ L < 2 ^ 31 ∧ ADK ad base ∧ d + 9 ≤ R.frames ∧ 64 * d + 360 ≤ R.locals ∧ G ≤ R.cells ∧ GS ≤ R.slots
/-- the words of a method -/
def MF (y : MethodName) (bytes : ByteArray) (ml : Nat) (ret : Option FieldType) (na : Nat) : Prop := Cond.code y bytes ml ret ∈ BIG ∧ Cond.initialized y.cls ∈ BIG ∧ (y.cls ≠ "java/lang/invoke/MethodHandle" ∧ y.cls ≠ "java/lang/invoke/VarHandle") ∧ (parseMethodDescriptor y.desc).map (fun d => d.parameters.length) = some na ∧ ml ≤ 40
theorem popA_spec : ∀ (n : Nat) (st acc as r : List Value), popA n st acc = some (as, r) → ∃ bs : List Value, bs.length = n ∧ as = bs ++ acc ∧ st = bs.reverse ++ r
  | 0, st, acc, as, r, h => by
    have e : (acc, st) = (as, r) := Option.some.inj h
    cases e
    exact ⟨[], rfl, rfl, rfl⟩
  | n + 1, [], acc, as, r, h => by cases h
  | n + 1, v :: st, acc, as, r, h => by
    obtain ⟨bs, h1, h2, h3⟩ := popA_spec n st (v :: acc) as r h
    exact ⟨bs ++ [v], by simp [h1], by simp [h2], by simp [h3]⟩
theorem popA_0 {n : Nat} {st as r : List Value} (h : popA n st [] = some (as, r)) : as.length = n ∧ st = as.reverse ++ r := by
  obtain ⟨bs, h1, h2, h3⟩ := popA_spec n st [] as r h
  rw [List.append_nil] at h2
  subst h2
  exact ⟨h1, h3⟩
theorem cats_le {ad : Nat → Nat} : ∀ st : List Value, ((st.map (rz ad)).map fun v => v.category).sum ≤ cats st
  | [] => Nat.le_refl _
  | v :: t => by
    have h := cats_le (ad := ad) t
    have h2 : (rz ad v).category ≤ 2 := by rcases lv_cat (rz ad v) with q | q <;> omega
    cases v <;> simp only [List.map_cons, List.sum_cons, cats] <;> first | (show 1 + _ ≤ _; omega) | (show 2 + _ ≤ _; omega) | omega
theorem head_toList {α : Type} : ∀ {l : List α}, l.length ≤ 1 → l.head?.toList = l
  | [], _ => rfl
  | [a], _ => rfl
  | a :: b :: t, h => by simp at h
theorem good_in (w : Cond) (h : w ∈ BIG) : GoodIn BIG (w :: BIG) := fun x hx => by
  rcases List.mem_cons.mp hx with e | e
  · subst e; exact ⟨h, good_of_word (big_good h)⟩
  · exact ⟨e, good_of_word (big_good e)⟩
theorem rm_f (d g : Nat) : (rmD d g).frames = d + 8 := Eq.refl _
theorem rm_l (d g : Nat) : (rmD d g).locals = 64 * d + 300 := Eq.refl _
theorem room_ok {d g ml : Nat} {R : Room} (m5 : ml ≤ 40) (h9 : d + 9 ≤ R.frames) (h10 : 64 * d + 360 ≤ R.locals) : (rmD d g).frames + 1 ≤ R.frames ∧ 8 + (ml + 11) + (rmD d g).locals ≤ R.locals := by
  rw [rm_f, rm_l]
  omega
section CL
variable {p : Program} {l : Launch} {e : Env} {R : Room} {s : State} {m : MethodId} {args : Array Value} {below : List Frame} {meth : Method} {c : Code} {H : Heap} {locs : List Loc} {cl sl : Nat} {Q : State → Prop}
variable {cc : ByteArray} {pc n d G GS : Nat} {ls : Array Slot} {D : va_G} {cs : cid} {ad : Nat → Nat} {L : Nat} {xs : Nat → Int32} {base own : Nat} {M : Mm}
theorem PcC.blind {as : List Value} : FrameBlind (PcC D cs ad L xs base as M) := fun _ _ _ _ h => ⟨h.1, h.2.1, h.2.2.blind⟩
/-- a callee's answer, taken up -/
theorem call_go {mc ms : Nat} {st0 rest : List Value} {a : Array Value} {Qm : List Value → Mm → Prop} (hr : va_Run p l e R s m args below meth c H locs cl sl mc ms (F0 m pc ls st0) (rest.map (rz ad)) (QcC D cs ad L xs base Qm a) (AB base)) (hS : va_S (AB base) s.heap H locs)
    (kk : ∀ (vs : List Value) (M' : Mm) (H1 : Heap) (locs1 : List Loc), Qm vs M' → HOK D cs ad L xs M' H1 → va_S (AB base) s.heap H1 locs1 → W p l e R s m args below meth c H1 locs1 (cl + mc) (sl + ms) Q (F0 m (pc + 3) ls ((vs ++ rest).map (rz ad)))) : W p l e R s m args below meth c H locs cl sl Q (F0 m pc ls st0) := by
  intro T hT X
  obtain ⟨v, st₀, t, T', Lc, h0, X', hL, e1, e2, ⟨⟨vs, M', hv, hlen, hq, hh⟩, hz, hk⟩, st⟩ := hr T hT X
  have hv2 : v = (vs.map (rz ad)).head? := by cases hv; rfl
  subst hv2
  rw [h0] at hz hk
  have hS1 : va_S (AB base) s.heap T'.heap (locs ++ Lc) := ⟨Nat.le_trans hS.1 (by rw [e1]; exact hz), fun q h1 h2 => by rw [e1, hk q (Nat.lt_of_lt_of_le h1 hS.1) h2]; exact hS.2.1 q h1 h2, fun q hq => by
    rcases List.mem_append.mp hq with h | h
    · exact hS.2.2 q h
    · exact hL q h⟩
  obtain ⟨t2, a1, b1⟩ := kk vs M' T'.heap (locs ++ Lc) hq (by rw [e1]; exact hh) hS1 T' rfl X'
  refine ⟨t2, st t2 ?_, b1⟩
  rw [head_toList (by rw [List.length_map]; exact hlen), ← List.map_append]
  exact a1
theorem cb_of (hc : CX p R s m args c own cc n D cs ad L xs base d G GS) {y : MethodName} {bytes : ByteArray} {ml na g k : Nat} {ret : Option FieldType} (hm : MF y bytes ml ret na) (hl : Cond.methodLink (on own) k y ∈ BIG) : CallB R s args (on own) k y bytes ml ret (Cond.code y bytes ml ret :: BIG) (rmD d g) g (6 * g) na := by
  obtain ⟨h1, h2, h3, h4, h5, h6, h7, h8, h9, h10, h11, h12⟩ := hc
  obtain ⟨m1, m2, m3, m4, m5⟩ := hm
  exact callB_of (ws := Cond.code y bytes ml ret :: BIG) (ws' := BIG) (rm := rmD d g) (mc := g) (ms := 6 * g) na h4 (good_in _ m1) (Eq.refl _) (Eq.refl _) (Eq.refl _) (h4 _ m2) (h4 _ hl) ⟨m3.1, m3.2, m4⟩ (room_ok m5 h9 h10)
theorem pre_of (hc : CX p R s m args c own cc n D cs ad L xs base d G GS) {as : List Value} (hH : HOK D cs ad L xs M H) (hS : va_S (AB base) s.heap H locs) : ∀ U : State, U.heap = H → s.WarmedH U.vm → PcC D cs ad L xs base as M (as.map (rz ad)).toArray U := fun U hU hW => ⟨rfl, by rw [hU]; exact hH, hc.2.2.2.2.2.1.to hW (locs := locs) (by rw [hU]; exact hS)⟩
theorem room8 {st st2 : List Value} (h : Nat.ble (cats st) 8 = true) : 2 * (F0 m pc ls st2).monitorRoom + ((st.map (rz ad)).map fun v => v.category).sum ≤ 8 := by
  have h1 := cats_le (ad := ad) st
  have h2 := Nat.le_of_ble_eq_true h
  show 2 * 0 + _ ≤ 8
  omega
/-- a static method -/
theorem callS_go (hc : CX p R s m args c own cc n D cs ad L xs base d G GS) {y : MethodName} {bytes : ByteArray} {ml na k : Nat} {ret : Option FieldType} {as rest : List Value} {Qm : List Value → Mm → Prop} (hm : MF y bytes ml ret na) (hl : Cond.methodLink (on own) k y ∈ BIG) (hst : Cond.static y ∈ BIG)
    (hM : Met l y (Cond.code y bytes ml ret :: BIG) (rmD d 0) (PcC D cs ad L xs base as M) (QcC D cs ad L xs base Qm) 0 0 (AB base)) (hna : as.length = na) (hls : ls.size = n) (h8 : Nat.ble (cats rest) 8 = true) (hcl : cl ≤ G) (hsl : sl ≤ GS)
    (hH : HOK D cs ad L xs M H) (hS : va_S (AB base) s.heap H locs) (hd : decode cc pc = .ok (.invokestatic k, 3))
    (kk : ∀ (vs : List Value) (M' : Mm) (H1 : Heap) (locs1 : List Loc), Qm vs M' → HOK D cs ad L xs M' H1 → va_S (AB base) s.heap H1 locs1 → W p l e R s m args below meth c H1 locs1 cl sl Q (F0 m (pc + 3) ls ((vs ++ rest).map (rz ad)))) : W p l e R s m args below meth c H locs cl sl Q (F0 m pc ls ((as.reverse ++ rest).map (rz ad))) := by
  have hcb := cb_of (g := 0) hc hm hl
  have hpre := pre_of (as := as) hc hH hS
  obtain ⟨h1, h2, h3, h4, h5, h6, h7, h8', h9, h10, h11, h12⟩ := hc
  refine call_go (va_runS (As := as.map (rz ad)) (rest := rest.map (rz ad)) ⟨h1, h2, h3, h5, h4⟩ hM ⟨hcb, h4 _ hst⟩ ⟨PcC.blind, hpre⟩ rfl (by rw [List.length_map]; exact hna) hls (by simp) (room8 h8) hd ⟨by omega, by omega⟩) hS kk
/-- a method of an object -/
theorem callV_go (hc : CX p R s m args c own cc n D cs ad L xs base d G GS) {y : MethodName} {bytes : ByteArray} {ml na k o : Nat} {ret : Option FieldType} {as rest : List Value} {Qm : List Value → Mm → Prop} (hm : MF y bytes ml ret na) (hl : Cond.methodLink (on own) k y ∈ BIG) (hin : Cond.instanceMethod y ∈ BIG) (hse : Cond.selects y.cls y y ∈ BIG)
    (hrc : ∃ cellB : Cell, H[ad o]? = some cellB ∧ cellB.vm.isStatics = false ∧ s.vm.findClass y.cls = some cellB.cls)
    (hM : Met l y (Cond.code y bytes ml ret :: BIG) (rmD d 0) (PcC D cs ad L xs base (.ref o :: as) M) (QcC D cs ad L xs base Qm) 0 0 (AB base)) (hna : as.length = na) (hls : ls.size = n) (h8 : Nat.ble (cats rest) 8 = true) (hcl : cl ≤ G) (hsl : sl ≤ GS)
    (hH : HOK D cs ad L xs M H) (hS : va_S (AB base) s.heap H locs) (hd : decode cc pc = .ok (.invokevirtual k, 3))
    (kk : ∀ (vs : List Value) (M' : Mm) (H1 : Heap) (locs1 : List Loc), Qm vs M' → HOK D cs ad L xs M' H1 → va_S (AB base) s.heap H1 locs1 → W p l e R s m args below meth c H1 locs1 cl sl Q (F0 m (pc + 3) ls ((vs ++ rest).map (rz ad)))) : W p l e R s m args below meth c H locs cl sl Q (F0 m pc ls (((.ref o :: as).reverse ++ rest).map (rz ad))) := by
  have hcb := cb_of (g := 0) hc hm hl
  have hpre := pre_of (as := .ref o :: as) hc hH hS
  obtain ⟨h1, h2, h3, h4, h5, h6, h7, h8', h9, h10, h11, h12⟩ := hc
  refine call_go (va_runV (As := as.map (rz ad)) (rest := rest.map (rz ad)) (b := ad o) ⟨h1, h2, h3, h5, h4⟩ hM ⟨hcb, h4 _ hin, h4 _ hse⟩ ⟨PcC.blind, hrc, hpre⟩ rfl (by rw [List.length_map]; exact hna) hls (by simp [rz]) (room8 h8) hd ⟨by omega, by omega⟩) hS kk
end CL
