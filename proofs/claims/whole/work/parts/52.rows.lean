/-! The start: what the evaluator says, the machine does. -/
theorem condN {α : Type} {b : Bool} {x : Option α} {y : α} (h : cond b x none = some y) : b = true ∧ x = some y := by
  cases b with
  | true => exact ⟨rfl, h⟩
  | false => cases h
def szE (x : AE) : Nat := match x with
  | .inl (c, _) => nfL.getD c 0
  | .inr (_, n, _) => n
def sE (E : List AE) : Nat := (E.map szE).sum
theorem sE_push {E : List AE} {x : AE} : sE (E ++ [x]) = sE E + szE x := by
  unfold sE
  rw [List.map_append, List.sum_append]
  show _ + (szE x + 0) = _
  omega
theorem sE_set {E : List AE} {o : Nat} {x y : AE} (h : E[o]? = some x) (hs : szE y = szE x) : sE (E.set o y) = sE E := by
  unfold sE
  have : (E.set o y).map szE = E.map szE := by
    apply List.ext_getElem?
    intro i
    rw [List.getElem?_map, List.getElem?_map]
    by_cases e : i = o
    · subst e
      rw [List.getElem?_set_self (List.getElem?_eq_some_iff.mp h).1, h]
      show some (szE y) = some (szE x)
      rw [hs]
    · rw [List.getElem?_set_ne (Ne.symm e)]
  rw [this]
def AOK (D : va_G) (cs : cid) (base : Nat) (g : Nat → Nat) (E : List AE) (H : Heap) : Prop := va_P D vwCl (wsA cs g E) H ∧ va_D (AB base) (wsA cs g E)
def KI (D : va_G) (cs : cid) (base e0 : Nat) (U : State) : Prop := va_K D vwCl (tysO cs) U ∧ va_AO "WellPumps$Thing" U ∧ va_Z "WellPumps$Thing" "END" "LWellPumps$Thing;" (.ref e0) (AB base) U U.heap ∧ (va_Nw (.methodLinkNest RX11 9 yX6_init RX11) U ∧ va_Nw (.methodLinkNest RX11 37 yX10_init RX11) U) ∧ base ≤ U.heap.size
def PcI (D : va_G) (cs : cid) (base e0 : Nat) (g : Nat → Nat) (as : List Value) (E : List AE) : Array Value → State → Prop := fun v U => v = (as.map (rz g)).toArray ∧ AOK D cs base g E U.heap ∧ KI D cs base e0 U
def QcI (D : va_G) (cs : cid) (base : Nat) (g0 : Nat → Nat) (n0 : Nat) (E' : List AE) : Array Value → State → Outcome → State → Prop := fun _ st o t => (o = .returned none ∧ ∃ g', (∀ i, (i < n0 ∨ 70000 ≤ i) → g' i = g0 i) ∧ AOK D cs base g' E' t.heap) ∧ va_F (AB base) st t
theorem KI.to {D : va_G} {cs : cid} {base e0 : Nat} {s U : State} {locs : List Loc} (h : KI D cs base e0 s) (hW : s.WarmedH U.vm) (hS : va_S (AB base) s.heap U.heap locs) : KI D cs base e0 U := by
  obtain ⟨h1, h2, h3, ⟨h4, h5⟩, h6⟩ := h
  exact ⟨va_K.moved hW.alike h1, va_AO.moved hW.alike h2, va_Z.moved hW.alike (h3.kept hS.2.1), ⟨va_Nw.warmM hW h4, va_Nw.warmM hW h5⟩, Nat.le_trans h6 hS.1⟩
def rmI (d mc ms : Nat) : Room := { frames := d, cells := mc, slots := ms, locals := 40 * d + 10 }
def CI (p : Program) (R : Room) (s : State) (m : MethodId) (args : Array Value) (c : Code) (own : Nat) (cc : ByteArray) (n : Nat) (D : va_G) (cs : cid) (base e0 d mc ms : Nat) : Prop :=
  p.tables.exec = Jvm.exec ∧ c.code = cc ∧ c.maxLocals = n ∧ (∀ w ∈ BIG, w.before args s = true) ∧ s.vm.findClass (on own) = some m.cls ∧ KI D cs base e0 s ∧ d ≤ R.frames ∧ 40 * d + 10 ≤ R.locals ∧ mc ≤ R.cells ∧ ms ≤ R.slots
theorem lc_ok : ∀ e ∈ lcL, (Cond.classLink (on e.1) e.2.1 (on e.2.2.1) ∈ lw_tbl ∧ goodWord (Cond.classLink (on e.1) e.2.1 (on e.2.2.1)) = true) ∧ (Cond.instantiable (on e.2.2.1) (nfL.getD e.2.2.1 0) ∈ lw_tbl ∧ goodWord (Cond.instantiable (on e.2.2.1) (nfL.getD e.2.2.1 0)) = true) ∧ (Cond.initialized (on e.2.2.1) ∈ lw_tbl ∧ goodWord (Cond.initialized (on e.2.2.1)) = true) ∧ e.2.2.1 < 13 := by decide +kernel
theorem ac_ok : ∀ t ∈ [FieldType.int, FieldType.long, FieldType.byte], Cond.arrayClass t ∈ lw_tbl ∧ goodWord (Cond.arrayClass t) = true := by decide +kernel
theorem tn_ok : Cond.classLink (on 3) 9 "WellPumps$Thing" ∈ lw_tbl ∧ goodWord (Cond.classLink (on 3) 9 "WellPumps$Thing") = true := by decide +kernel
section AL
variable {p : Program} {l : Launch} {e : Env} {R : Room} {s : State} {m : MethodId} {args : Array Value} {below : List Frame} {meth : Method} {c : Code} {H : Heap} {locs : List Loc} {cl sl : Nat} {Q : State → Prop}
variable {cc : ByteArray} {pc n d mc ms : Nat} {ls : Array Slot} {D : va_G} {cs : cid} {base e0 own : Nat} {g : Nat → Nat} {E : List AE} {st : List Value}
theorem go_new (hc : CI p R s m args c own cc n D cs base e0 d mc ms) (hA : AOK D cs base g E H) (hS : va_S (AB base) s.heap H locs) (hE : E.all (wfE E.length) = true) (hs : E.length < 60000) {k c0 : Nat} (hk : lkf lcL own k = some c0) (hd : decode cc pc = .ok (.new k, 3)) (hcl : cl + 1 ≤ mc) (hsl : sl + nfL.getD c0 0 ≤ ms) {rest : List Value}
    (kk : ∀ (q : Nat) (H1 : Heap), AOK D cs base (gup g E.length q) (E ++ [.inl (c0, dfl c0)]) H1 → va_S (AB base) s.heap H1 locs → W p l e R s m args below meth c H1 locs (cl + 1) (sl + nfL.getD c0 0) Q (F0 m (pc + 3) ls (.ref q :: rest))) : W p l e R s m args below meth c H locs cl sl Q (F0 m pc ls rest) := by
  obtain ⟨hx, hb, hml, hts, hown, hK, hfr, hlo, hmc, hms⟩ := hc
  obtain ⟨x, hx1, a1, a2, a3⟩ := lkf_mem hk
  obtain ⟨⟨w1, w1g⟩, ⟨w2, w2g⟩, ⟨w3, w3g⟩, w4⟩ := lc_ok x hx1
  rw [a1, a2, a3] at w1 w1g
  rw [a3] at w2 w2g w3 w3g w4
  refine va_new (C := on c0) (T := txc c0) (N := nfL.getD c0 0) (ci := c0) hx hb hts (clW c0 w4) (tyc c0) (clT c0 w4) hown (hts _ (big_of w1 w1g)) (hts _ (big_of w2 w2g)) (hts _ (big_of w3 w3g)) hK.1 hA.1 hA.2 hS (fun q hq => Nat.le_trans hK.2.2.2.2 hq) (clA c0 w4) (fs := dfl c0) (fun j hj => dfl_at c0 w4 j hj) (by omega) (by omega) hd ?_
  intro q H1 h1 h2 h3
  have e1 : wsA cs (gup g E.length q) (E ++ [.inl (c0, dfl c0)]) = wsA cs g E ++ [(q, .inr (c0, dfl c0))] := by
    rw [wsA_push hE hs dfl_tr]
    unfold trE
    dsimp only
    rw [dfl_rz]
  exact kk q H1 ⟨by rw [e1]; exact h1, by rw [e1]; exact h2⟩ h3
end AL
