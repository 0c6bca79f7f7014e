/-! Calls that throw; the law's wrappers. -/
section CT
variable {p : Program} {l : Launch} {e : Env} {R : Room} {s : State} {m : MethodId} {args : Array Value} {below : List Frame} {meth : Method} {c : Code} {H : Heap} {locs : List Loc} {cl sl : Nat} {Q : State → Prop}
variable {cc : ByteArray} {pc n d G GS : Nat} {ls : Array Slot} {D : va_G} {cs : cid} {ad : Nat → Nat} {L : Nat} {xs : Nat → Int32} {base own : Nat} {M : Mm}
theorem callX_go {st0 rest : List Value} {QE : Nat → Mm → Prop} (hr : vx_Run p l e R s m args below meth c H locs cl sl 1 6 (F0 m pc ls st0) (rest.map (rz ad)) (fun _ _ _ => False) (XcC D cs ad L xs base QE) (AB base)) (hS : va_S (AB base) s.heap H locs)
    (kx : ∀ (k : Nat) (M' : Mm) (H1 : Heap) (locs1 : List Loc) (q : Addr) (ce : Cell), k < 4 → QE k M' → HOK D cs ad L xs M' H1 → va_S (AB base) s.heap H1 locs1 → H1[q]? = some ce → ce.vm = .none → s.vm.findClass (exN4.getD k "") = some ce.cls → vx_W p l e R s m args below meth c H1 locs1 (cl + 1) (sl + 6) Q (F0 m pc ls (rest.map (rz ad))) q) : W p l e R s m args below meth c H locs cl sl Q (F0 m pc ls st0) := by
  intro T hT X
  rcases hr T hT X with ⟨v, st₀, t, T', Lc, h0, X', hL, e1, e2, hF, st⟩ | ⟨q, st₀, t, T', Lc, E, ce, h0, X', hL, e1, e2, ⟨k, M', hk4, hE, hq, hh, hz, hk⟩, hce, hcv, hcl, st⟩
  · exact hF.elim
  · rw [h0] at hz hk
    have hS1 : va_S (AB base) s.heap T'.heap (locs ++ Lc) := ⟨Nat.le_trans hS.1 (by rw [e1]; exact hz), fun q h1 h2 => by rw [e1, hk q (Nat.lt_of_lt_of_le h1 hS.1) h2]; exact hS.2.1 q h1 h2, fun q hq => by
      rcases List.mem_append.mp hq with h | h
      · exact hS.2.2 q h
      · exact hL q h⟩
    subst hE
    obtain ⟨t2, a1, b1⟩ := kx k M' T'.heap (locs ++ Lc) q ce hk4 hq (by rw [e1]; exact hh) hS1 (by rw [e1]; exact hce) hcv hcl T' rfl X'
    exact ⟨t2, st.trans a1, b1⟩
theorem callSX_go (hc : CX p R s m args c own cc n D cs ad L xs base d G GS) {y : MethodName} {bytes : ByteArray} {ml na k : Nat} {ret : Option FieldType} {as rest : List Value} {QE : Nat → Mm → Prop} (hm : MF y bytes ml ret na) (hl : Cond.methodLink (on own) k y ∈ BIG) (hst : Cond.static y ∈ BIG)
    (hM : vx_Met l y (Cond.code y bytes ml ret :: BIG) (rmD d 1) (PcC D cs ad L xs base as M) (fun _ _ _ _ => False) (XcC D cs ad L xs base QE) 1 6 (AB base)) (hna : as.length = na) (hls : ls.size = n) (h8 : Nat.ble (cats rest) 8 = true) (hcl : cl + 1 ≤ G) (hsl : sl + 6 ≤ GS)
    (hH : HOK D cs ad L xs M H) (hS : va_S (AB base) s.heap H locs) (hd : decode cc pc = .ok (.invokestatic k, 3))
    (kx : ∀ (k : Nat) (M' : Mm) (H1 : Heap) (locs1 : List Loc) (q : Addr) (ce : Cell), k < 4 → QE k M' → HOK D cs ad L xs M' H1 → va_S (AB base) s.heap H1 locs1 → H1[q]? = some ce → ce.vm = .none → s.vm.findClass (exN4.getD k "") = some ce.cls → vx_W p l e R s m args below meth c H1 locs1 (cl + 1) (sl + 6) Q (F0 m pc ls (rest.map (rz ad))) q) : W p l e R s m args below meth c H locs cl sl Q (F0 m pc ls ((as.reverse ++ rest).map (rz ad))) := by
  have hcb := cb_of (g := 1) hc hm hl
  have hpre := pre_of (as := as) hc hH hS
  obtain ⟨h1, h2, h3, h4, h5, h6, h7, h8', h9, h10, h11, h12⟩ := hc
  refine callX_go (vx_runS (As := as.map (rz ad)) (rest := rest.map (rz ad)) ⟨h1, h2, h3, h5, h4⟩ hM ⟨hcb, h4 _ hst⟩ ⟨PcC.blind, hpre⟩ rfl (by rw [List.length_map]; exact hna) hls (by simp) (room8 h8) hd ⟨by omega, by omega⟩) hS kx
theorem callVX_go (hc : CX p R s m args c own cc n D cs ad L xs base d G GS) {y : MethodName} {bytes : ByteArray} {ml na k o : Nat} {ret : Option FieldType} {as rest : List Value} {QE : Nat → Mm → Prop} (hm : MF y bytes ml ret na) (hl : Cond.methodLink (on own) k y ∈ BIG) (hin : Cond.instanceMethod y ∈ BIG) (hse : Cond.selects y.cls y y ∈ BIG)
    (hrc : ∃ cellB : Cell, H[ad o]? = some cellB ∧ cellB.vm.isStatics = false ∧ s.vm.findClass y.cls = some cellB.cls)
    (hM : vx_Met l y (Cond.code y bytes ml ret :: BIG) (rmD d 1) (PcC D cs ad L xs base (.ref o :: as) M) (fun _ _ _ _ => False) (XcC D cs ad L xs base QE) 1 6 (AB base)) (hna : as.length = na) (hls : ls.size = n) (h8 : Nat.ble (cats rest) 8 = true) (hcl : cl + 1 ≤ G) (hsl : sl + 6 ≤ GS)
    (hH : HOK D cs ad L xs M H) (hS : va_S (AB base) s.heap H locs) (hd : decode cc pc = .ok (.invokevirtual k, 3))
    (kx : ∀ (k : Nat) (M' : Mm) (H1 : Heap) (locs1 : List Loc) (q : Addr) (ce : Cell), k < 4 → QE k M' → HOK D cs ad L xs M' H1 → va_S (AB base) s.heap H1 locs1 → H1[q]? = some ce → ce.vm = .none → s.vm.findClass (exN4.getD k "") = some ce.cls → vx_W p l e R s m args below meth c H1 locs1 (cl + 1) (sl + 6) Q (F0 m pc ls (rest.map (rz ad))) q) : W p l e R s m args below meth c H locs cl sl Q (F0 m pc ls (((.ref o :: as).reverse ++ rest).map (rz ad))) := by
  have hcb := cb_of (g := 1) hc hm hl
  have hpre := pre_of (as := .ref o :: as) hc hH hS
  obtain ⟨h1, h2, h3, h4, h5, h6, h7, h8', h9, h10, h11, h12⟩ := hc
  refine callX_go (vx_runV (As := as.map (rz ad)) (rest := rest.map (rz ad)) (b := ad o) ⟨h1, h2, h3, h5, h4⟩ hM ⟨hcb, h4 _ hin, h4 _ hse⟩ ⟨PcC.blind, hrc, hpre⟩ rfl (by rw [List.length_map]; exact hna) hls (by simp [rz]) (room8 h8) hd ⟨by omega, by omega⟩) hS kx
/-- the law's wrappers: they have a table of their own -/
def MFW (y : MethodName) (bytes : ByteArray) (ml : Nat) (ret : Option FieldType) (hh : List (Nat × Nat × Nat × Nat)) (na : Nat) : Prop := Cond.codeWith y bytes ml ret hh ∈ BIG ∧ Cond.initialized y.cls ∈ BIG ∧ (y.cls ≠ "java/lang/invoke/MethodHandle" ∧ y.cls ≠ "java/lang/invoke/VarHandle") ∧ (parseMethodDescriptor y.desc).map (fun d => d.parameters.length) = some na ∧ ml ≤ 40
theorem callW_go (hc : CX p R s m args c own cc n D cs ad L xs base d G GS) {y : MethodName} {bytes : ByteArray} {ml na k : Nat} {ret : Option FieldType} {hh : List (Nat × Nat × Nat × Nat)} {as rest : List Value} {Qm : List Value → Mm → Prop} (hm : MFW y bytes ml ret hh na) (hl : Cond.methodLink (on own) k y ∈ BIG) (hst : Cond.static y ∈ BIG)
    (hM : Met l y (Cond.codeWith y bytes ml ret hh :: BIG) (rmD d 1) (PcC D cs ad L xs base as M) (QcC D cs ad L xs base Qm) 1 6 (AB base)) (hna : as.length = na) (hls : ls.size = n) (h8 : Nat.ble (cats rest) 8 = true) (hcl : cl + 1 ≤ G) (hsl : sl + 6 ≤ GS)
    (hH : HOK D cs ad L xs M H) (hS : va_S (AB base) s.heap H locs) (hd : decode cc pc = .ok (.invokestatic k, 3))
    (kk : ∀ (vs : List Value) (M' : Mm) (H1 : Heap) (locs1 : List Loc), Qm vs M' → HOK D cs ad L xs M' H1 → va_S (AB base) s.heap H1 locs1 → W p l e R s m args below meth c H1 locs1 (cl + 1) (sl + 6) Q (F0 m (pc + 3) ls ((vs ++ rest).map (rz ad)))) : W p l e R s m args below meth c H locs cl sl Q (F0 m pc ls ((as.reverse ++ rest).map (rz ad))) := by
  have hpre := pre_of (as := as) hc hH hS
  obtain ⟨h1, h2, h3, h4, h5, h6, h7, h8', h9, h10, h11, h12⟩ := hc
  obtain ⟨m1, m2, m3, m4, m5⟩ := hm
  obtain ⟨r1, r2⟩ := room_ok (g := 1) m5 h9 h10
  have hcw : vx_CSW R s args (on own) k y bytes ml ret hh (Cond.codeWith y bytes ml ret hh :: BIG) (rmD d 1) 1 6 na :=
    ⟨⟨Eq.refl _, Eq.refl _, r1, r2, pay_in h4 (good_in _ m1), List.mem_cons_self⟩, h4 _ m1, h4 _ m2, m3, fun sig hsg => by rw [hsg] at m4; exact (Option.some.inj m4).symm, h4 _ hl, h4 _ hst⟩
  refine call_go (vx_runSW (As := as.map (rz ad)) (rest := rest.map (rz ad)) ⟨h1, h2, h3, h5, h4⟩ hM hcw ⟨PcC.blind, hpre⟩ rfl (by rw [List.length_map]; exact hna) hls (by simp) (room8 h8) hd ⟨by omega, by omega⟩) hS kk
end CT
