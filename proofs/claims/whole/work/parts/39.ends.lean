/-! Methods by number; what ends a method. -/
theorem hh_0 : ∀ k, k < 234 → hhOf k = [] := by
  intro k h
  have h1 : (List.range 234).all (fun k => (hhOf k).isEmpty) = true := by decide +kernel
  simpa using List.all_eq_true.mp h1 k (List.mem_range.mpr h)
theorem hh_1 : ∀ k, 234 ≤ k → k < 264 → ∃ a t, hhOf k = a :: t := by
  intro k h0 h
  have h1 : (List.range 264).all (fun k => Nat.blt k 234 || !(hhOf k).isEmpty) = true := by decide +kernel
  have h2 := List.all_eq_true.mp h1 k (List.mem_range.mpr h)
  simp only [Bool.or_eq_true] at h2
  rcases h2 with h2 | h2
  · have h3 : k < 234 := Nat.blt_eq.mp h2
    omega
  · cases e : hhOf k with
    | nil => rw [e] at h2; cases h2
    | cons a t => exact ⟨a, t, rfl⟩
theorem cd_0 {k : Nat} (h : k < 234) : cdW k = Cond.code (yOf k) (bOf k) (mlOf k) (rtOf k) := by
  unfold cdW
  rw [hh_0 k h]
theorem cd_1 {k : Nat} (h0 : 234 ≤ k) (h : k < 264) : cdW k = Cond.codeWith (yOf k) (bOf k) (mlOf k) (rtOf k) (hhOf k) := by
  unfold cdW
  obtain ⟨a, t, e⟩ := hh_1 k h0 h
  rw [e]
theorem cd_big {k : Nat} (h : k < 264) : cdW k ∈ BIG := by
  refine big_of (tbl_of (mc_all k h)) ?_
  rcases Nat.lt_or_ge k 234 with q | q
  · rw [cd_0 q]; rfl
  · rw [cd_1 q h]; rfl
theorem lw_of {i : Nat} {w : Cond} (h : lw_tbl[i]? = some w) : w ∈ lw_tbl := List.mem_of_getElem? h
theorem mt_of {k : Nat} (h : k < 264) : (stOf k = true → Cond.static (yOf k) ∈ BIG) ∧ (stOf k = false → Cond.instanceMethod (yOf k) ∈ BIG ∧ Cond.selects (yOf k).cls (yOf k) (yOf k) ∈ BIG) ∧ Cond.initialized (yOf k).cls ∈ BIG ∧ (yOf k).cls = on (owOf k) ∧ plainFor (yOf k) = true ∧ ((yOf k).cls ≠ "java/lang/invoke/MethodHandle" ∧ (yOf k).cls ≠ "java/lang/invoke/VarHandle") ∧ (parseMethodDescriptor (yOf k).desc).map (fun d => d.parameters.length) = some (naOf k) ∧ mlOf k ≤ 40 := by
  obtain ⟨e, he, rfl⟩ := mw_all k h
  obtain ⟨h1, h2, h3, h4, h5, h6, h7, h8⟩ := mwL_ok e he
  refine ⟨fun q => ?_, fun q => ⟨?_, ?_⟩, big_of (tbl_of (List.mem_of_getElem? h3)) rfl, h4, h5, h6, h7, h8⟩
  · rw [q] at h1
    exact big_of (tbl_of (List.mem_of_getElem? h1)) rfl
  · rw [q] at h1
    exact big_of (tbl_of (List.mem_of_getElem? h1)) rfl
  · rw [q] at h2
    rcases h2 with h2 | h2
    · cases h2
    · exact big_of (lw_of h2) rfl
theorem mf_of {k : Nat} (h : k < 234) : MF (yOf k) (bOf k) (mlOf k) (rtOf k) (naOf k) := by
  obtain ⟨h1, h2, h3, h4, h5, h6, h7, h8⟩ := mt_of (show k < 264 by omega)
  refine ⟨?_, h3, h6, h7, h8⟩
  rw [← cd_0 h]
  exact cd_big (by omega)
theorem mfw_of {k : Nat} (h0 : 234 ≤ k) (h : k < 264) : MFW (yOf k) (bOf k) (mlOf k) (rtOf k) (hhOf k) (naOf k) := by
  obtain ⟨h1, h2, h3, h4, h5, h6, h7, h8⟩ := mt_of h
  refine ⟨?_, h3, h6, h7, h8⟩
  rw [← cd_1 h0 h]
  exact cd_big h
theorem lm_in {own k n : Nat} (h : lkf lmL own k = some n) : Cond.methodLink (on own) k (yOf n) ∈ BIG ∧ n < 264 := by
  obtain ⟨e, he, h1, h2, h3⟩ := lkf_mem h
  have h4 := lmL_ok e he
  rw [h1, h2, h3] at h4
  exact ⟨big_of (tbl_of (List.mem_of_getElem? h4.1)) rfl, h4.2⟩
theorem rcq_spec {r : Nat} {as : List Value} {P : Prop} (h : rcq r as P) : P ∧ (r ≠ 0 → r ≠ 15 → ∃ o t, as = .ref o :: t ∧ (r = 8 → isE o = true) ∧ (r ≠ 8 → isOb (r - 1) o = true)) ∧ (r = 15 → ∃ o t, as = .ref o :: t ∧ isS o = true) := by
  unfold rcq at h
  split at h
  · exact ⟨h, fun q => absurd rfl q, fun q => by cases q⟩
  · split at h <;> first | exact h.elim | skip
    exact ⟨h.2, fun _ _ => ⟨_, _, rfl, fun _ => h.1, fun q => absurd rfl q⟩, fun q => by cases q⟩
  · split at h <;> first | exact h.elim | skip
    exact ⟨h.2, fun _ q => absurd rfl q, fun _ => ⟨_, _, rfl, h.1⟩⟩
  · rename_i r n8 n15
    split at h <;> first | exact h.elim | skip
    obtain ⟨h1, h2⟩ := cond_true h
    exact ⟨h2, fun _ _ => ⟨_, _, rfl, fun q => (n8 (by omega)).elim, fun _ => h1⟩, fun q => (n15 (by omega)).elim⟩
section CE
variable {p : Program} {l : Launch} {e : Env} {R : Room} {s : State} {m : MethodId} {args : Array Value} {below : List Frame} {meth : Method} {c : Code} {H : Heap} {locs : List Loc} {cl sl : Nat} {Q : State → Prop}
variable {cc : ByteArray} {pc n d G GS : Nat} {ls : Array Slot} {D : va_G} {cs : cid} {ad : Nat → Nat} {L : Nat} {xs : Nat → Int32} {base own : Nat} {M : Mm}
theorem rcv_of (hK : KOK D cs ad L xs base s) (hH : HOK D cs ad L xs M H) (hS : va_S (AB base) s.heap H locs) {o k : Nat} (hk : k < 13) (h1 : k + 1 = 8 → isE o = true) (h2 : k + 1 ≠ 8 → isOb k o = true) : ∃ cellB : Cell, H[ad o]? = some cellB ∧ cellB.vm.isStatics = false ∧ s.vm.findClass (on k) = some cellB.cls := by
  by_cases e7 : k + 1 = 8
  · have e : k = 7 := by omega
    subst e
    obtain ⟨i, hi, rfl⟩ := isE_spec (h1 rfl)
    exact va_recvE (i := i) hK.2.1.1 hi hS
  · obtain ⟨g1, g2, g3, g4⟩ := isOb_spec (h2 e7)
    obtain ⟨q0, -, hq⟩ := ws_at (cs := cs) (ad := ad) (M := M) g1
    rw [ent_ob g3, g2] at hq
    exact va_recv hK.1 hH.1 (clA k g4) hq
/-- a nest mate's static method -/
theorem callSN_go (hc : CX p R s m args c own cc n D cs ad L xs base d G GS) {y : MethodName} {bytes : ByteArray} {ml na k : Nat} {ret : Option FieldType} {host : String} {as rest : List Value} {Qm : List Value → Mm → Prop} (hm : MF y bytes ml ret na) (hl : va_Nw (.methodLinkNest (on own) k y host) s) (hst : Cond.static y ∈ BIG)
    (hM : Met l y (Cond.code y bytes ml ret :: BIG) (rmD d 0) (PcC D cs ad L xs base as M) (QcC D cs ad L xs base Qm) 0 0 (AB base)) (hna : as.length = na) (hls : ls.size = n) (h8 : Nat.ble (cats rest) 8 = true) (hcl : cl ≤ G) (hsl : sl ≤ GS)
    (hH : HOK D cs ad L xs M H) (hS : va_S (AB base) s.heap H locs) (hd : decode cc pc = .ok (.invokestatic k, 3))
    (kk : ∀ (vs : List Value) (M' : Mm) (H1 : Heap) (locs1 : List Loc), Qm vs M' → HOK D cs ad L xs M' H1 → va_S (AB base) s.heap H1 locs1 → W p l e R s m args below meth c H1 locs1 cl sl Q (F0 m (pc + 3) ls ((vs ++ rest).map (rz ad)))) : W p l e R s m args below meth c H locs cl sl Q (F0 m pc ls ((as.reverse ++ rest).map (rz ad))) := by
  have hpre := pre_of (as := as) hc hH hS
  obtain ⟨h1, h2, h3, h4, h5, h6, h7, h8', h9, h10, h11, h12⟩ := hc
  obtain ⟨m1, m2, m3, m4, m5⟩ := hm
  have hcn : va_CN R s args (on own) k y host bytes ml ret (Cond.code y bytes ml ret :: BIG) (rmD d 0) 0 0 na :=
    va_cnB (ws' := BIG) na h4 (good_in _ m1) (Eq.refl _) (Eq.refl _) (Eq.refl _) hl (h4 _ m2) ⟨m3.1, m3.2, m4⟩ (room_ok m5 h9 h10)
  refine call_go (va_runSN (As := as.map (rz ad)) (rest := rest.map (rz ad)) ⟨h1, h2, h3, h5, h4⟩ hM ⟨hcn, h4 _ hst, trivial⟩ ⟨PcC.blind, hpre⟩ rfl (by rw [List.length_map]; exact hna) hls (by simp) (room8 h8) hd ⟨by omega, by omega⟩) hS kk
theorem rz_st {as rest st : List Value} (h : st = as.reverse ++ rest) : st.map (rz ad) = (as.reverse ++ rest).map (rz ad) := by rw [h]
/-- a call of a method of the class, the reference or the library's three -/
theorem call_any (hc : CX p R s m args c own cc n D cs ad L xs base d G GS) {k len : Nat} {ri : Instr} (hr : relK own pc ri len k = true) (hm : k / 512 < 234) {st as rest : List Value} (hp : popA (k % 16) st [] = some (as, rest)) (h8 : Nat.ble (cats rest) 8 = true) {P : Prop} (hrc : rcq (k / 16 % 32) as P) {Qm : List Value → Mm → Prop}
    (hM : Met l (yOf (k / 512)) (Cond.code (yOf (k / 512)) (bOf (k / 512)) (mlOf (k / 512)) (rtOf (k / 512)) :: BIG) (rmD d 0) (PcC D cs ad L xs base as M) (QcC D cs ad L xs base Qm) 0 0 (AB base)) (hls : ls.size = n) (hcl : cl ≤ G) (hsl : sl ≤ GS)
    (hH : HOK D cs ad L xs M H) (hS : va_S (AB base) s.heap H locs) (hd : decode cc pc = .ok (ri, len))
    (kk : ∀ (vs : List Value) (M' : Mm) (H1 : Heap) (locs1 : List Loc), Qm vs M' → HOK D cs ad L xs M' H1 → va_S (AB base) s.heap H1 locs1 → W p l e R s m args below meth c H1 locs1 cl sl Q (F0 m (pc + len) ls ((vs ++ rest).map (rz ad)))) : W p l e R s m args below meth c H locs cl sl Q (F0 m pc ls (st.map (rz ad))) := by
  obtain ⟨a1, a2⟩ := popA_0 hp
  obtain ⟨b1, b2, b3, b4, b5, b6, b7, b8⟩ := mt_of (show k / 512 < 264 by omega)
  have hmf := mf_of hm
  rw [a2]
  unfold relK at hr
  split at hr
  · have q := and2 hr; have q2 := and2 q.2; have q3 := and2 q2.2; have q4 := and2 q3.2; have q5 := and2 q4.2
    have e1 := beqN q.1; subst e1
    have e2 := beqN q4.1; have e3 := beqN q5.1
    have e4 : owOf (k / 512) < 13 := Nat.blt_eq.mp q5.2
    have e5 : stOf (k / 512) = false := by simpa using q3.1
    obtain ⟨-, r1, -⟩ := rcq_spec hrc
    obtain ⟨o, t, rfl, t1, t2⟩ := r1 (by omega) (by omega)
    rw [e3] at t1 t2
    have hcell := rcv_of hc.2.2.2.2.2.1 hH hS e4 t1 (fun q => by simpa using t2 q)
    rw [← b4] at hcell
    refine callV_go hc hmf (lm_in (dec q2.1)).1 (b2 e5).1 (b2 e5).2 hcell hM ?_ hls h8 hcl hsl hH hS hd kk
    simp only [List.length_cons] at a1
    omega
  · have q := and2 hr; have q2 := and2 q.2
    have e1 := beqN q.1; subst e1
    simp only [Bool.or_eq_true] at q2
    rcases q2.2 with q3 | q3
    · have q4 := and2 q3; have q5 := and2 q4.2
      refine callS_go hc hmf (lm_in (dec q4.1)).1 (b1 q5.1) hM ?_ hls h8 hcl hsl hH hS hd kk
      rw [a1]; exact beqN q5.2
    · have q4 := and2 q3; have q5 := and2 q4.2; have q6 := and2 q5.2
      have e2 := beqN q4.1; have e3 := beqN q5.1; have e4 := beqN q6.1; have e5 := beqN q6.2
      have hst : stOf 127 = true := by decide +kernel
      have hna : naOf 127 = 4 := by decide +kernel
      rw [e4] at hmf hM b1
      refine callSN_go hc hmf (k := 86) (host := RX11) ?_ (b1 hst) hM (by rw [a1, e5, hna]) hls h8 hcl hsl hH hS (by rw [hd, e3]) kk
      have hw := hc.2.2.2.2.2.1.2.2.1.2.2.1
      rw [e2]
      exact hw
  · cases hr
/-- a call that throws -/
theorem call_thr (hc : CX p R s m args c own cc n D cs ad L xs base d G GS) {k len : Nat} {ri : Instr} (hr : relK own pc ri len k = true) (hne : k / 512 ≠ 127) (hm : k / 512 < 234) {st as rest : List Value} (hp : popA (k % 16) st [] = some (as, rest)) (h8 : Nat.ble (cats rest) 8 = true) {P : Prop} (hrc : rcq (k / 16 % 32) as P) {QE : Nat → Mm → Prop}
    (hM : vx_Met l (yOf (k / 512)) (Cond.code (yOf (k / 512)) (bOf (k / 512)) (mlOf (k / 512)) (rtOf (k / 512)) :: BIG) (rmD d 1) (PcC D cs ad L xs base as M) (fun _ _ _ _ => False) (XcC D cs ad L xs base QE) 1 6 (AB base)) (hls : ls.size = n) (hcl : cl + 1 ≤ G) (hsl : sl + 6 ≤ GS)
    (hH : HOK D cs ad L xs M H) (hS : va_S (AB base) s.heap H locs) (hd : decode cc pc = .ok (ri, len))
    (kx : ∀ (E : Nat) (M' : Mm) (H1 : Heap) (locs1 : List Loc) (q : Addr) (ce : Cell), E < 4 → QE E M' → HOK D cs ad L xs M' H1 → va_S (AB base) s.heap H1 locs1 → H1[q]? = some ce → ce.vm = .none → s.vm.findClass (exN4.getD E "") = some ce.cls → vx_W p l e R s m args below meth c H1 locs1 (cl + 1) (sl + 6) Q (F0 m pc ls (rest.map (rz ad))) q) : W p l e R s m args below meth c H locs cl sl Q (F0 m pc ls (st.map (rz ad))) := by
  obtain ⟨a1, a2⟩ := popA_0 hp
  obtain ⟨b1, b2, b3, b4, b5, b6, b7, b8⟩ := mt_of (show k / 512 < 264 by omega)
  have hmf := mf_of hm
  rw [a2]
  unfold relK at hr
  split at hr
  · have q := and2 hr; have q2 := and2 q.2; have q3 := and2 q2.2; have q4 := and2 q3.2; have q5 := and2 q4.2
    have e1 := beqN q.1; subst e1
    have e2 := beqN q4.1; have e3 := beqN q5.1
    have e4 : owOf (k / 512) < 13 := Nat.blt_eq.mp q5.2
    have e5 : stOf (k / 512) = false := by simpa using q3.1
    obtain ⟨-, r1, -⟩ := rcq_spec hrc
    obtain ⟨o, t, rfl, t1, t2⟩ := r1 (by omega) (by omega)
    rw [e3] at t1 t2
    have hcell := rcv_of hc.2.2.2.2.2.1 hH hS e4 t1 (fun q => by simpa using t2 q)
    rw [← b4] at hcell
    refine callVX_go hc hmf (lm_in (dec q2.1)).1 (b2 e5).1 (b2 e5).2 hcell hM ?_ hls h8 hcl hsl hH hS hd kx
    simp only [List.length_cons] at a1
    omega
  · have q := and2 hr; have q2 := and2 q.2
    have e1 := beqN q.1; subst e1
    simp only [Bool.or_eq_true] at q2
    rcases q2.2 with q3 | q3
    · have q4 := and2 q3; have q5 := and2 q4.2
      refine callSX_go hc hmf (lm_in (dec q4.1)).1 (b1 q5.1) hM ?_ hls h8 hcl hsl hH hS hd kx
      rw [a1]; exact beqN q5.2
    · have q4 := and2 q3; have q5 := and2 q4.2; have q6 := and2 q5.2
      exact absurd (beqN q6.1) hne
  · cases hr
/-- a call of one of the law's wrappers -/
theorem call_wra (hc : CX p R s m args c own cc n D cs ad L xs base d G GS) {k len : Nat} {ri : Instr} (hr : relK own pc ri len k = true) (h0 : 234 ≤ k / 512) (hm : k / 512 < 264) (hall : stOf (k / 512) = true) {st as rest : List Value} (hp : popA (k % 16) st [] = some (as, rest)) (h8 : Nat.ble (cats rest) 8 = true) {Qm : List Value → Mm → Prop}
    (hM : Met l (yOf (k / 512)) (Cond.codeWith (yOf (k / 512)) (bOf (k / 512)) (mlOf (k / 512)) (rtOf (k / 512)) (hhOf (k / 512)) :: BIG) (rmD d 1) (PcC D cs ad L xs base as M) (QcC D cs ad L xs base Qm) 1 6 (AB base)) (hls : ls.size = n) (hcl : cl + 1 ≤ G) (hsl : sl + 6 ≤ GS)
    (hH : HOK D cs ad L xs M H) (hS : va_S (AB base) s.heap H locs) (hd : decode cc pc = .ok (ri, len))
    (kk : ∀ (vs : List Value) (M' : Mm) (H1 : Heap) (locs1 : List Loc), Qm vs M' → HOK D cs ad L xs M' H1 → va_S (AB base) s.heap H1 locs1 → W p l e R s m args below meth c H1 locs1 (cl + 1) (sl + 6) Q (F0 m (pc + len) ls ((vs ++ rest).map (rz ad)))) : W p l e R s m args below meth c H locs cl sl Q (F0 m pc ls (st.map (rz ad))) := by
  obtain ⟨a1, a2⟩ := popA_0 hp
  obtain ⟨b1, b2, b3, b4, b5, b6, b7, b8⟩ := mt_of hm
  have hmf := mfw_of h0 hm
  rw [a2]
  unfold relK at hr
  split at hr
  · have q := and2 hr; have q2 := and2 q.2; have q3 := and2 q2.2
    rw [hall] at q3
    exact absurd q3.1 (by decide)
  · have q := and2 hr; have q2 := and2 q.2
    have e1 := beqN q.1; subst e1
    simp only [Bool.or_eq_true] at q2
    rcases q2.2 with q3 | q3
    · have q4 := and2 q3; have q5 := and2 q4.2
      refine callW_go hc hmf (lm_in (dec q4.1)).1 (b1 q5.1) hM ?_ hls h8 hcl hsl hH hS hd kk
      rw [a1]; exact beqN q5.2
    · have q4 := and2 q3; have q5 := and2 q4.2; have q6 := and2 q5.2
      have := beqN q6.1
      omega
  · cases hr
end CE
/-- an answer of the method's kind -/
def retOK (rt : Option FieldType) (i : Instr) (vs : List Value) : Prop :=
  (i = .ireturn ∧ (∃ x, vs = [.int x]) ∧ rt = some .int) ∨ (i = .freturn ∧ (∃ x, (x = 0 ∨ x = 1) ∧ vs = [.int x]) ∧ rt = some .boolean) ∨ (i = .lreturn ∧ (∃ x, vs = [.long x]) ∧ rt = some .long) ∨
  (i = .areturn ∧ (∃ x, isE x = true ∧ vs = [.ref x]) ∧ rt = some (.object "WellPumps$Thing")) ∨ (i = .return_ ∧ vs = [] ∧ rt = none)
theorem st_w : ∀ k, 234 ≤ k → k < 264 → stOf k = true := by
  intro k h0 h
  have h1 : (List.range 264).all (fun k => Nat.blt k 234 || stOf k) = true := by decide +kernel
  have h2 := List.all_eq_true.mp h1 k (List.mem_range.mpr h)
  simp only [Bool.or_eq_true] at h2
  rcases h2 with h2 | h2
  · have h3 : k < 234 := Nat.blt_eq.mp h2
    omega
  · exact h2
section RT
variable {p : Program} {l : Launch} {e : Env} {R : Room} {s : State} {m : MethodId} {args : Array Value} {below : List Frame} {meth : Method} {c : Code} {H : Heap} {locs : List Loc} {cl sl : Nat}
variable {cc : ByteArray} {pc len G GS : Nat} {ls : Array Slot} {D : va_G} {cs : cid} {ad : Nat → Nat} {L : Nat} {xs : Nat → Int32} {base own : Nat} {M : Mm}
theorem ret_go (hx : p.tables.exec = Jvm.exec) (hb : c.code = cc) {rt : Option FieldType} (hrt : meth.sig.returnType = rt) (hlk : meth.locks = false) {Qm : List Value → Mm → Prop} {i ri : Instr} {vs : List Value} (hq : Qm vs M) (ho : retOK rt i vs) (hr : relC own pc ri len i = true) (hd : decode cc pc = .ok (ri, len))
    (hH : HOK D cs ad L xs M H) (hS : va_S (AB base) s.heap H locs) (hcl : cl ≤ G) (hsl : sl ≤ GS) : W p l e R s m args below meth c H locs cl sl (MQ below (QcC D cs ad L xs base Qm) args s G GS (AB base)) (F0 m pc ls (vs.map (rz ad))) := by
  refine W.widen hcl hsl ?_
  have key : ∀ (v : Option Value) (t : State), v = (vs.map (rz ad)).head? → vs.length ≤ 1 → t.heap = H → s.WarmedH t.vm → QcC D cs ad L xs base Qm args s (.returned v) t := fun v t hv hl ht _ => ⟨⟨vs, M, by rw [hv], hl, hq, by rw [ht]; exact hH⟩, hS.F ht⟩
  rcases ho with ⟨rfl, ⟨x, rfl⟩, e2⟩ | ⟨rfl, ⟨x, hx2, rfl⟩, e2⟩ | ⟨rfl, ⟨x, rfl⟩, e2⟩ | ⟨rfl, ⟨x, -, rfl⟩, e2⟩ | ⟨rfl, rfl, e2⟩
  · unfold relC at hr; dsimp only at hr
    have q := and2 hr; have e3 := beqN q.1; have e4 := dec q.2; subst e3; subst e4
    exact W.iret hx hb (hrt.trans e2) (fun t h1 h2 => key _ t rfl (Nat.le_refl _) h1 h2) hS.2.2 hd hlk
  · unfold relC at hr; dsimp only at hr
    have q := and2 hr; have e3 := beqN q.1; have e4 := dec q.2; subst e3; subst e4
    refine W.zret hx hb (hrt.trans e2) ?_ (fun t h1 h2 => key _ t rfl (Nat.le_refl _) h1 h2) hS.2.2 hd hlk
    rcases hx2 with h | h <;> subst h <;> rfl
  · unfold relC at hr; dsimp only at hr
    have q := and2 hr; have e3 := beqN q.1; have e4 := dec q.2; subst e3; subst e4
    exact W.lret hx hb (hrt.trans e2) (fun t h1 h2 => key _ t rfl (Nat.le_refl _) h1 h2) hS.2.2 hd hlk
  · unfold relC at hr; dsimp only at hr
    have q := and2 hr; have e3 := beqN q.1; have e4 := dec q.2; subst e3; subst e4
    exact W.aret hx hb (hrt.trans e2) (Or.inl ⟨_, rfl⟩) (Or.inr ⟨_, rfl⟩) (fun t h1 h2 => key _ t rfl (Nat.le_refl _) h1 h2) hS.2.2 hd hlk
  · unfold relC at hr; dsimp only at hr
    have q := and2 hr; have e3 := beqN q.1; have e4 := dec q.2; subst e3; subst e4
    exact W.vret hx hb (hrt.trans e2) (fun t h1 h2 => key _ t rfl (by decide) h1 h2) hS.2.2 hd hlk
end RT
